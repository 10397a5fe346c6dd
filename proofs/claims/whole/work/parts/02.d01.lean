theorem dX0_init_0 : decode cX0_init 0 = .ok (.aload_n 0, 1) := by decide +kernel
theorem dX0_init_1 : decode cX0_init 1 = .ok (.invokespecial 3, 3) := by decide +kernel
theorem dX0_init_4 : decode cX0_init 4 = .ok (.aload_n 0, 1) := by decide +kernel
theorem dX0_init_5 : decode cX0_init 5 = .ok (.bipush 6, 2) := by decide +kernel
theorem dX0_init_7 : decode cX0_init 7 = .ok (.newarray .int, 2) := by decide +kernel
theorem dX0_init_9 : decode cX0_init 9 = .ok (.putfield 9, 3) := by decide +kernel
theorem dX0_init_12 : decode cX0_init 12 = .ok (.aload_n 0, 1) := by decide +kernel
theorem dX0_init_13 : decode cX0_init 13 = .ok (.bipush 6, 2) := by decide +kernel
theorem dX0_init_15 : decode cX0_init 15 = .ok (.newarray .int, 2) := by decide +kernel
theorem dX0_init_17 : decode cX0_init 17 = .ok (.putfield 15, 3) := by decide +kernel
theorem dX0_init_20 : decode cX0_init 20 = .ok (.aload_n 0, 1) := by decide +kernel
theorem dX0_init_21 : decode cX0_init 21 = .ok (.getfield 9, 3) := by decide +kernel
theorem dX0_init_24 : decode cX0_init 24 = .ok (.iconst 0, 1) := by decide +kernel
theorem dX0_init_25 : decode cX0_init 25 = .ok (.iload_n 1, 1) := by decide +kernel
theorem dX0_init_26 : decode cX0_init 26 = .ok (.bipush 100, 2) := by decide +kernel
theorem dX0_init_28 : decode cX0_init 28 = .ok (.idiv, 1) := by decide +kernel
theorem dX0_init_29 : decode cX0_init 29 = .ok (.iastore, 1) := by decide +kernel
theorem dX0_init_30 : decode cX0_init 30 = .ok (.aload_n 0, 1) := by decide +kernel
theorem dX0_init_31 : decode cX0_init 31 = .ok (.getfield 9, 3) := by decide +kernel
theorem dX0_init_34 : decode cX0_init 34 = .ok (.iconst 3, 1) := by decide +kernel
theorem dX0_init_35 : decode cX0_init 35 = .ok (.iload_n 1, 1) := by decide +kernel
theorem dX0_init_36 : decode cX0_init 36 = .ok (.bipush 100, 2) := by decide +kernel
theorem dX0_init_38 : decode cX0_init 38 = .ok (.irem, 1) := by decide +kernel
theorem dX0_init_39 : decode cX0_init 39 = .ok (.iastore, 1) := by decide +kernel
theorem dX0_init_40 : decode cX0_init 40 = .ok (.aload_n 0, 1) := by decide +kernel
theorem dX0_init_41 : decode cX0_init 41 = .ok (.getfield 9, 3) := by decide +kernel
theorem dX0_init_44 : decode cX0_init 44 = .ok (.iconst 2, 1) := by decide +kernel
theorem dX0_init_45 : decode cX0_init 45 = .ok (.iload_n 2, 1) := by decide +kernel
theorem dX0_init_46 : decode cX0_init 46 = .ok (.sipush 1000, 3) := by decide +kernel
theorem dX0_init_49 : decode cX0_init 49 = .ok (.idiv, 1) := by decide +kernel
theorem dX0_init_50 : decode cX0_init 50 = .ok (.iastore, 1) := by decide +kernel
theorem dX0_init_51 : decode cX0_init 51 = .ok (.aload_n 0, 1) := by decide +kernel
theorem dX0_init_52 : decode cX0_init 52 = .ok (.getfield 9, 3) := by decide +kernel
theorem dX0_init_55 : decode cX0_init 55 = .ok (.iconst 1, 1) := by decide +kernel
theorem dX0_init_56 : decode cX0_init 56 = .ok (.iload_n 2, 1) := by decide +kernel
theorem dX0_init_57 : decode cX0_init 57 = .ok (.sipush 1000, 3) := by decide +kernel
theorem dX0_init_60 : decode cX0_init 60 = .ok (.irem, 1) := by decide +kernel
theorem dX0_init_61 : decode cX0_init 61 = .ok (.iastore, 1) := by decide +kernel
theorem dX0_init_62 : decode cX0_init 62 = .ok (.aload_n 0, 1) := by decide +kernel
theorem dX0_init_63 : decode cX0_init 63 = .ok (.getfield 9, 3) := by decide +kernel
theorem dX0_init_66 : decode cX0_init 66 = .ok (.iconst 4, 1) := by decide +kernel
theorem dX0_init_67 : decode cX0_init 67 = .ok (.iconst 0, 1) := by decide +kernel
theorem dX0_init_68 : decode cX0_init 68 = .ok (.iastore, 1) := by decide +kernel
theorem dX0_init_69 : decode cX0_init 69 = .ok (.aload_n 0, 1) := by decide +kernel
theorem dX0_init_70 : decode cX0_init 70 = .ok (.getfield 9, 3) := by decide +kernel
theorem dX0_init_73 : decode cX0_init 73 = .ok (.iconst 5, 1) := by decide +kernel
theorem dX0_init_74 : decode cX0_init 74 = .ok (.iconst (-1), 1) := by decide +kernel
theorem dX0_init_75 : decode cX0_init 75 = .ok (.iastore, 1) := by decide +kernel
theorem dX0_init_76 : decode cX0_init 76 = .ok (.return_, 1) := by decide +kernel
theorem dX0_kind_0 : decode cX0_kind 0 = .ok (.iconst 0, 1) := by decide +kernel
theorem dX0_kind_1 : decode cX0_kind 1 = .ok (.ireturn, 1) := by decide +kernel
theorem dX0_rows_0 : decode cX0_rows 0 = .ok (.iconst 2, 1) := by decide +kernel
theorem dX0_rows_1 : decode cX0_rows 1 = .ok (.iload_n 1, 1) := by decide +kernel
theorem dX0_rows_2 : decode cX0_rows 2 = .ok (.iconst 2, 1) := by decide +kernel
theorem dX0_rows_3 : decode cX0_rows 3 = .ok (.idiv, 1) := by decide +kernel
theorem dX0_rows_4 : decode cX0_rows 4 = .ok (.iadd, 1) := by decide +kernel
theorem dX0_rows_5 : decode cX0_rows 5 = .ok (.ireturn, 1) := by decide +kernel
theorem dX0_hears_0 : decode cX0_hears 0 = .ok (.bipush 12, 2) := by decide +kernel
theorem dX0_hears_2 : decode cX0_hears 2 = .ok (.iload_n 1, 1) := by decide +kernel
theorem dX0_hears_3 : decode cX0_hears 3 = .ok (.isub, 1) := by decide +kernel
theorem dX0_hears_4 : decode cX0_hears 4 = .ok (.ireturn, 1) := by decide +kernel
theorem dX0_owes_0 : decode cX0_owes 0 = .ok (.iload_n 1, 1) := by decide +kernel
theorem dX0_owes_1 : decode cX0_owes 1 = .ok (.bipush 14, 2) := by decide +kernel
theorem dX0_owes_3 : decode cX0_owes 3 = .ok (.iadd, 1) := by decide +kernel
theorem dX0_owes_4 : decode cX0_owes 4 = .ok (.bipush 15, 2) := by decide +kernel
theorem dX0_owes_6 : decode cX0_owes 6 = .ok (.idiv, 1) := by decide +kernel
theorem dX0_owes_7 : decode cX0_owes 7 = .ok (.iload_n 2, 1) := by decide +kernel
theorem dX0_owes_8 : decode cX0_owes 8 = .ok (.imul, 1) := by decide +kernel
theorem dX0_owes_9 : decode cX0_owes 9 = .ok (.ireturn, 1) := by decide +kernel
theorem dX0_rowsBy_0 : decode cX0_rowsBy 0 = .ok (.iconst 1, 1) := by decide +kernel
theorem dX0_rowsBy_1 : decode cX0_rowsBy 1 = .ok (.aload_n 0, 1) := by decide +kernel
theorem dX0_rowsBy_2 : decode cX0_rowsBy 2 = .ok (.iload_n 1, 1) := by decide +kernel
theorem dX0_rowsBy_3 : decode cX0_rowsBy 3 = .ok (.invokevirtual 18, 3) := by decide +kernel
theorem dX0_rowsBy_6 : decode cX0_rowsBy 6 = .ok (.invokestatic 22, 3) := by decide +kernel
theorem dX0_rowsBy_9 : decode cX0_rowsBy 9 = .ok (.ireturn, 1) := by decide +kernel
theorem dX0_hearsBy_0 : decode cX0_hearsBy 0 = .ok (.iconst 0, 1) := by decide +kernel
theorem dX0_hearsBy_1 : decode cX0_hearsBy 1 = .ok (.aload_n 0, 1) := by decide +kernel
theorem dX0_hearsBy_2 : decode cX0_hearsBy 2 = .ok (.iload_n 1, 1) := by decide +kernel
theorem dX0_hearsBy_3 : decode cX0_hearsBy 3 = .ok (.invokevirtual 28, 3) := by decide +kernel
theorem dX0_hearsBy_6 : decode cX0_hearsBy 6 = .ok (.invokestatic 22, 3) := by decide +kernel
theorem dX0_hearsBy_9 : decode cX0_hearsBy 9 = .ok (.ireturn, 1) := by decide +kernel
theorem dX0_owesBy_0 : decode cX0_owesBy 0 = .ok (.iconst 0, 1) := by decide +kernel
theorem dX0_owesBy_1 : decode cX0_owesBy 1 = .ok (.aload_n 0, 1) := by decide +kernel
theorem dX0_owesBy_2 : decode cX0_owesBy 2 = .ok (.iload_n 1, 1) := by decide +kernel
theorem dX0_owesBy_3 : decode cX0_owesBy 3 = .ok (.iload_n 2, 1) := by decide +kernel
theorem dX0_owesBy_4 : decode cX0_owesBy 4 = .ok (.invokevirtual 31, 3) := by decide +kernel
theorem dX0_owesBy_7 : decode cX0_owesBy 7 = .ok (.invokestatic 22, 3) := by decide +kernel
theorem dX0_owesBy_10 : decode cX0_owesBy 10 = .ok (.ireturn, 1) := by decide +kernel
theorem dX0_due_0 : decode cX0_due 0 = .ok (.aload_n 0, 1) := by decide +kernel
theorem dX0_due_1 : decode cX0_due 1 = .ok (.getfield 9, 3) := by decide +kernel
theorem dX0_due_4 : decode cX0_due 4 = .ok (.iconst 1, 1) := by decide +kernel
theorem dX0_due_5 : decode cX0_due 5 = .ok (.iaload, 1) := by decide +kernel
theorem dX0_due_6 : decode cX0_due 6 = .ok (.aload_n 0, 1) := by decide +kernel
theorem dX0_due_7 : decode cX0_due 7 = .ok (.getfield 9, 3) := by decide +kernel
theorem dX0_due_10 : decode cX0_due 10 = .ok (.iconst 2, 1) := by decide +kernel
theorem dX0_due_11 : decode cX0_due 11 = .ok (.iaload, 1) := by decide +kernel
theorem dX0_due_12 : decode cX0_due 12 = .ok (.iadd, 1) := by decide +kernel
theorem dX0_due_13 : decode cX0_due 13 = .ok (.ireturn, 1) := by decide +kernel
theorem dX0_keep_0 : decode cX0_keep 0 = .ok (.aload_n 0, 1) := by decide +kernel
theorem dX0_keep_1 : decode cX0_keep 1 = .ok (.getfield 9, 3) := by decide +kernel
theorem dX0_keep_4 : decode cX0_keep 4 = .ok (.iconst 0, 1) := by decide +kernel
theorem dX0_keep_5 : decode cX0_keep 5 = .ok (.aload_n 0, 1) := by decide +kernel
theorem dX0_keep_6 : decode cX0_keep 6 = .ok (.getfield 15, 3) := by decide +kernel
theorem dX0_keep_9 : decode cX0_keep 9 = .ok (.iconst 0, 1) := by decide +kernel
theorem dX0_keep_10 : decode cX0_keep 10 = .ok (.bipush 6, 2) := by decide +kernel
theorem dX0_keep_12 : decode cX0_keep 12 = .ok (.invokestatic 34, 3) := by decide +kernel
theorem dX0_keep_15 : decode cX0_keep 15 = .ok (.return_, 1) := by decide +kernel
theorem dX0_layBack_0 : decode cX0_layBack 0 = .ok (.aload_n 0, 1) := by decide +kernel
theorem dX0_layBack_1 : decode cX0_layBack 1 = .ok (.getfield 15, 3) := by decide +kernel
theorem dX0_layBack_4 : decode cX0_layBack 4 = .ok (.iconst 0, 1) := by decide +kernel
theorem dX0_layBack_5 : decode cX0_layBack 5 = .ok (.aload_n 0, 1) := by decide +kernel
theorem dX0_layBack_6 : decode cX0_layBack 6 = .ok (.getfield 9, 3) := by decide +kernel
theorem dX0_layBack_9 : decode cX0_layBack 9 = .ok (.iconst 0, 1) := by decide +kernel
theorem dX0_layBack_10 : decode cX0_layBack 10 = .ok (.bipush 6, 2) := by decide +kernel
theorem dX0_layBack_12 : decode cX0_layBack 12 = .ok (.invokestatic 34, 3) := by decide +kernel
theorem dX0_layBack_15 : decode cX0_layBack 15 = .ok (.return_, 1) := by decide +kernel
theorem dX1_init_0 : decode cX1_init 0 = .ok (.aload_n 0, 1) := by decide +kernel
theorem dX1_init_1 : decode cX1_init 1 = .ok (.iload_n 1, 1) := by decide +kernel
theorem dX1_init_2 : decode cX1_init 2 = .ok (.iload_n 2, 1) := by decide +kernel
theorem dX1_init_3 : decode cX1_init 3 = .ok (.invokespecial 1, 3) := by decide +kernel
theorem dX1_init_6 : decode cX1_init 6 = .ok (.return_, 1) := by decide +kernel
theorem dX1_kind_0 : decode cX1_kind 0 = .ok (.iconst 4, 1) := by decide +kernel
theorem dX1_kind_1 : decode cX1_kind 1 = .ok (.ireturn, 1) := by decide +kernel
theorem dX1_hears_0 : decode cX1_hears 0 = .ok (.aload_n 0, 1) := by decide +kernel
theorem dX1_hears_1 : decode cX1_hears 1 = .ok (.iload_n 1, 1) := by decide +kernel
theorem dX1_hears_2 : decode cX1_hears 2 = .ok (.invokespecial 7, 3) := by decide +kernel
theorem dX1_hears_5 : decode cX1_hears 5 = .ok (.iconst 2, 1) := by decide +kernel
theorem dX1_hears_6 : decode cX1_hears 6 = .ok (.idiv, 1) := by decide +kernel
theorem dX1_hears_7 : decode cX1_hears 7 = .ok (.ireturn, 1) := by decide +kernel
theorem dX1_owes_0 : decode cX1_owes 0 = .ok (.aload_n 0, 1) := by decide +kernel
theorem dX1_owes_1 : decode cX1_owes 1 = .ok (.iload_n 1, 1) := by decide +kernel
theorem dX1_owes_2 : decode cX1_owes 2 = .ok (.iload_n 2, 1) := by decide +kernel
theorem dX1_owes_3 : decode cX1_owes 3 = .ok (.invokespecial 11, 3) := by decide +kernel
theorem dX1_owes_6 : decode cX1_owes 6 = .ok (.iconst 2, 1) := by decide +kernel
theorem dX1_owes_7 : decode cX1_owes 7 = .ok (.iadd, 1) := by decide +kernel
theorem dX1_owes_8 : decode cX1_owes 8 = .ok (.ireturn, 1) := by decide +kernel
theorem dX2_init_0 : decode cX2_init 0 = .ok (.aload_n 0, 1) := by decide +kernel
theorem dX2_init_1 : decode cX2_init 1 = .ok (.iload_n 1, 1) := by decide +kernel
theorem dX2_init_2 : decode cX2_init 2 = .ok (.iload_n 2, 1) := by decide +kernel
theorem dX2_init_3 : decode cX2_init 3 = .ok (.invokespecial 3, 3) := by decide +kernel
theorem dX2_init_6 : decode cX2_init 6 = .ok (.return_, 1) := by decide +kernel
theorem dX2_kind_0 : decode cX2_kind 0 = .ok (.iconst 3, 1) := by decide +kernel
theorem dX2_kind_1 : decode cX2_kind 1 = .ok (.ireturn, 1) := by decide +kernel
theorem dX2_rows_0 : decode cX2_rows 0 = .ok (.aload_n 0, 1) := by decide +kernel
theorem dX2_rows_1 : decode cX2_rows 1 = .ok (.iload_n 1, 1) := by decide +kernel
theorem dX2_rows_2 : decode cX2_rows 2 = .ok (.invokespecial 9, 3) := by decide +kernel
theorem dX2_rows_5 : decode cX2_rows 5 = .ok (.aload_n 0, 1) := by decide +kernel
theorem dX2_rows_6 : decode cX2_rows 6 = .ok (.getfield 13, 3) := by decide +kernel
theorem dX2_rows_9 : decode cX2_rows 9 = .ok (.iconst 3, 1) := by decide +kernel
theorem dX2_rows_10 : decode cX2_rows 10 = .ok (.iaload, 1) := by decide +kernel
theorem dX2_rows_11 : decode cX2_rows 11 = .ok (.iadd, 1) := by decide +kernel
theorem dX2_rows_12 : decode cX2_rows 12 = .ok (.ireturn, 1) := by decide +kernel
theorem dX2_owes_0 : decode cX2_owes 0 = .ok (.iconst 0, 1) := by decide +kernel
theorem dX2_owes_1 : decode cX2_owes 1 = .ok (.ireturn, 1) := by decide +kernel
theorem dX3_init_0 : decode cX3_init 0 = .ok (.aload_n 0, 1) := by decide +kernel
theorem dX3_init_1 : decode cX3_init 1 = .ok (.iload_n 1, 1) := by decide +kernel
theorem dX3_init_2 : decode cX3_init 2 = .ok (.iload_n 2, 1) := by decide +kernel
theorem dX3_init_3 : decode cX3_init 3 = .ok (.invokespecial 3, 3) := by decide +kernel
theorem dX3_init_6 : decode cX3_init 6 = .ok (.return_, 1) := by decide +kernel
theorem dX3_kind_0 : decode cX3_kind 0 = .ok (.iconst 5, 1) := by decide +kernel
theorem dX3_kind_1 : decode cX3_kind 1 = .ok (.ireturn, 1) := by decide +kernel
theorem dX3_rows_0 : decode cX3_rows 0 = .ok (.iconst 2, 1) := by decide +kernel
theorem dX3_rows_1 : decode cX3_rows 1 = .ok (.aload_n 0, 1) := by decide +kernel
theorem dX3_rows_2 : decode cX3_rows 2 = .ok (.iload_n 1, 1) := by decide +kernel
theorem dX3_rows_3 : decode cX3_rows 3 = .ok (.invokespecial 9, 3) := by decide +kernel
theorem dX3_rows_6 : decode cX3_rows 6 = .ok (.imul, 1) := by decide +kernel
theorem dX3_rows_7 : decode cX3_rows 7 = .ok (.ireturn, 1) := by decide +kernel
theorem dX3_hears_0 : decode cX3_hears 0 = .ok (.aload_n 0, 1) := by decide +kernel
theorem dX3_hears_1 : decode cX3_hears 1 = .ok (.getfield 13, 3) := by decide +kernel
theorem dX3_hears_4 : decode cX3_hears 4 = .ok (.iconst 3, 1) := by decide +kernel
theorem dX3_hears_5 : decode cX3_hears 5 = .ok (.iaload, 1) := by decide +kernel
theorem dX3_hears_6 : decode cX3_hears 6 = .ok (.iconst 2, 1) := by decide +kernel
theorem dX3_hears_7 : decode cX3_hears 7 = .ok (.irem, 1) := by decide +kernel
theorem dX3_hears_8 : decode cX3_hears 8 = .ok (.ifCond .eq 7, 3) := by decide +kernel
theorem dX3_hears_11 : decode cX3_hears 11 = .ok (.iconst 0, 1) := by decide +kernel
theorem dX3_hears_12 : decode cX3_hears 12 = .ok (.goto 8, 3) := by decide +kernel
theorem dX3_hears_15 : decode cX3_hears 15 = .ok (.aload_n 0, 1) := by decide +kernel
theorem dX3_hears_16 : decode cX3_hears 16 = .ok (.iload_n 1, 1) := by decide +kernel
theorem dX3_hears_17 : decode cX3_hears 17 = .ok (.invokespecial 19, 3) := by decide +kernel
theorem dX3_hears_20 : decode cX3_hears 20 = .ok (.ireturn, 1) := by decide +kernel
theorem dX3_owes_0 : decode cX3_owes 0 = .ok (.aload_n 0, 1) := by decide +kernel
theorem dX3_owes_1 : decode cX3_owes 1 = .ok (.iload_n 1, 1) := by decide +kernel
theorem dX3_owes_2 : decode cX3_owes 2 = .ok (.iload_n 2, 1) := by decide +kernel
theorem dX3_owes_3 : decode cX3_owes 3 = .ok (.invokespecial 22, 3) := by decide +kernel
theorem dX3_owes_6 : decode cX3_owes 6 = .ok (.istore_n 3, 1) := by decide +kernel
theorem dX3_owes_7 : decode cX3_owes 7 = .ok (.iload_n 3, 1) := by decide +kernel
theorem dX3_owes_8 : decode cX3_owes 8 = .ok (.ifCond .le 14, 3) := by decide +kernel
theorem dX3_owes_11 : decode cX3_owes 11 = .ok (.iload_n 3, 1) := by decide +kernel
theorem dX3_owes_12 : decode cX3_owes 12 = .ok (.aload_n 0, 1) := by decide +kernel
theorem dX3_owes_13 : decode cX3_owes 13 = .ok (.getfield 13, 3) := by decide +kernel
theorem dX3_owes_16 : decode cX3_owes 16 = .ok (.iconst 3, 1) := by decide +kernel
theorem dX3_owes_17 : decode cX3_owes 17 = .ok (.iaload, 1) := by decide +kernel
theorem dX3_owes_18 : decode cX3_owes 18 = .ok (.iadd, 1) := by decide +kernel
theorem dX3_owes_19 : decode cX3_owes 19 = .ok (.goto 4, 3) := by decide +kernel
theorem dX3_owes_22 : decode cX3_owes 22 = .ok (.iconst 0, 1) := by decide +kernel
theorem dX3_owes_23 : decode cX3_owes 23 = .ok (.ireturn, 1) := by decide +kernel
theorem dX4_init_0 : decode cX4_init 0 = .ok (.aload_n 0, 1) := by decide +kernel
theorem dX4_init_1 : decode cX4_init 1 = .ok (.iload_n 1, 1) := by decide +kernel
theorem dX4_init_2 : decode cX4_init 2 = .ok (.iload_n 2, 1) := by decide +kernel
theorem dX4_init_3 : decode cX4_init 3 = .ok (.invokespecial 1, 3) := by decide +kernel
theorem dX4_init_6 : decode cX4_init 6 = .ok (.return_, 1) := by decide +kernel
theorem dX4_kind_0 : decode cX4_kind 0 = .ok (.iconst 2, 1) := by decide +kernel
theorem dX4_kind_1 : decode cX4_kind 1 = .ok (.ireturn, 1) := by decide +kernel
theorem dX4_rows_0 : decode cX4_rows 0 = .ok (.aload_n 0, 1) := by decide +kernel
theorem dX4_rows_1 : decode cX4_rows 1 = .ok (.iload_n 1, 1) := by decide +kernel
theorem dX4_rows_2 : decode cX4_rows 2 = .ok (.invokespecial 7, 3) := by decide +kernel
theorem dX4_rows_5 : decode cX4_rows 5 = .ok (.iload_n 1, 1) := by decide +kernel
theorem dX4_rows_6 : decode cX4_rows 6 = .ok (.iadd, 1) := by decide +kernel
theorem dX4_rows_7 : decode cX4_rows 7 = .ok (.ireturn, 1) := by decide +kernel
theorem dX4_hears_0 : decode cX4_hears 0 = .ok (.aload_n 0, 1) := by decide +kernel
theorem dX4_hears_1 : decode cX4_hears 1 = .ok (.iload_n 1, 1) := by decide +kernel
theorem dX4_hears_2 : decode cX4_hears 2 = .ok (.invokespecial 11, 3) := by decide +kernel
theorem dX4_hears_5 : decode cX4_hears 5 = .ok (.iconst 3, 1) := by decide +kernel
theorem dX4_hears_6 : decode cX4_hears 6 = .ok (.isub, 1) := by decide +kernel
theorem dX4_hears_7 : decode cX4_hears 7 = .ok (.ireturn, 1) := by decide +kernel
theorem dX4_owes_0 : decode cX4_owes 0 = .ok (.aload_n 0, 1) := by decide +kernel
theorem dX4_owes_1 : decode cX4_owes 1 = .ok (.iload_n 1, 1) := by decide +kernel
theorem dX4_owes_2 : decode cX4_owes 2 = .ok (.iload_n 2, 1) := by decide +kernel
theorem dX4_owes_3 : decode cX4_owes 3 = .ok (.invokespecial 14, 3) := by decide +kernel
theorem dX4_owes_6 : decode cX4_owes 6 = .ok (.iconst 2, 1) := by decide +kernel
theorem dX4_owes_7 : decode cX4_owes 7 = .ok (.idiv, 1) := by decide +kernel
theorem dX4_owes_8 : decode cX4_owes 8 = .ok (.ireturn, 1) := by decide +kernel
theorem dX5_init_0 : decode cX5_init 0 = .ok (.aload_n 0, 1) := by decide +kernel
theorem dX5_init_1 : decode cX5_init 1 = .ok (.invokespecial 3, 3) := by decide +kernel
theorem dX5_init_4 : decode cX5_init 4 = .ok (.aload_n 0, 1) := by decide +kernel
theorem dX5_init_5 : decode cX5_init 5 = .ok (.bipush 31, 2) := by decide +kernel
theorem dX5_init_7 : decode cX5_init 7 = .ok (.newarray .int, 2) := by decide +kernel
theorem dX5_init_9 : decode cX5_init 9 = .ok (.putfield 9, 3) := by decide +kernel
theorem dX5_init_12 : decode cX5_init 12 = .ok (.aload_n 0, 1) := by decide +kernel
theorem dX5_init_13 : decode cX5_init 13 = .ok (.aload_n 1, 1) := by decide +kernel
theorem dX5_init_14 : decode cX5_init 14 = .ok (.putfield 15, 3) := by decide +kernel
theorem dX5_init_17 : decode cX5_init 17 = .ok (.aload_n 0, 1) := by decide +kernel
theorem dX5_init_18 : decode cX5_init 18 = .ok (.aload_n 2, 1) := by decide +kernel
theorem dX5_init_19 : decode cX5_init 19 = .ok (.putfield 18, 3) := by decide +kernel
theorem dX5_init_22 : decode cX5_init 22 = .ok (.return_, 1) := by decide +kernel
theorem dX5_value_0 : decode cX5_value 0 = .ok (.aload_n 0, 1) := by decide +kernel
theorem dX5_value_1 : decode cX5_value 1 = .ok (.iconst 0, 1) := by decide +kernel
theorem dX5_value_2 : decode cX5_value 2 = .ok (.putfield 21, 3) := by decide +kernel
theorem dX5_value_5 : decode cX5_value 5 = .ok (.iload_n 1, 1) := by decide +kernel
theorem dX5_value_6 : decode cX5_value 6 = .ok (.ifCond .ne 7, 3) := by decide +kernel
theorem dX5_value_9 : decode cX5_value 9 = .ok (.iconst 0, 1) := by decide +kernel
theorem dX5_value_10 : decode cX5_value 10 = .ok (.goto 11, 3) := by decide +kernel
theorem dX5_value_13 : decode cX5_value 13 = .ok (.aload_n 0, 1) := by decide +kernel
theorem dX5_value_14 : decode cX5_value 14 = .ok (.getfield 18, 3) := by decide +kernel
theorem dX5_value_17 : decode cX5_value 17 = .ok (.iload_n 1, 1) := by decide +kernel
theorem dX5_value_18 : decode cX5_value 18 = .ok (.iconst 1, 1) := by decide +kernel
theorem dX5_value_19 : decode cX5_value 19 = .ok (.isub, 1) := by decide +kernel
theorem dX5_value_20 : decode cX5_value 20 = .ok (.iaload, 1) := by decide +kernel
theorem dX5_value_21 : decode cX5_value 21 = .ok (.istore_n 3, 1) := by decide +kernel
theorem dX5_value_22 : decode cX5_value 22 = .ok (.iload_n 3, 1) := by decide +kernel
theorem dX5_value_23 : decode cX5_value 23 = .ok (.aload_n 0, 1) := by decide +kernel
theorem dX5_value_24 : decode cX5_value 24 = .ok (.getfield 18, 3) := by decide +kernel
theorem dX5_value_27 : decode cX5_value 27 = .ok (.iload_n 1, 1) := by decide +kernel
theorem dX5_value_28 : decode cX5_value 28 = .ok (.iaload, 1) := by decide +kernel
theorem dX5_value_29 : decode cX5_value 29 = .ok (.if_icmp .ge 121, 3) := by decide +kernel
theorem dX5_value_32 : decode cX5_value 32 = .ok (.iconst (-1), 1) := by decide +kernel
theorem dX5_value_33 : decode cX5_value 33 = .ok (.aload_n 0, 1) := by decide +kernel
theorem dX5_value_34 : decode cX5_value 34 = .ok (.getfield 15, 3) := by decide +kernel
theorem dX5_value_37 : decode cX5_value 37 = .ok (.iload_n 3, 1) := by decide +kernel
theorem dX5_value_38 : decode cX5_value 38 = .ok (.iaload, 1) := by decide +kernel
theorem dX5_value_39 : decode cX5_value 39 = .ok (.isub, 1) := by decide +kernel
theorem dX5_value_40 : decode cX5_value 40 = .ok (.istore 4, 2) := by decide +kernel
theorem dX5_value_42 : decode cX5_value 42 = .ok (.iload 4, 2) := by decide +kernel
theorem dX5_value_44 : decode cX5_value 44 = .ok (.ifCond .ge 16, 3) := by decide +kernel
theorem dX5_value_47 : decode cX5_value 47 = .ok (.aload_n 0, 1) := by decide +kernel
theorem dX5_value_48 : decode cX5_value 48 = .ok (.aload_n 0, 1) := by decide +kernel
theorem dX5_value_49 : decode cX5_value 49 = .ok (.getfield 15, 3) := by decide +kernel
theorem dX5_value_52 : decode cX5_value 52 = .ok (.iload_n 3, 1) := by decide +kernel
theorem dX5_value_53 : decode cX5_value 53 = .ok (.iaload, 1) := by decide +kernel
theorem dX5_value_54 : decode cX5_value 54 = .ok (.invokevirtual 25, 3) := by decide +kernel
theorem dX5_value_57 : decode cX5_value 57 = .ok (.goto 87, 3) := by decide +kernel
theorem dX5_value_60 : decode cX5_value 60 = .ok (.iload 4, 2) := by decide +kernel
theorem dX5_value_62 : decode cX5_value 62 = .ok (.bipush 6, 2) := by decide +kernel
theorem dX5_value_64 : decode cX5_value 64 = .ok (.if_icmp .ge 14, 3) := by decide +kernel
theorem dX5_value_67 : decode cX5_value 67 = .ok (.aload_n 0, 1) := by decide +kernel
theorem dX5_value_68 : decode cX5_value 68 = .ok (.aload_n 2, 1) := by decide +kernel
theorem dX5_value_69 : decode cX5_value 69 = .ok (.iload 4, 2) := by decide +kernel
theorem dX5_value_71 : decode cX5_value 71 = .ok (.iaload, 1) := by decide +kernel
theorem dX5_value_72 : decode cX5_value 72 = .ok (.invokevirtual 25, 3) := by decide +kernel
theorem dX5_value_75 : decode cX5_value 75 = .ok (.goto 69, 3) := by decide +kernel
theorem dX5_value_78 : decode cX5_value 78 = .ok (.iload 4, 2) := by decide +kernel
theorem dX5_value_80 : decode cX5_value 80 = .ok (.bipush 13, 2) := by decide +kernel
theorem dX5_value_82 : decode cX5_value 82 = .ok (.if_icmp .ne 15, 3) := by decide +kernel
theorem dX5_value_85 : decode cX5_value 85 = .ok (.aload_n 0, 1) := by decide +kernel
theorem dX5_value_86 : decode cX5_value 86 = .ok (.aload_n 0, 1) := by decide +kernel
theorem dX5_value_87 : decode cX5_value 87 = .ok (.invokevirtual 31, 3) := by decide +kernel
theorem dX5_value_90 : decode cX5_value 90 = .ok (.ineg, 1) := by decide +kernel
theorem dX5_value_91 : decode cX5_value 91 = .ok (.invokevirtual 25, 3) := by decide +kernel
theorem dX5_value_94 : decode cX5_value 94 = .ok (.goto 50, 3) := by decide +kernel
theorem dX5_value_97 : decode cX5_value 97 = .ok (.iload 4, 2) := by decide +kernel
theorem dX5_value_99 : decode cX5_value 99 = .ok (.bipush 11, 2) := by decide +kernel
theorem dX5_value_101 : decode cX5_value 101 = .ok (.if_icmp .ne 22, 3) := by decide +kernel
theorem dX5_value_104 : decode cX5_value 104 = .ok (.aload_n 0, 1) := by decide +kernel
theorem dX5_value_105 : decode cX5_value 105 = .ok (.aload_n 0, 1) := by decide +kernel
theorem dX5_value_106 : decode cX5_value 106 = .ok (.invokevirtual 31, 3) := by decide +kernel
theorem dX5_value_109 : decode cX5_value 109 = .ok (.ifCond .ne 7, 3) := by decide +kernel
theorem dX5_value_112 : decode cX5_value 112 = .ok (.iconst 1, 1) := by decide +kernel
theorem dX5_value_113 : decode cX5_value 113 = .ok (.goto 4, 3) := by decide +kernel
theorem dX5_value_116 : decode cX5_value 116 = .ok (.iconst 0, 1) := by decide +kernel
theorem dX5_value_117 : decode cX5_value 117 = .ok (.invokevirtual 25, 3) := by decide +kernel
theorem dX5_value_120 : decode cX5_value 120 = .ok (.goto 24, 3) := by decide +kernel
theorem dX5_value_123 : decode cX5_value 123 = .ok (.aload_n 0, 1) := by decide +kernel
theorem dX5_value_124 : decode cX5_value 124 = .ok (.invokevirtual 31, 3) := by decide +kernel
theorem dX5_value_127 : decode cX5_value 127 = .ok (.istore 5, 2) := by decide +kernel
theorem dX5_value_129 : decode cX5_value 129 = .ok (.aload_n 0, 1) := by decide +kernel
theorem dX5_value_130 : decode cX5_value 130 = .ok (.iload 4, 2) := by decide +kernel
theorem dX5_value_132 : decode cX5_value 132 = .ok (.aload_n 0, 1) := by decide +kernel
theorem dX5_value_133 : decode cX5_value 133 = .ok (.invokevirtual 31, 3) := by decide +kernel
theorem dX5_value_136 : decode cX5_value 136 = .ok (.iload 5, 2) := by decide +kernel
theorem dX5_value_138 : decode cX5_value 138 = .ok (.invokestatic 35, 3) := by decide +kernel
theorem dX5_value_141 : decode cX5_value 141 = .ok (.invokevirtual 25, 3) := by decide +kernel
theorem dX5_value_144 : decode cX5_value 144 = .ok (.iinc 3 1, 3) := by decide +kernel
theorem dX5_value_147 : decode cX5_value 147 = .ok (.goto (-125), 3) := by decide +kernel
theorem dX5_value_150 : decode cX5_value 150 = .ok (.aload_n 0, 1) := by decide +kernel
theorem dX5_value_151 : decode cX5_value 151 = .ok (.invokevirtual 31, 3) := by decide +kernel
theorem dX5_value_154 : decode cX5_value 154 = .ok (.ireturn, 1) := by decide +kernel
theorem dX5_push_0 : decode cX5_push 0 = .ok (.aload_n 0, 1) := by decide +kernel
theorem dX5_push_1 : decode cX5_push 1 = .ok (.getfield 21, 3) := by decide +kernel
theorem dX5_push_4 : decode cX5_push 4 = .ok (.aload_n 0, 1) := by decide +kernel
theorem dX5_push_5 : decode cX5_push 5 = .ok (.getfield 9, 3) := by decide +kernel
theorem dX5_push_8 : decode cX5_push 8 = .ok (.arraylength, 1) := by decide +kernel
theorem dX5_push_9 : decode cX5_push 9 = .ok (.if_icmp .ge 23, 3) := by decide +kernel
theorem dX5_push_12 : decode cX5_push 12 = .ok (.aload_n 0, 1) := by decide +kernel
theorem dX5_push_13 : decode cX5_push 13 = .ok (.getfield 9, 3) := by decide +kernel
theorem dX5_push_16 : decode cX5_push 16 = .ok (.aload_n 0, 1) := by decide +kernel
theorem dX5_push_17 : decode cX5_push 17 = .ok (.getfield 21, 3) := by decide +kernel
theorem dX5_push_20 : decode cX5_push 20 = .ok (.iload_n 1, 1) := by decide +kernel
theorem dX5_push_21 : decode cX5_push 21 = .ok (.iastore, 1) := by decide +kernel
theorem dX5_push_22 : decode cX5_push 22 = .ok (.aload_n 0, 1) := by decide +kernel
theorem dX5_push_23 : decode cX5_push 23 = .ok (.dup, 1) := by decide +kernel
theorem dX5_push_24 : decode cX5_push 24 = .ok (.getfield 21, 3) := by decide +kernel
theorem dX5_push_27 : decode cX5_push 27 = .ok (.iconst 1, 1) := by decide +kernel
theorem dX5_push_28 : decode cX5_push 28 = .ok (.iadd, 1) := by decide +kernel
theorem dX5_push_29 : decode cX5_push 29 = .ok (.putfield 21, 3) := by decide +kernel
theorem dX5_push_32 : decode cX5_push 32 = .ok (.return_, 1) := by decide +kernel
theorem dX5_pop_0 : decode cX5_pop 0 = .ok (.aload_n 0, 1) := by decide +kernel
theorem dX5_pop_1 : decode cX5_pop 1 = .ok (.getfield 21, 3) := by decide +kernel
theorem dX5_pop_4 : decode cX5_pop 4 = .ok (.ifCond .gt 5, 3) := by decide +kernel
theorem dX5_pop_7 : decode cX5_pop 7 = .ok (.iconst 0, 1) := by decide +kernel
theorem dX5_pop_8 : decode cX5_pop 8 = .ok (.ireturn, 1) := by decide +kernel
theorem dX5_pop_9 : decode cX5_pop 9 = .ok (.aload_n 0, 1) := by decide +kernel
theorem dX5_pop_10 : decode cX5_pop 10 = .ok (.dup, 1) := by decide +kernel
theorem dX5_pop_11 : decode cX5_pop 11 = .ok (.getfield 21, 3) := by decide +kernel
theorem dX5_pop_14 : decode cX5_pop 14 = .ok (.iconst 1, 1) := by decide +kernel
theorem dX5_pop_15 : decode cX5_pop 15 = .ok (.isub, 1) := by decide +kernel
theorem dX5_pop_16 : decode cX5_pop 16 = .ok (.putfield 21, 3) := by decide +kernel
theorem dX5_pop_19 : decode cX5_pop 19 = .ok (.aload_n 0, 1) := by decide +kernel
theorem dX5_pop_20 : decode cX5_pop 20 = .ok (.getfield 9, 3) := by decide +kernel
theorem dX5_pop_23 : decode cX5_pop 23 = .ok (.aload_n 0, 1) := by decide +kernel
theorem dX5_pop_24 : decode cX5_pop 24 = .ok (.getfield 21, 3) := by decide +kernel
theorem dX5_pop_27 : decode cX5_pop 27 = .ok (.iaload, 1) := by decide +kernel
theorem dX5_pop_28 : decode cX5_pop 28 = .ok (.ireturn, 1) := by decide +kernel
theorem dX5_joined_0 : decode cX5_joined 0 = .ok (.iload_n 0, 1) := by decide +kernel
theorem dX5_joined_1 : decode cX5_joined 1 = .ok (.lookupswitch 117 #[(9, 59), (10, 73), (43, 109), (45, 113), (60, 87), (61, 98)], 59) := by decide +kernel
theorem dX5_joined_60 : decode cX5_joined 60 = .ok (.iload_n 1, 1) := by decide +kernel
theorem dX5_joined_61 : decode cX5_joined 61 = .ok (.ifCond .ne 7, 3) := by decide +kernel
theorem dX5_joined_64 : decode cX5_joined 64 = .ok (.iload_n 2, 1) := by decide +kernel
theorem dX5_joined_65 : decode cX5_joined 65 = .ok (.ifCond .eq 7, 3) := by decide +kernel
theorem dX5_joined_68 : decode cX5_joined 68 = .ok (.iconst 1, 1) := by decide +kernel
theorem dX5_joined_69 : decode cX5_joined 69 = .ok (.goto 4, 3) := by decide +kernel
theorem dX5_joined_72 : decode cX5_joined 72 = .ok (.iconst 0, 1) := by decide +kernel
theorem dX5_joined_73 : decode cX5_joined 73 = .ok (.ireturn, 1) := by decide +kernel
theorem dX5_joined_74 : decode cX5_joined 74 = .ok (.iload_n 1, 1) := by decide +kernel
theorem dX5_joined_75 : decode cX5_joined 75 = .ok (.ifCond .eq 11, 3) := by decide +kernel
theorem dX5_joined_78 : decode cX5_joined 78 = .ok (.iload_n 2, 1) := by decide +kernel
theorem dX5_joined_79 : decode cX5_joined 79 = .ok (.ifCond .eq 7, 3) := by decide +kernel
theorem dX5_joined_82 : decode cX5_joined 82 = .ok (.iconst 1, 1) := by decide +kernel
theorem dX5_joined_83 : decode cX5_joined 83 = .ok (.goto 4, 3) := by decide +kernel
theorem dX5_joined_86 : decode cX5_joined 86 = .ok (.iconst 0, 1) := by decide +kernel
theorem dX5_joined_87 : decode cX5_joined 87 = .ok (.ireturn, 1) := by decide +kernel
theorem dX5_joined_88 : decode cX5_joined 88 = .ok (.iload_n 1, 1) := by decide +kernel
theorem dX5_joined_89 : decode cX5_joined 89 = .ok (.iload_n 2, 1) := by decide +kernel
theorem dX5_joined_90 : decode cX5_joined 90 = .ok (.if_icmp .ge 7, 3) := by decide +kernel
theorem dX5_joined_93 : decode cX5_joined 93 = .ok (.iconst 1, 1) := by decide +kernel
theorem dX5_joined_94 : decode cX5_joined 94 = .ok (.goto 4, 3) := by decide +kernel
theorem dX5_joined_97 : decode cX5_joined 97 = .ok (.iconst 0, 1) := by decide +kernel
theorem dX5_joined_98 : decode cX5_joined 98 = .ok (.ireturn, 1) := by decide +kernel
theorem dX5_joined_99 : decode cX5_joined 99 = .ok (.iload_n 1, 1) := by decide +kernel
theorem dX5_joined_100 : decode cX5_joined 100 = .ok (.iload_n 2, 1) := by decide +kernel
theorem dX5_joined_101 : decode cX5_joined 101 = .ok (.if_icmp .ne 7, 3) := by decide +kernel
theorem dX5_joined_104 : decode cX5_joined 104 = .ok (.iconst 1, 1) := by decide +kernel
theorem dX5_joined_105 : decode cX5_joined 105 = .ok (.goto 4, 3) := by decide +kernel
theorem dX5_joined_108 : decode cX5_joined 108 = .ok (.iconst 0, 1) := by decide +kernel
theorem dX5_joined_109 : decode cX5_joined 109 = .ok (.ireturn, 1) := by decide +kernel
theorem dX5_joined_110 : decode cX5_joined 110 = .ok (.iload_n 1, 1) := by decide +kernel
theorem dX5_joined_111 : decode cX5_joined 111 = .ok (.iload_n 2, 1) := by decide +kernel
theorem dX5_joined_112 : decode cX5_joined 112 = .ok (.iadd, 1) := by decide +kernel
theorem dX5_joined_113 : decode cX5_joined 113 = .ok (.ireturn, 1) := by decide +kernel
theorem dX5_joined_114 : decode cX5_joined 114 = .ok (.iload_n 1, 1) := by decide +kernel
theorem dX5_joined_115 : decode cX5_joined 115 = .ok (.iload_n 2, 1) := by decide +kernel
theorem dX5_joined_116 : decode cX5_joined 116 = .ok (.isub, 1) := by decide +kernel
theorem dX5_joined_117 : decode cX5_joined 117 = .ok (.ireturn, 1) := by decide +kernel
theorem dX5_joined_118 : decode cX5_joined 118 = .ok (.iload_n 1, 1) := by decide +kernel
theorem dX5_joined_119 : decode cX5_joined 119 = .ok (.iload_n 2, 1) := by decide +kernel
theorem dX5_joined_120 : decode cX5_joined 120 = .ok (.imul, 1) := by decide +kernel
theorem dX5_joined_121 : decode cX5_joined 121 = .ok (.ireturn, 1) := by decide +kernel
theorem dX6_init_0 : decode cX6_init 0 = .ok (.aload_n 0, 1) := by decide +kernel
theorem dX6_init_1 : decode cX6_init 1 = .ok (.invokespecial 3, 3) := by decide +kernel
theorem dX6_init_4 : decode cX6_init 4 = .ok (.aload_n 0, 1) := by decide +kernel
theorem dX6_init_5 : decode cX6_init 5 = .ok (.bipush 40, 2) := by decide +kernel
theorem dX6_init_7 : decode cX6_init 7 = .ok (.newarray .int, 2) := by decide +kernel
theorem dX6_init_9 : decode cX6_init 9 = .ok (.putfield 9, 3) := by decide +kernel
theorem dX6_init_12 : decode cX6_init 12 = .ok (.aload_n 0, 1) := by decide +kernel
theorem dX6_init_13 : decode cX6_init 13 = .ok (.iconst (-1), 1) := by decide +kernel
theorem dX6_init_14 : decode cX6_init 14 = .ok (.putfield 15, 3) := by decide +kernel
theorem dX6_init_17 : decode cX6_init 17 = .ok (.return_, 1) := by decide +kernel
theorem dX6_become_0 : decode cX6_become 0 = .ok (.aload_n 0, 1) := by decide +kernel
theorem dX6_become_1 : decode cX6_become 1 = .ok (.getfield 9, 3) := by decide +kernel
theorem dX6_become_4 : decode cX6_become 4 = .ok (.iconst 0, 1) := by decide +kernel
theorem dX6_become_5 : decode cX6_become 5 = .ok (.invokestatic 19, 3) := by decide +kernel
theorem dX6_become_8 : decode cX6_become 8 = .ok (.aload_n 0, 1) := by decide +kernel
theorem dX6_become_9 : decode cX6_become 9 = .ok (.iload_n 1, 1) := by decide +kernel
theorem dX6_become_10 : decode cX6_become 10 = .ok (.putfield 15, 3) := by decide +kernel
theorem dX6_become_13 : decode cX6_become 13 = .ok (.aload_n 0, 1) := by decide +kernel
theorem dX6_become_14 : decode cX6_become 14 = .ok (.iload_n 2, 1) := by decide +kernel
theorem dX6_become_15 : decode cX6_become 15 = .ok (.putfield 25, 3) := by decide +kernel
theorem dX6_become_18 : decode cX6_become 18 = .ok (.return_, 1) := by decide +kernel
theorem dX6_isMissing_0 : decode cX6_isMissing 0 = .ok (.aload_n 0, 1) := by decide +kernel
theorem dX6_isMissing_1 : decode cX6_isMissing 1 = .ok (.getfield 15, 3) := by decide +kernel
theorem dX6_isMissing_4 : decode cX6_isMissing 4 = .ok (.iconst (-1), 1) := by decide +kernel
theorem dX6_isMissing_5 : decode cX6_isMissing 5 = .ok (.if_icmp .ne 7, 3) := by decide +kernel
theorem dX6_isMissing_8 : decode cX6_isMissing 8 = .ok (.iconst 1, 1) := by decide +kernel
theorem dX6_isMissing_9 : decode cX6_isMissing 9 = .ok (.goto 4, 3) := by decide +kernel
theorem dX6_isMissing_12 : decode cX6_isMissing 12 = .ok (.iconst 0, 1) := by decide +kernel
theorem dX6_isMissing_13 : decode cX6_isMissing 13 = .ok (.ireturn, 1) := by decide +kernel
theorem dX6_has_0 : decode cX6_has 0 = .ok (.lload_n 1, 1) := by decide +kernel
theorem dX6_has_1 : decode cX6_has 1 = .ok (.lconst 0, 1) := by decide +kernel
theorem dX6_has_2 : decode cX6_has 2 = .ok (.lcmp, 1) := by decide +kernel
theorem dX6_has_3 : decode cX6_has 3 = .ok (.ifCond .lt 24, 3) := by decide +kernel
theorem dX6_has_6 : decode cX6_has 6 = .ok (.iload_n 3, 1) := by decide +kernel
theorem dX6_has_7 : decode cX6_has 7 = .ok (.ifCond .lt 20, 3) := by decide +kernel
theorem dX6_has_10 : decode cX6_has 10 = .ok (.lload_n 1, 1) := by decide +kernel
theorem dX6_has_11 : decode cX6_has 11 = .ok (.iload_n 3, 1) := by decide +kernel
theorem dX6_has_12 : decode cX6_has 12 = .ok (.i2l, 1) := by decide +kernel
theorem dX6_has_13 : decode cX6_has 13 = .ok (.ladd, 1) := by decide +kernel
theorem dX6_has_14 : decode cX6_has 14 = .ok (.aload_n 0, 1) := by decide +kernel
theorem dX6_has_15 : decode cX6_has 15 = .ok (.getfield 25, 3) := by decide +kernel
theorem dX6_has_18 : decode cX6_has 18 = .ok (.i2l, 1) := by decide +kernel
theorem dX6_has_19 : decode cX6_has 19 = .ok (.lcmp, 1) := by decide +kernel
theorem dX6_has_20 : decode cX6_has 20 = .ok (.ifCond .gt 7, 3) := by decide +kernel
theorem dX6_has_23 : decode cX6_has 23 = .ok (.iconst 1, 1) := by decide +kernel
theorem dX6_has_24 : decode cX6_has 24 = .ok (.goto 4, 3) := by decide +kernel
theorem dX6_has_27 : decode cX6_has 27 = .ok (.iconst 0, 1) := by decide +kernel
theorem dX6_has_28 : decode cX6_has 28 = .ok (.ireturn, 1) := by decide +kernel
theorem dX6_at_0 : decode cX6_at 0 = .ok (.aload_n 0, 1) := by decide +kernel
theorem dX6_at_1 : decode cX6_at 1 = .ok (.iload_n 1, 1) := by decide +kernel
theorem dX6_at_2 : decode cX6_at 2 = .ok (.i2l, 1) := by decide +kernel
theorem dX6_at_3 : decode cX6_at 3 = .ok (.iconst 1, 1) := by decide +kernel
theorem dX6_at_4 : decode cX6_at 4 = .ok (.invokevirtual 28, 3) := by decide +kernel
theorem dX6_at_7 : decode cX6_at 7 = .ok (.ifCond .eq 12, 3) := by decide +kernel
theorem dX6_at_10 : decode cX6_at 10 = .ok (.aload_n 0, 1) := by decide +kernel
theorem dX6_at_11 : decode cX6_at 11 = .ok (.getfield 9, 3) := by decide +kernel
theorem dX6_at_14 : decode cX6_at 14 = .ok (.iload_n 1, 1) := by decide +kernel
theorem dX6_at_15 : decode cX6_at 15 = .ok (.iaload, 1) := by decide +kernel
theorem dX6_at_16 : decode cX6_at 16 = .ok (.goto 4, 3) := by decide +kernel
theorem dX6_at_19 : decode cX6_at 19 = .ok (.iconst 0, 1) := by decide +kernel
theorem dX6_at_20 : decode cX6_at 20 = .ok (.ireturn, 1) := by decide +kernel
theorem dX6_put_0 : decode cX6_put 0 = .ok (.aload_n 0, 1) := by decide +kernel
theorem dX6_put_1 : decode cX6_put 1 = .ok (.iload_n 1, 1) := by decide +kernel
theorem dX6_put_2 : decode cX6_put 2 = .ok (.i2l, 1) := by decide +kernel
theorem dX6_put_3 : decode cX6_put 3 = .ok (.iconst 1, 1) := by decide +kernel
theorem dX6_put_4 : decode cX6_put 4 = .ok (.invokevirtual 28, 3) := by decide +kernel
theorem dX6_put_7 : decode cX6_put 7 = .ok (.ifCond .ne 4, 3) := by decide +kernel
theorem dX6_put_10 : decode cX6_put 10 = .ok (.return_, 1) := by decide +kernel
theorem dX6_put_11 : decode cX6_put 11 = .ok (.aload_n 0, 1) := by decide +kernel
theorem dX6_put_12 : decode cX6_put 12 = .ok (.getfield 15, 3) := by decide +kernel
theorem dX6_put_15 : decode cX6_put 15 = .ok (.lookupswitch 47 #[(0, 25), (1, 36)], 25) := by decide +kernel
theorem dX6_put_40 : decode cX6_put 40 = .ok (.aload_n 0, 1) := by decide +kernel
theorem dX6_put_41 : decode cX6_put 41 = .ok (.getfield 9, 3) := by decide +kernel
theorem dX6_put_44 : decode cX6_put 44 = .ok (.iload_n 1, 1) := by decide +kernel
theorem dX6_put_45 : decode cX6_put 45 = .ok (.iload_n 2, 1) := by decide +kernel
theorem dX6_put_46 : decode cX6_put 46 = .ok (.i2b, 1) := by decide +kernel
theorem dX6_put_47 : decode cX6_put 47 = .ok (.iastore, 1) := by decide +kernel
theorem dX6_put_48 : decode cX6_put 48 = .ok (.goto 21, 3) := by decide +kernel
theorem dX6_put_51 : decode cX6_put 51 = .ok (.aload_n 0, 1) := by decide +kernel
theorem dX6_put_52 : decode cX6_put 52 = .ok (.getfield 9, 3) := by decide +kernel
theorem dX6_put_55 : decode cX6_put 55 = .ok (.iload_n 1, 1) := by decide +kernel
theorem dX6_put_56 : decode cX6_put 56 = .ok (.iload_n 2, 1) := by decide +kernel
theorem dX6_put_57 : decode cX6_put 57 = .ok (.i2s, 1) := by decide +kernel
theorem dX6_put_58 : decode cX6_put 58 = .ok (.iastore, 1) := by decide +kernel
theorem dX6_put_59 : decode cX6_put 59 = .ok (.goto 10, 3) := by decide +kernel
theorem dX6_put_62 : decode cX6_put 62 = .ok (.aload_n 0, 1) := by decide +kernel
theorem dX6_put_63 : decode cX6_put 63 = .ok (.getfield 9, 3) := by decide +kernel
theorem dX6_put_66 : decode cX6_put 66 = .ok (.iload_n 1, 1) := by decide +kernel
theorem dX6_put_67 : decode cX6_put 67 = .ok (.iload_n 2, 1) := by decide +kernel
theorem dX6_put_68 : decode cX6_put 68 = .ok (.iastore, 1) := by decide +kernel
theorem dX6_put_69 : decode cX6_put 69 = .ok (.return_, 1) := by decide +kernel
theorem dX7_init_0 : decode cX7_init 0 = .ok (.aload_n 0, 1) := by decide +kernel
theorem dX7_init_1 : decode cX7_init 1 = .ok (.iload_n 1, 1) := by decide +kernel
theorem dX7_init_2 : decode cX7_init 2 = .ok (.iload_n 2, 1) := by decide +kernel
theorem dX7_init_3 : decode cX7_init 3 = .ok (.invokespecial 3, 3) := by decide +kernel
theorem dX7_init_6 : decode cX7_init 6 = .ok (.return_, 1) := by decide +kernel
theorem dX7_kind_0 : decode cX7_kind 0 = .ok (.iconst 1, 1) := by decide +kernel
theorem dX7_kind_1 : decode cX7_kind 1 = .ok (.ireturn, 1) := by decide +kernel
theorem dX7_rows_0 : decode cX7_rows 0 = .ok (.aload_n 0, 1) := by decide +kernel
theorem dX7_rows_1 : decode cX7_rows 1 = .ok (.iload_n 1, 1) := by decide +kernel
theorem dX7_rows_2 : decode cX7_rows 2 = .ok (.invokespecial 9, 3) := by decide +kernel
theorem dX7_rows_5 : decode cX7_rows 5 = .ok (.iconst 1, 1) := by decide +kernel
theorem dX7_rows_6 : decode cX7_rows 6 = .ok (.isub, 1) := by decide +kernel
theorem dX7_rows_7 : decode cX7_rows 7 = .ok (.ireturn, 1) := by decide +kernel
theorem dX7_hears_0 : decode cX7_hears 0 = .ok (.aload_n 0, 1) := by decide +kernel
theorem dX7_hears_1 : decode cX7_hears 1 = .ok (.iload_n 1, 1) := by decide +kernel
theorem dX7_hears_2 : decode cX7_hears 2 = .ok (.invokespecial 13, 3) := by decide +kernel
theorem dX7_hears_5 : decode cX7_hears 5 = .ok (.aload_n 0, 1) := by decide +kernel
theorem dX7_hears_6 : decode cX7_hears 6 = .ok (.getfield 16, 3) := by decide +kernel
theorem dX7_hears_9 : decode cX7_hears 9 = .ok (.iconst 3, 1) := by decide +kernel
theorem dX7_hears_10 : decode cX7_hears 10 = .ok (.iaload, 1) := by decide +kernel
theorem dX7_hears_11 : decode cX7_hears 11 = .ok (.iadd, 1) := by decide +kernel
theorem dX7_hears_12 : decode cX7_hears 12 = .ok (.ireturn, 1) := by decide +kernel
theorem dX8_init_0 : decode cX8_init 0 = .ok (.aload_n 0, 1) := by decide +kernel
theorem dX8_init_1 : decode cX8_init 1 = .ok (.invokespecial 3, 3) := by decide +kernel
theorem dX8_init_4 : decode cX8_init 4 = .ok (.aload_n 0, 1) := by decide +kernel
theorem dX8_init_5 : decode cX8_init 5 = .ok (.sipush 160, 3) := by decide +kernel
theorem dX8_init_8 : decode cX8_init 8 = .ok (.newarray .int, 2) := by decide +kernel
theorem dX8_init_10 : decode cX8_init 10 = .ok (.putfield 9, 3) := by decide +kernel
theorem dX8_init_13 : decode cX8_init 13 = .ok (.aload_n 0, 1) := by decide +kernel
theorem dX8_init_14 : decode cX8_init 14 = .ok (.sipush 160, 3) := by decide +kernel
theorem dX8_init_17 : decode cX8_init 17 = .ok (.newarray .int, 2) := by decide +kernel
theorem dX8_init_19 : decode cX8_init 19 = .ok (.putfield 15, 3) := by decide +kernel
theorem dX8_init_22 : decode cX8_init 22 = .ok (.aload_n 0, 1) := by decide +kernel
theorem dX8_init_23 : decode cX8_init 23 = .ok (.iconst 3, 1) := by decide +kernel
theorem dX8_init_24 : decode cX8_init 24 = .ok (.newarray .int, 2) := by decide +kernel
theorem dX8_init_26 : decode cX8_init 26 = .ok (.putfield 18, 3) := by decide +kernel
theorem dX8_init_29 : decode cX8_init 29 = .ok (.return_, 1) := by decide +kernel
theorem dX8_add_0 : decode cX8_add 0 = .ok (.aload_n 0, 1) := by decide +kernel
theorem dX8_add_1 : decode cX8_add 1 = .ok (.getfield 21, 3) := by decide +kernel
theorem dX8_add_4 : decode cX8_add 4 = .ok (.sipush 160, 3) := by decide +kernel
theorem dX8_add_7 : decode cX8_add 7 = .ok (.if_icmp .lt 5, 3) := by decide +kernel
theorem dX8_add_10 : decode cX8_add 10 = .ok (.iconst 0, 1) := by decide +kernel
theorem dX8_add_11 : decode cX8_add 11 = .ok (.ireturn, 1) := by decide +kernel
theorem dX8_add_12 : decode cX8_add 12 = .ok (.aload_n 0, 1) := by decide +kernel
theorem dX8_add_13 : decode cX8_add 13 = .ok (.getfield 9, 3) := by decide +kernel
theorem dX8_add_16 : decode cX8_add 16 = .ok (.aload_n 0, 1) := by decide +kernel
theorem dX8_add_17 : decode cX8_add 17 = .ok (.getfield 21, 3) := by decide +kernel
theorem dX8_add_20 : decode cX8_add 20 = .ok (.iload_n 1, 1) := by decide +kernel
theorem dX8_add_21 : decode cX8_add 21 = .ok (.iastore, 1) := by decide +kernel
theorem dX8_add_22 : decode cX8_add 22 = .ok (.aload_n 0, 1) := by decide +kernel
theorem dX8_add_23 : decode cX8_add 23 = .ok (.dup, 1) := by decide +kernel
theorem dX8_add_24 : decode cX8_add 24 = .ok (.getfield 21, 3) := by decide +kernel
theorem dX8_add_27 : decode cX8_add 27 = .ok (.iconst 1, 1) := by decide +kernel
theorem dX8_add_28 : decode cX8_add 28 = .ok (.iadd, 1) := by decide +kernel
theorem dX8_add_29 : decode cX8_add 29 = .ok (.putfield 21, 3) := by decide +kernel
theorem dX8_add_32 : decode cX8_add 32 = .ok (.iconst 1, 1) := by decide +kernel
theorem dX8_add_33 : decode cX8_add 33 = .ok (.ireturn, 1) := by decide +kernel
theorem dX8_empty_0 : decode cX8_empty 0 = .ok (.aload_n 0, 1) := by decide +kernel
theorem dX8_empty_1 : decode cX8_empty 1 = .ok (.iconst 0, 1) := by decide +kernel
theorem dX8_empty_2 : decode cX8_empty 2 = .ok (.putfield 21, 3) := by decide +kernel
theorem dX8_empty_5 : decode cX8_empty 5 = .ok (.return_, 1) := by decide +kernel
theorem dX8_read_0 : decode cX8_read 0 = .ok (.aload_n 0, 1) := by decide +kernel
theorem dX8_read_1 : decode cX8_read 1 = .ok (.iconst 0, 1) := by decide +kernel
theorem dX8_read_2 : decode cX8_read 2 = .ok (.putfield 25, 3) := by decide +kernel
theorem dX8_read_5 : decode cX8_read 5 = .ok (.aload_n 0, 1) := by decide +kernel
theorem dX8_read_6 : decode cX8_read 6 = .ok (.iconst 0, 1) := by decide +kernel
theorem dX8_read_7 : decode cX8_read 7 = .ok (.putfield 28, 3) := by decide +kernel
theorem dX8_read_10 : decode cX8_read 10 = .ok (.aload_n 0, 1) := by decide +kernel
theorem dX8_read_11 : decode cX8_read 11 = .ok (.invokevirtual 31, 3) := by decide +kernel
theorem dX8_read_14 : decode cX8_read 14 = .ok (.iconst 0, 1) := by decide +kernel
theorem dX8_read_15 : decode cX8_read 15 = .ok (.istore_n 1, 1) := by decide +kernel
theorem dX8_read_16 : decode cX8_read 16 = .ok (.iload_n 1, 1) := by decide +kernel
theorem dX8_read_17 : decode cX8_read 17 = .ok (.iconst 3, 1) := by decide +kernel
theorem dX8_read_18 : decode cX8_read 18 = .ok (.if_icmp .ge 35, 3) := by decide +kernel
theorem dX8_read_21 : decode cX8_read 21 = .ok (.aload_n 0, 1) := by decide +kernel
theorem dX8_read_22 : decode cX8_read 22 = .ok (.bipush 6, 2) := by decide +kernel
theorem dX8_read_24 : decode cX8_read 24 = .ok (.iload_n 1, 1) := by decide +kernel
theorem dX8_read_25 : decode cX8_read 25 = .ok (.iadd, 1) := by decide +kernel
theorem dX8_read_26 : decode cX8_read 26 = .ok (.invokevirtual 34, 3) := by decide +kernel
theorem dX8_read_29 : decode cX8_read 29 = .ok (.ifCond .ne 8, 3) := by decide +kernel
theorem dX8_read_32 : decode cX8_read 32 = .ok (.aload_n 0, 1) := by decide +kernel
theorem dX8_read_33 : decode cX8_read 33 = .ok (.getfield 38, 3) := by decide +kernel
theorem dX8_read_36 : decode cX8_read 36 = .ok (.ireturn, 1) := by decide +kernel
theorem dX8_read_37 : decode cX8_read 37 = .ok (.aload_n 0, 1) := by decide +kernel
theorem dX8_read_38 : decode cX8_read 38 = .ok (.getfield 18, 3) := by decide +kernel
theorem dX8_read_41 : decode cX8_read 41 = .ok (.iload_n 1, 1) := by decide +kernel
theorem dX8_read_42 : decode cX8_read 42 = .ok (.aload_n 0, 1) := by decide +kernel
theorem dX8_read_43 : decode cX8_read 43 = .ok (.getfield 25, 3) := by decide +kernel
theorem dX8_read_46 : decode cX8_read 46 = .ok (.iastore, 1) := by decide +kernel
theorem dX8_read_47 : decode cX8_read 47 = .ok (.iinc 1 1, 3) := by decide +kernel
theorem dX8_read_50 : decode cX8_read 50 = .ok (.goto (-34), 3) := by decide +kernel
theorem dX8_read_53 : decode cX8_read 53 = .ok (.aload_n 0, 1) := by decide +kernel
theorem dX8_read_54 : decode cX8_read 54 = .ok (.getfield 41, 3) := by decide +kernel
theorem dX8_read_57 : decode cX8_read 57 = .ok (.iconst (-1), 1) := by decide +kernel
theorem dX8_read_58 : decode cX8_read 58 = .ok (.if_icmp .ne 7, 3) := by decide +kernel
theorem dX8_read_61 : decode cX8_read 61 = .ok (.iconst (-1), 1) := by decide +kernel
theorem dX8_read_62 : decode cX8_read 62 = .ok (.goto 7, 3) := by decide +kernel
theorem dX8_read_65 : decode cX8_read 65 = .ok (.aload_n 0, 1) := by decide +kernel
theorem dX8_read_66 : decode cX8_read 66 = .ok (.getfield 38, 3) := by decide +kernel
theorem dX8_read_69 : decode cX8_read 69 = .ok (.ireturn, 1) := by decide +kernel
theorem dX8_ruleRead_0 : decode cX8_ruleRead 0 = .ok (.new 44, 3) := by decide +kernel
theorem dX8_ruleRead_3 : decode cX8_ruleRead 3 = .ok (.dup, 1) := by decide +kernel
theorem dX8_ruleRead_4 : decode cX8_ruleRead 4 = .ok (.aload_n 0, 1) := by decide +kernel
theorem dX8_ruleRead_5 : decode cX8_ruleRead 5 = .ok (.getfield 15, 3) := by decide +kernel
theorem dX8_ruleRead_8 : decode cX8_ruleRead 8 = .ok (.aload_n 0, 1) := by decide +kernel
theorem dX8_ruleRead_9 : decode cX8_ruleRead 9 = .ok (.getfield 25, 3) := by decide +kernel
theorem dX8_ruleRead_12 : decode cX8_ruleRead 12 = .ok (.invokestatic 46, 3) := by decide +kernel
theorem dX8_ruleRead_15 : decode cX8_ruleRead 15 = .ok (.aload_n 0, 1) := by decide +kernel
theorem dX8_ruleRead_16 : decode cX8_ruleRead 16 = .ok (.getfield 18, 3) := by decide +kernel
theorem dX8_ruleRead_19 : decode cX8_ruleRead 19 = .ok (.iconst 3, 1) := by decide +kernel
theorem dX8_ruleRead_20 : decode cX8_ruleRead 20 = .ok (.invokestatic 46, 3) := by decide +kernel
theorem dX8_ruleRead_23 : decode cX8_ruleRead 23 = .ok (.invokespecial 52, 3) := by decide +kernel
theorem dX8_ruleRead_26 : decode cX8_ruleRead 26 = .ok (.areturn, 1) := by decide +kernel
theorem dX8_clauseOf_0 : decode cX8_clauseOf 0 = .ok (.aload_n 0, 1) := by decide +kernel
theorem dX8_clauseOf_1 : decode cX8_clauseOf 1 = .ok (.iload_n 1, 1) := by decide +kernel
theorem dX8_clauseOf_2 : decode cX8_clauseOf 2 = .ok (.invokevirtual 55, 3) := by decide +kernel
theorem dX8_clauseOf_5 : decode cX8_clauseOf 5 = .ok (.ifCond .eq 24, 3) := by decide +kernel
theorem dX8_clauseOf_8 : decode cX8_clauseOf 8 = .ok (.aload_n 0, 1) := by decide +kernel
theorem dX8_clauseOf_9 : decode cX8_clauseOf 9 = .ok (.iconst 0, 1) := by decide +kernel
theorem dX8_clauseOf_10 : decode cX8_clauseOf 10 = .ok (.invokevirtual 58, 3) := by decide +kernel
theorem dX8_clauseOf_13 : decode cX8_clauseOf 13 = .ok (.ifCond .eq 16, 3) := by decide +kernel
theorem dX8_clauseOf_16 : decode cX8_clauseOf 16 = .ok (.aload_n 0, 1) := by decide +kernel
theorem dX8_clauseOf_17 : decode cX8_clauseOf 17 = .ok (.bipush 59, 2) := by decide +kernel
theorem dX8_clauseOf_19 : decode cX8_clauseOf 19 = .ok (.invokevirtual 55, 3) := by decide +kernel
theorem dX8_clauseOf_22 : decode cX8_clauseOf 22 = .ok (.ifCond .eq 7, 3) := by decide +kernel
theorem dX8_clauseOf_25 : decode cX8_clauseOf 25 = .ok (.iconst 1, 1) := by decide +kernel
theorem dX8_clauseOf_26 : decode cX8_clauseOf 26 = .ok (.goto 4, 3) := by decide +kernel
theorem dX8_clauseOf_29 : decode cX8_clauseOf 29 = .ok (.iconst 0, 1) := by decide +kernel
theorem dX8_clauseOf_30 : decode cX8_clauseOf 30 = .ok (.ireturn, 1) := by decide +kernel
theorem dX8_either_0 : decode cX8_either 0 = .ok (.aload_n 0, 1) := by decide +kernel
theorem dX8_either_1 : decode cX8_either 1 = .ok (.iload_n 1, 1) := by decide +kernel
theorem dX8_either_2 : decode cX8_either 2 = .ok (.invokevirtual 61, 3) := by decide +kernel
theorem dX8_either_5 : decode cX8_either 5 = .ok (.ifCond .ne 5, 3) := by decide +kernel
theorem dX8_either_8 : decode cX8_either 8 = .ok (.iconst 0, 1) := by decide +kernel
theorem dX8_either_9 : decode cX8_either 9 = .ok (.ireturn, 1) := by decide +kernel
theorem dX8_either_10 : decode cX8_either 10 = .ok (.iconst 0, 1) := by decide +kernel
theorem dX8_either_11 : decode cX8_either 11 = .ok (.istore_n 2, 1) := by decide +kernel
theorem dX8_either_12 : decode cX8_either 12 = .ok (.iload_n 2, 1) := by decide +kernel
theorem dX8_either_13 : decode cX8_either 13 = .ok (.sipush 160, 3) := by decide +kernel
theorem dX8_either_16 : decode cX8_either 16 = .ok (.if_icmp .ge 38, 3) := by decide +kernel
theorem dX8_either_19 : decode cX8_either 19 = .ok (.aload_n 0, 1) := by decide +kernel
theorem dX8_either_20 : decode cX8_either 20 = .ok (.getfield 41, 3) := by decide +kernel
theorem dX8_either_23 : decode cX8_either 23 = .ok (.bipush 9, 2) := by decide +kernel
theorem dX8_either_25 : decode cX8_either 25 = .ok (.if_icmp .ne 29, 3) := by decide +kernel
theorem dX8_either_28 : decode cX8_either 28 = .ok (.aload_n 0, 1) := by decide +kernel
theorem dX8_either_29 : decode cX8_either 29 = .ok (.invokevirtual 31, 3) := by decide +kernel
theorem dX8_either_32 : decode cX8_either 32 = .ok (.aload_n 0, 1) := by decide +kernel
theorem dX8_either_33 : decode cX8_either 33 = .ok (.iload_n 1, 1) := by decide +kernel
theorem dX8_either_34 : decode cX8_either 34 = .ok (.invokevirtual 61, 3) := by decide +kernel
theorem dX8_either_37 : decode cX8_either 37 = .ok (.ifCond .ne 5, 3) := by decide +kernel
theorem dX8_either_40 : decode cX8_either 40 = .ok (.iconst 0, 1) := by decide +kernel
theorem dX8_either_41 : decode cX8_either 41 = .ok (.ireturn, 1) := by decide +kernel
theorem dX8_either_42 : decode cX8_either 42 = .ok (.aload_n 0, 1) := by decide +kernel
theorem dX8_either_43 : decode cX8_either 43 = .ok (.bipush 9, 2) := by decide +kernel
theorem dX8_either_45 : decode cX8_either 45 = .ok (.invokevirtual 64, 3) := by decide +kernel
theorem dX8_either_48 : decode cX8_either 48 = .ok (.iinc 2 1, 3) := by decide +kernel
theorem dX8_either_51 : decode cX8_either 51 = .ok (.goto (-39), 3) := by decide +kernel
theorem dX8_either_54 : decode cX8_either 54 = .ok (.iconst 1, 1) := by decide +kernel
theorem dX8_either_55 : decode cX8_either 55 = .ok (.ireturn, 1) := by decide +kernel
theorem dX8_both_0 : decode cX8_both 0 = .ok (.aload_n 0, 1) := by decide +kernel
theorem dX8_both_1 : decode cX8_both 1 = .ok (.iload_n 1, 1) := by decide +kernel
theorem dX8_both_2 : decode cX8_both 2 = .ok (.invokevirtual 68, 3) := by decide +kernel
theorem dX8_both_5 : decode cX8_both 5 = .ok (.ifCond .ne 5, 3) := by decide +kernel
theorem dX8_both_8 : decode cX8_both 8 = .ok (.iconst 0, 1) := by decide +kernel
theorem dX8_both_9 : decode cX8_both 9 = .ok (.ireturn, 1) := by decide +kernel
theorem dX8_both_10 : decode cX8_both 10 = .ok (.iconst 0, 1) := by decide +kernel
theorem dX8_both_11 : decode cX8_both 11 = .ok (.istore_n 2, 1) := by decide +kernel
theorem dX8_both_12 : decode cX8_both 12 = .ok (.iload_n 2, 1) := by decide +kernel
theorem dX8_both_13 : decode cX8_both 13 = .ok (.sipush 160, 3) := by decide +kernel
theorem dX8_both_16 : decode cX8_both 16 = .ok (.if_icmp .ge 38, 3) := by decide +kernel
theorem dX8_both_19 : decode cX8_both 19 = .ok (.aload_n 0, 1) := by decide +kernel
theorem dX8_both_20 : decode cX8_both 20 = .ok (.getfield 41, 3) := by decide +kernel
theorem dX8_both_23 : decode cX8_both 23 = .ok (.bipush 10, 2) := by decide +kernel
theorem dX8_both_25 : decode cX8_both 25 = .ok (.if_icmp .ne 29, 3) := by decide +kernel
theorem dX8_both_28 : decode cX8_both 28 = .ok (.aload_n 0, 1) := by decide +kernel
theorem dX8_both_29 : decode cX8_both 29 = .ok (.invokevirtual 31, 3) := by decide +kernel
theorem dX8_both_32 : decode cX8_both 32 = .ok (.aload_n 0, 1) := by decide +kernel
theorem dX8_both_33 : decode cX8_both 33 = .ok (.iload_n 1, 1) := by decide +kernel
theorem dX8_both_34 : decode cX8_both 34 = .ok (.invokevirtual 68, 3) := by decide +kernel
theorem dX8_both_37 : decode cX8_both 37 = .ok (.ifCond .ne 5, 3) := by decide +kernel
theorem dX8_both_40 : decode cX8_both 40 = .ok (.iconst 0, 1) := by decide +kernel
theorem dX8_both_41 : decode cX8_both 41 = .ok (.ireturn, 1) := by decide +kernel
theorem dX8_both_42 : decode cX8_both 42 = .ok (.aload_n 0, 1) := by decide +kernel
theorem dX8_both_43 : decode cX8_both 43 = .ok (.bipush 10, 2) := by decide +kernel
theorem dX8_both_45 : decode cX8_both 45 = .ok (.invokevirtual 64, 3) := by decide +kernel
theorem dX8_both_48 : decode cX8_both 48 = .ok (.iinc 2 1, 3) := by decide +kernel
theorem dX8_both_51 : decode cX8_both 51 = .ok (.goto (-39), 3) := by decide +kernel
theorem dX8_both_54 : decode cX8_both 54 = .ok (.iconst 1, 1) := by decide +kernel
theorem dX8_both_55 : decode cX8_both 55 = .ok (.ireturn, 1) := by decide +kernel
theorem dX8_denied_0 : decode cX8_denied 0 = .ok (.aload_n 0, 1) := by decide +kernel
theorem dX8_denied_1 : decode cX8_denied 1 = .ok (.getfield 41, 3) := by decide +kernel
theorem dX8_denied_4 : decode cX8_denied 4 = .ok (.bipush 11, 2) := by decide +kernel
theorem dX8_denied_6 : decode cX8_denied 6 = .ok (.if_icmp .eq 9, 3) := by decide +kernel
theorem dX8_denied_9 : decode cX8_denied 9 = .ok (.aload_n 0, 1) := by decide +kernel
theorem dX8_denied_10 : decode cX8_denied 10 = .ok (.iload_n 1, 1) := by decide +kernel
theorem dX8_denied_11 : decode cX8_denied 11 = .ok (.invokevirtual 71, 3) := by decide +kernel
theorem dX8_denied_14 : decode cX8_denied 14 = .ok (.ireturn, 1) := by decide +kernel
theorem dX8_denied_15 : decode cX8_denied 15 = .ok (.iload_n 1, 1) := by decide +kernel
theorem dX8_denied_16 : decode cX8_denied 16 = .ok (.iconst 5, 1) := by decide +kernel
theorem dX8_denied_17 : decode cX8_denied 17 = .ok (.if_icmp .lt 5, 3) := by decide +kernel
theorem dX8_denied_20 : decode cX8_denied 20 = .ok (.iconst 0, 1) := by decide +kernel
theorem dX8_denied_21 : decode cX8_denied 21 = .ok (.ireturn, 1) := by decide +kernel
theorem dX8_denied_22 : decode cX8_denied 22 = .ok (.aload_n 0, 1) := by decide +kernel
theorem dX8_denied_23 : decode cX8_denied 23 = .ok (.invokevirtual 31, 3) := by decide +kernel
theorem dX8_denied_26 : decode cX8_denied 26 = .ok (.aload_n 0, 1) := by decide +kernel
theorem dX8_denied_27 : decode cX8_denied 27 = .ok (.iload_n 1, 1) := by decide +kernel
theorem dX8_denied_28 : decode cX8_denied 28 = .ok (.iconst 1, 1) := by decide +kernel
theorem dX8_denied_29 : decode cX8_denied 29 = .ok (.iadd, 1) := by decide +kernel
theorem dX8_denied_30 : decode cX8_denied 30 = .ok (.invokevirtual 68, 3) := by decide +kernel
theorem dX8_denied_33 : decode cX8_denied 33 = .ok (.ifCond .ne 5, 3) := by decide +kernel
theorem dX8_denied_36 : decode cX8_denied 36 = .ok (.iconst 0, 1) := by decide +kernel
theorem dX8_denied_37 : decode cX8_denied 37 = .ok (.ireturn, 1) := by decide +kernel
theorem dX8_denied_38 : decode cX8_denied 38 = .ok (.aload_n 0, 1) := by decide +kernel
theorem dX8_denied_39 : decode cX8_denied 39 = .ok (.bipush 11, 2) := by decide +kernel
theorem dX8_denied_41 : decode cX8_denied 41 = .ok (.invokevirtual 64, 3) := by decide +kernel
theorem dX8_denied_44 : decode cX8_denied 44 = .ok (.iconst 1, 1) := by decide +kernel
theorem dX8_denied_45 : decode cX8_denied 45 = .ok (.ireturn, 1) := by decide +kernel
theorem dX8_compared_0 : decode cX8_compared 0 = .ok (.aload_n 0, 1) := by decide +kernel
theorem dX8_compared_1 : decode cX8_compared 1 = .ok (.iload_n 1, 1) := by decide +kernel
theorem dX8_compared_2 : decode cX8_compared 2 = .ok (.invokevirtual 74, 3) := by decide +kernel
theorem dX8_compared_5 : decode cX8_compared 5 = .ok (.ifCond .ne 5, 3) := by decide +kernel
theorem dX8_compared_8 : decode cX8_compared 8 = .ok (.iconst 0, 1) := by decide +kernel
theorem dX8_compared_9 : decode cX8_compared 9 = .ok (.ireturn, 1) := by decide +kernel
theorem dX8_compared_10 : decode cX8_compared 10 = .ok (.aload_n 0, 1) := by decide +kernel
theorem dX8_compared_11 : decode cX8_compared 11 = .ok (.getfield 41, 3) := by decide +kernel
theorem dX8_compared_14 : decode cX8_compared 14 = .ok (.istore_n 2, 1) := by decide +kernel
theorem dX8_compared_15 : decode cX8_compared 15 = .ok (.iload_n 2, 1) := by decide +kernel
theorem dX8_compared_16 : decode cX8_compared 16 = .ok (.bipush 60, 2) := by decide +kernel
theorem dX8_compared_18 : decode cX8_compared 18 = .ok (.if_icmp .eq 11, 3) := by decide +kernel
theorem dX8_compared_21 : decode cX8_compared 21 = .ok (.iload_n 2, 1) := by decide +kernel
theorem dX8_compared_22 : decode cX8_compared 22 = .ok (.bipush 61, 2) := by decide +kernel
theorem dX8_compared_24 : decode cX8_compared 24 = .ok (.if_icmp .eq 5, 3) := by decide +kernel
theorem dX8_compared_27 : decode cX8_compared 27 = .ok (.iconst 1, 1) := by decide +kernel
theorem dX8_compared_28 : decode cX8_compared 28 = .ok (.ireturn, 1) := by decide +kernel
theorem dX8_compared_29 : decode cX8_compared 29 = .ok (.aload_n 0, 1) := by decide +kernel
theorem dX8_compared_30 : decode cX8_compared 30 = .ok (.invokevirtual 31, 3) := by decide +kernel
theorem dX8_compared_33 : decode cX8_compared 33 = .ok (.aload_n 0, 1) := by decide +kernel
theorem dX8_compared_34 : decode cX8_compared 34 = .ok (.iload_n 1, 1) := by decide +kernel
theorem dX8_compared_35 : decode cX8_compared 35 = .ok (.invokevirtual 74, 3) := by decide +kernel
theorem dX8_compared_38 : decode cX8_compared 38 = .ok (.ifCond .ne 5, 3) := by decide +kernel
theorem dX8_compared_41 : decode cX8_compared 41 = .ok (.iconst 0, 1) := by decide +kernel
theorem dX8_compared_42 : decode cX8_compared 42 = .ok (.ireturn, 1) := by decide +kernel
theorem dX8_compared_43 : decode cX8_compared 43 = .ok (.aload_n 0, 1) := by decide +kernel
theorem dX8_compared_44 : decode cX8_compared 44 = .ok (.iload_n 2, 1) := by decide +kernel
theorem dX8_compared_45 : decode cX8_compared 45 = .ok (.invokevirtual 64, 3) := by decide +kernel
theorem dX8_compared_48 : decode cX8_compared 48 = .ok (.iconst 1, 1) := by decide +kernel
theorem dX8_compared_49 : decode cX8_compared 49 = .ok (.ireturn, 1) := by decide +kernel
theorem dX8_sum_0 : decode cX8_sum 0 = .ok (.aload_n 0, 1) := by decide +kernel
theorem dX8_sum_1 : decode cX8_sum 1 = .ok (.iload_n 1, 1) := by decide +kernel
theorem dX8_sum_2 : decode cX8_sum 2 = .ok (.invokevirtual 77, 3) := by decide +kernel
theorem dX8_sum_5 : decode cX8_sum 5 = .ok (.ifCond .ne 5, 3) := by decide +kernel
theorem dX8_sum_8 : decode cX8_sum 8 = .ok (.iconst 0, 1) := by decide +kernel
theorem dX8_sum_9 : decode cX8_sum 9 = .ok (.ireturn, 1) := by decide +kernel
theorem dX8_sum_10 : decode cX8_sum 10 = .ok (.iconst 0, 1) := by decide +kernel
theorem dX8_sum_11 : decode cX8_sum 11 = .ok (.istore_n 2, 1) := by decide +kernel
theorem dX8_sum_12 : decode cX8_sum 12 = .ok (.iload_n 2, 1) := by decide +kernel
theorem dX8_sum_13 : decode cX8_sum 13 = .ok (.sipush 160, 3) := by decide +kernel
theorem dX8_sum_16 : decode cX8_sum 16 = .ok (.if_icmp .ge 51, 3) := by decide +kernel
theorem dX8_sum_19 : decode cX8_sum 19 = .ok (.aload_n 0, 1) := by decide +kernel
theorem dX8_sum_20 : decode cX8_sum 20 = .ok (.getfield 41, 3) := by decide +kernel
theorem dX8_sum_23 : decode cX8_sum 23 = .ok (.bipush 43, 2) := by decide +kernel
theorem dX8_sum_25 : decode cX8_sum 25 = .ok (.if_icmp .eq 12, 3) := by decide +kernel
theorem dX8_sum_28 : decode cX8_sum 28 = .ok (.aload_n 0, 1) := by decide +kernel
theorem dX8_sum_29 : decode cX8_sum 29 = .ok (.getfield 41, 3) := by decide +kernel
theorem dX8_sum_32 : decode cX8_sum 32 = .ok (.bipush 45, 2) := by decide +kernel
theorem dX8_sum_34 : decode cX8_sum 34 = .ok (.if_icmp .ne 33, 3) := by decide +kernel
theorem dX8_sum_37 : decode cX8_sum 37 = .ok (.aload_n 0, 1) := by decide +kernel
theorem dX8_sum_38 : decode cX8_sum 38 = .ok (.getfield 41, 3) := by decide +kernel
theorem dX8_sum_41 : decode cX8_sum 41 = .ok (.istore_n 3, 1) := by decide +kernel
theorem dX8_sum_42 : decode cX8_sum 42 = .ok (.aload_n 0, 1) := by decide +kernel
theorem dX8_sum_43 : decode cX8_sum 43 = .ok (.invokevirtual 31, 3) := by decide +kernel
theorem dX8_sum_46 : decode cX8_sum 46 = .ok (.aload_n 0, 1) := by decide +kernel
theorem dX8_sum_47 : decode cX8_sum 47 = .ok (.iload_n 1, 1) := by decide +kernel
theorem dX8_sum_48 : decode cX8_sum 48 = .ok (.invokevirtual 77, 3) := by decide +kernel
theorem dX8_sum_51 : decode cX8_sum 51 = .ok (.ifCond .ne 5, 3) := by decide +kernel
theorem dX8_sum_54 : decode cX8_sum 54 = .ok (.iconst 0, 1) := by decide +kernel
theorem dX8_sum_55 : decode cX8_sum 55 = .ok (.ireturn, 1) := by decide +kernel
theorem dX8_sum_56 : decode cX8_sum 56 = .ok (.aload_n 0, 1) := by decide +kernel
theorem dX8_sum_57 : decode cX8_sum 57 = .ok (.iload_n 3, 1) := by decide +kernel
theorem dX8_sum_58 : decode cX8_sum 58 = .ok (.invokevirtual 64, 3) := by decide +kernel
theorem dX8_sum_61 : decode cX8_sum 61 = .ok (.iinc 2 1, 3) := by decide +kernel
theorem dX8_sum_64 : decode cX8_sum 64 = .ok (.goto (-52), 3) := by decide +kernel
theorem dX8_sum_67 : decode cX8_sum 67 = .ok (.iconst 1, 1) := by decide +kernel
theorem dX8_sum_68 : decode cX8_sum 68 = .ok (.ireturn, 1) := by decide +kernel
theorem dX8_product_0 : decode cX8_product 0 = .ok (.aload_n 0, 1) := by decide +kernel
theorem dX8_product_1 : decode cX8_product 1 = .ok (.iload_n 1, 1) := by decide +kernel
theorem dX8_product_2 : decode cX8_product 2 = .ok (.invokevirtual 80, 3) := by decide +kernel
theorem dX8_product_5 : decode cX8_product 5 = .ok (.ifCond .ne 5, 3) := by decide +kernel
theorem dX8_product_8 : decode cX8_product 8 = .ok (.iconst 0, 1) := by decide +kernel
theorem dX8_product_9 : decode cX8_product 9 = .ok (.ireturn, 1) := by decide +kernel
theorem dX8_product_10 : decode cX8_product 10 = .ok (.iconst 0, 1) := by decide +kernel
theorem dX8_product_11 : decode cX8_product 11 = .ok (.istore_n 2, 1) := by decide +kernel
theorem dX8_product_12 : decode cX8_product 12 = .ok (.iload_n 2, 1) := by decide +kernel
theorem dX8_product_13 : decode cX8_product 13 = .ok (.sipush 160, 3) := by decide +kernel
theorem dX8_product_16 : decode cX8_product 16 = .ok (.if_icmp .ge 38, 3) := by decide +kernel
theorem dX8_product_19 : decode cX8_product 19 = .ok (.aload_n 0, 1) := by decide +kernel
theorem dX8_product_20 : decode cX8_product 20 = .ok (.getfield 41, 3) := by decide +kernel
theorem dX8_product_23 : decode cX8_product 23 = .ok (.bipush 42, 2) := by decide +kernel
theorem dX8_product_25 : decode cX8_product 25 = .ok (.if_icmp .ne 29, 3) := by decide +kernel
theorem dX8_product_28 : decode cX8_product 28 = .ok (.aload_n 0, 1) := by decide +kernel
theorem dX8_product_29 : decode cX8_product 29 = .ok (.invokevirtual 31, 3) := by decide +kernel
theorem dX8_product_32 : decode cX8_product 32 = .ok (.aload_n 0, 1) := by decide +kernel
theorem dX8_product_33 : decode cX8_product 33 = .ok (.iload_n 1, 1) := by decide +kernel
theorem dX8_product_34 : decode cX8_product 34 = .ok (.invokevirtual 80, 3) := by decide +kernel
theorem dX8_product_37 : decode cX8_product 37 = .ok (.ifCond .ne 5, 3) := by decide +kernel
theorem dX8_product_40 : decode cX8_product 40 = .ok (.iconst 0, 1) := by decide +kernel
theorem dX8_product_41 : decode cX8_product 41 = .ok (.ireturn, 1) := by decide +kernel
theorem dX8_product_42 : decode cX8_product 42 = .ok (.aload_n 0, 1) := by decide +kernel
theorem dX8_product_43 : decode cX8_product 43 = .ok (.bipush 42, 2) := by decide +kernel
theorem dX8_product_45 : decode cX8_product 45 = .ok (.invokevirtual 64, 3) := by decide +kernel
theorem dX8_product_48 : decode cX8_product 48 = .ok (.iinc 2 1, 3) := by decide +kernel
theorem dX8_product_51 : decode cX8_product 51 = .ok (.goto (-39), 3) := by decide +kernel
theorem dX8_product_54 : decode cX8_product 54 = .ok (.iconst 1, 1) := by decide +kernel
theorem dX8_product_55 : decode cX8_product 55 = .ok (.ireturn, 1) := by decide +kernel
theorem dX8_single_0 : decode cX8_single 0 = .ok (.aload_n 0, 1) := by decide +kernel
theorem dX8_single_1 : decode cX8_single 1 = .ok (.getfield 41, 3) := by decide +kernel
theorem dX8_single_4 : decode cX8_single 4 = .ok (.bipush 12, 2) := by decide +kernel
theorem dX8_single_6 : decode cX8_single 6 = .ok (.if_icmp .ne 17, 3) := by decide +kernel
theorem dX8_single_9 : decode cX8_single 9 = .ok (.aload_n 0, 1) := by decide +kernel
theorem dX8_single_10 : decode cX8_single 10 = .ok (.aload_n 0, 1) := by decide +kernel
theorem dX8_single_11 : decode cX8_single 11 = .ok (.getfield 83, 3) := by decide +kernel
theorem dX8_single_14 : decode cX8_single 14 = .ok (.invokevirtual 86, 3) := by decide +kernel
theorem dX8_single_17 : decode cX8_single 17 = .ok (.aload_n 0, 1) := by decide +kernel
theorem dX8_single_18 : decode cX8_single 18 = .ok (.invokevirtual 31, 3) := by decide +kernel
theorem dX8_single_21 : decode cX8_single 21 = .ok (.iconst 1, 1) := by decide +kernel
theorem dX8_single_22 : decode cX8_single 22 = .ok (.ireturn, 1) := by decide +kernel
theorem dX8_single_23 : decode cX8_single 23 = .ok (.aload_n 0, 1) := by decide +kernel
theorem dX8_single_24 : decode cX8_single 24 = .ok (.getfield 41, 3) := by decide +kernel
theorem dX8_single_27 : decode cX8_single 27 = .ok (.ifCond .lt 26, 3) := by decide +kernel
theorem dX8_single_30 : decode cX8_single 30 = .ok (.aload_n 0, 1) := by decide +kernel
theorem dX8_single_31 : decode cX8_single 31 = .ok (.getfield 41, 3) := by decide +kernel
theorem dX8_single_34 : decode cX8_single 34 = .ok (.bipush 6, 2) := by decide +kernel
theorem dX8_single_36 : decode cX8_single 36 = .ok (.if_icmp .ge 17, 3) := by decide +kernel
theorem dX8_single_39 : decode cX8_single 39 = .ok (.aload_n 0, 1) := by decide +kernel
theorem dX8_single_40 : decode cX8_single 40 = .ok (.aload_n 0, 1) := by decide +kernel
theorem dX8_single_41 : decode cX8_single 41 = .ok (.getfield 41, 3) := by decide +kernel
theorem dX8_single_44 : decode cX8_single 44 = .ok (.invokevirtual 64, 3) := by decide +kernel
theorem dX8_single_47 : decode cX8_single 47 = .ok (.aload_n 0, 1) := by decide +kernel
theorem dX8_single_48 : decode cX8_single 48 = .ok (.invokevirtual 31, 3) := by decide +kernel
theorem dX8_single_51 : decode cX8_single 51 = .ok (.iconst 1, 1) := by decide +kernel
theorem dX8_single_52 : decode cX8_single 52 = .ok (.ireturn, 1) := by decide +kernel
theorem dX8_single_53 : decode cX8_single 53 = .ok (.iload_n 1, 1) := by decide +kernel
theorem dX8_single_54 : decode cX8_single 54 = .ok (.iconst 5, 1) := by decide +kernel
theorem dX8_single_55 : decode cX8_single 55 = .ok (.if_icmp .lt 5, 3) := by decide +kernel
theorem dX8_single_58 : decode cX8_single 58 = .ok (.iconst 0, 1) := by decide +kernel
theorem dX8_single_59 : decode cX8_single 59 = .ok (.ireturn, 1) := by decide +kernel
theorem dX8_single_60 : decode cX8_single 60 = .ok (.aload_n 0, 1) := by decide +kernel
theorem dX8_single_61 : decode cX8_single 61 = .ok (.getfield 41, 3) := by decide +kernel
theorem dX8_single_64 : decode cX8_single 64 = .ok (.bipush 45, 2) := by decide +kernel
theorem dX8_single_66 : decode cX8_single 66 = .ok (.if_icmp .ne 27, 3) := by decide +kernel
theorem dX8_single_69 : decode cX8_single 69 = .ok (.aload_n 0, 1) := by decide +kernel
theorem dX8_single_70 : decode cX8_single 70 = .ok (.invokevirtual 31, 3) := by decide +kernel
theorem dX8_single_73 : decode cX8_single 73 = .ok (.aload_n 0, 1) := by decide +kernel
theorem dX8_single_74 : decode cX8_single 74 = .ok (.iload_n 1, 1) := by decide +kernel
theorem dX8_single_75 : decode cX8_single 75 = .ok (.iconst 1, 1) := by decide +kernel
theorem dX8_single_76 : decode cX8_single 76 = .ok (.iadd, 1) := by decide +kernel
theorem dX8_single_77 : decode cX8_single 77 = .ok (.invokevirtual 80, 3) := by decide +kernel
theorem dX8_single_80 : decode cX8_single 80 = .ok (.ifCond .ne 5, 3) := by decide +kernel
theorem dX8_single_83 : decode cX8_single 83 = .ok (.iconst 0, 1) := by decide +kernel
theorem dX8_single_84 : decode cX8_single 84 = .ok (.ireturn, 1) := by decide +kernel
theorem dX8_single_85 : decode cX8_single 85 = .ok (.aload_n 0, 1) := by decide +kernel
theorem dX8_single_86 : decode cX8_single 86 = .ok (.bipush 13, 2) := by decide +kernel
theorem dX8_single_88 : decode cX8_single 88 = .ok (.invokevirtual 64, 3) := by decide +kernel
theorem dX8_single_91 : decode cX8_single 91 = .ok (.iconst 1, 1) := by decide +kernel
theorem dX8_single_92 : decode cX8_single 92 = .ok (.ireturn, 1) := by decide +kernel
theorem dX8_single_93 : decode cX8_single 93 = .ok (.aload_n 0, 1) := by decide +kernel
theorem dX8_single_94 : decode cX8_single 94 = .ok (.getfield 41, 3) := by decide +kernel
theorem dX8_single_97 : decode cX8_single 97 = .ok (.bipush 40, 2) := by decide +kernel
theorem dX8_single_99 : decode cX8_single 99 = .ok (.if_icmp .eq 5, 3) := by decide +kernel
theorem dX8_single_102 : decode cX8_single 102 = .ok (.iconst 0, 1) := by decide +kernel
theorem dX8_single_103 : decode cX8_single 103 = .ok (.ireturn, 1) := by decide +kernel
theorem dX8_single_104 : decode cX8_single 104 = .ok (.aload_n 0, 1) := by decide +kernel
theorem dX8_single_105 : decode cX8_single 105 = .ok (.invokevirtual 31, 3) := by decide +kernel
theorem dX8_single_108 : decode cX8_single 108 = .ok (.aload_n 0, 1) := by decide +kernel
theorem dX8_single_109 : decode cX8_single 109 = .ok (.iload_n 1, 1) := by decide +kernel
theorem dX8_single_110 : decode cX8_single 110 = .ok (.iconst 1, 1) := by decide +kernel
theorem dX8_single_111 : decode cX8_single 111 = .ok (.iadd, 1) := by decide +kernel
theorem dX8_single_112 : decode cX8_single 112 = .ok (.invokevirtual 58, 3) := by decide +kernel
theorem dX8_single_115 : decode cX8_single 115 = .ok (.ifCond .eq 16, 3) := by decide +kernel
theorem dX8_single_118 : decode cX8_single 118 = .ok (.aload_n 0, 1) := by decide +kernel
theorem dX8_single_119 : decode cX8_single 119 = .ok (.bipush 41, 2) := by decide +kernel
theorem dX8_single_121 : decode cX8_single 121 = .ok (.invokevirtual 55, 3) := by decide +kernel
theorem dX8_single_124 : decode cX8_single 124 = .ok (.ifCond .eq 7, 3) := by decide +kernel
theorem dX8_single_127 : decode cX8_single 127 = .ok (.iconst 1, 1) := by decide +kernel
theorem dX8_single_128 : decode cX8_single 128 = .ok (.goto 4, 3) := by decide +kernel
theorem dX8_single_131 : decode cX8_single 131 = .ok (.iconst 0, 1) := by decide +kernel
theorem dX8_single_132 : decode cX8_single 132 = .ok (.ireturn, 1) := by decide +kernel
theorem dX8_skip_0 : decode cX8_skip 0 = .ok (.aload_n 0, 1) := by decide +kernel
theorem dX8_skip_1 : decode cX8_skip 1 = .ok (.getfield 41, 3) := by decide +kernel
theorem dX8_skip_4 : decode cX8_skip 4 = .ok (.iload_n 1, 1) := by decide +kernel
theorem dX8_skip_5 : decode cX8_skip 5 = .ok (.if_icmp .eq 5, 3) := by decide +kernel
theorem dX8_skip_8 : decode cX8_skip 8 = .ok (.iconst 0, 1) := by decide +kernel
theorem dX8_skip_9 : decode cX8_skip 9 = .ok (.ireturn, 1) := by decide +kernel
theorem dX8_skip_10 : decode cX8_skip 10 = .ok (.aload_n 0, 1) := by decide +kernel
theorem dX8_skip_11 : decode cX8_skip 11 = .ok (.invokevirtual 31, 3) := by decide +kernel
theorem dX8_skip_14 : decode cX8_skip 14 = .ok (.iconst 1, 1) := by decide +kernel
theorem dX8_skip_15 : decode cX8_skip 15 = .ok (.ireturn, 1) := by decide +kernel
theorem dX8_emit_0 : decode cX8_emit 0 = .ok (.aload_n 0, 1) := by decide +kernel
theorem dX8_emit_1 : decode cX8_emit 1 = .ok (.iconst (-1), 1) := by decide +kernel
theorem dX8_emit_2 : decode cX8_emit 2 = .ok (.iload_n 1, 1) := by decide +kernel
theorem dX8_emit_3 : decode cX8_emit 3 = .ok (.isub, 1) := by decide +kernel
theorem dX8_emit_4 : decode cX8_emit 4 = .ok (.invokevirtual 86, 3) := by decide +kernel
theorem dX8_emit_7 : decode cX8_emit 7 = .ok (.return_, 1) := by decide +kernel
theorem dX8_put_0 : decode cX8_put 0 = .ok (.aload_n 0, 1) := by decide +kernel
theorem dX8_put_1 : decode cX8_put 1 = .ok (.getfield 25, 3) := by decide +kernel
theorem dX8_put_4 : decode cX8_put 4 = .ok (.sipush 160, 3) := by decide +kernel
theorem dX8_put_7 : decode cX8_put 7 = .ok (.if_icmp .ge 23, 3) := by decide +kernel
theorem dX8_put_10 : decode cX8_put 10 = .ok (.aload_n 0, 1) := by decide +kernel
theorem dX8_put_11 : decode cX8_put 11 = .ok (.getfield 15, 3) := by decide +kernel
theorem dX8_put_14 : decode cX8_put 14 = .ok (.aload_n 0, 1) := by decide +kernel
theorem dX8_put_15 : decode cX8_put 15 = .ok (.getfield 25, 3) := by decide +kernel
theorem dX8_put_18 : decode cX8_put 18 = .ok (.iload_n 1, 1) := by decide +kernel
theorem dX8_put_19 : decode cX8_put 19 = .ok (.iastore, 1) := by decide +kernel
theorem dX8_put_20 : decode cX8_put 20 = .ok (.aload_n 0, 1) := by decide +kernel
theorem dX8_put_21 : decode cX8_put 21 = .ok (.dup, 1) := by decide +kernel
theorem dX8_put_22 : decode cX8_put 22 = .ok (.getfield 25, 3) := by decide +kernel
theorem dX8_put_25 : decode cX8_put 25 = .ok (.iconst 1, 1) := by decide +kernel
theorem dX8_put_26 : decode cX8_put 26 = .ok (.iadd, 1) := by decide +kernel
theorem dX8_put_27 : decode cX8_put 27 = .ok (.putfield 25, 3) := by decide +kernel
theorem dX8_put_30 : decode cX8_put 30 = .ok (.return_, 1) := by decide +kernel
theorem dX8_step_0 : decode cX8_step 0 = .ok (.aload_n 0, 1) := by decide +kernel
theorem dX8_step_1 : decode cX8_step 1 = .ok (.aload_n 0, 1) := by decide +kernel
theorem dX8_step_2 : decode cX8_step 2 = .ok (.getfield 28, 3) := by decide +kernel
theorem dX8_step_5 : decode cX8_step 5 = .ok (.putfield 38, 3) := by decide +kernel
theorem dX8_step_8 : decode cX8_step 8 = .ok (.aload_n 0, 1) := by decide +kernel
theorem dX8_step_9 : decode cX8_step 9 = .ok (.getfield 38, 3) := by decide +kernel
theorem dX8_step_12 : decode cX8_step 12 = .ok (.aload_n 0, 1) := by decide +kernel
theorem dX8_step_13 : decode cX8_step 13 = .ok (.getfield 21, 3) := by decide +kernel
theorem dX8_step_16 : decode cX8_step 16 = .ok (.if_icmp .ge 44, 3) := by decide +kernel
theorem dX8_step_19 : decode cX8_step 19 = .ok (.aload_n 0, 1) := by decide +kernel
theorem dX8_step_20 : decode cX8_step 20 = .ok (.getfield 9, 3) := by decide +kernel
theorem dX8_step_23 : decode cX8_step 23 = .ok (.aload_n 0, 1) := by decide +kernel
theorem dX8_step_24 : decode cX8_step 24 = .ok (.getfield 38, 3) := by decide +kernel
theorem dX8_step_27 : decode cX8_step 27 = .ok (.iaload, 1) := by decide +kernel
theorem dX8_step_28 : decode cX8_step 28 = .ok (.bipush 32, 2) := by decide +kernel
theorem dX8_step_30 : decode cX8_step 30 = .ok (.if_icmp .eq 17, 3) := by decide +kernel
theorem dX8_step_33 : decode cX8_step 33 = .ok (.aload_n 0, 1) := by decide +kernel
theorem dX8_step_34 : decode cX8_step 34 = .ok (.getfield 9, 3) := by decide +kernel
theorem dX8_step_37 : decode cX8_step 37 = .ok (.aload_n 0, 1) := by decide +kernel
theorem dX8_step_38 : decode cX8_step 38 = .ok (.getfield 38, 3) := by decide +kernel
theorem dX8_step_41 : decode cX8_step 41 = .ok (.iaload, 1) := by decide +kernel
theorem dX8_step_42 : decode cX8_step 42 = .ok (.bipush 10, 2) := by decide +kernel
theorem dX8_step_44 : decode cX8_step 44 = .ok (.if_icmp .ne 16, 3) := by decide +kernel
theorem dX8_step_47 : decode cX8_step 47 = .ok (.aload_n 0, 1) := by decide +kernel
theorem dX8_step_48 : decode cX8_step 48 = .ok (.dup, 1) := by decide +kernel
theorem dX8_step_49 : decode cX8_step 49 = .ok (.getfield 38, 3) := by decide +kernel
theorem dX8_step_52 : decode cX8_step 52 = .ok (.iconst 1, 1) := by decide +kernel
theorem dX8_step_53 : decode cX8_step 53 = .ok (.iadd, 1) := by decide +kernel
theorem dX8_step_54 : decode cX8_step 54 = .ok (.putfield 38, 3) := by decide +kernel
theorem dX8_step_57 : decode cX8_step 57 = .ok (.goto (-49), 3) := by decide +kernel
theorem dX8_step_60 : decode cX8_step 60 = .ok (.aload_n 0, 1) := by decide +kernel
theorem dX8_step_61 : decode cX8_step 61 = .ok (.aload_n 0, 1) := by decide +kernel
theorem dX8_step_62 : decode cX8_step 62 = .ok (.getfield 38, 3) := by decide +kernel
theorem dX8_step_65 : decode cX8_step 65 = .ok (.putfield 28, 3) := by decide +kernel
theorem dX8_step_68 : decode cX8_step 68 = .ok (.aload_n 0, 1) := by decide +kernel
theorem dX8_step_69 : decode cX8_step 69 = .ok (.getfield 38, 3) := by decide +kernel
theorem dX8_step_72 : decode cX8_step 72 = .ok (.aload_n 0, 1) := by decide +kernel
theorem dX8_step_73 : decode cX8_step 73 = .ok (.getfield 21, 3) := by decide +kernel
theorem dX8_step_76 : decode cX8_step 76 = .ok (.if_icmp .lt 11, 3) := by decide +kernel
theorem dX8_step_79 : decode cX8_step 79 = .ok (.aload_n 0, 1) := by decide +kernel
theorem dX8_step_80 : decode cX8_step 80 = .ok (.iconst (-1), 1) := by decide +kernel
theorem dX8_step_81 : decode cX8_step 81 = .ok (.putfield 41, 3) := by decide +kernel
theorem dX8_step_84 : decode cX8_step 84 = .ok (.goto 90, 3) := by decide +kernel
theorem dX8_step_87 : decode cX8_step 87 = .ok (.aload_n 0, 1) := by decide +kernel
theorem dX8_step_88 : decode cX8_step 88 = .ok (.getfield 9, 3) := by decide +kernel
theorem dX8_step_91 : decode cX8_step 91 = .ok (.aload_n 0, 1) := by decide +kernel
theorem dX8_step_92 : decode cX8_step 92 = .ok (.getfield 38, 3) := by decide +kernel
theorem dX8_step_95 : decode cX8_step 95 = .ok (.iaload, 1) := by decide +kernel
theorem dX8_step_96 : decode cX8_step 96 = .ok (.invokestatic 89, 3) := by decide +kernel
theorem dX8_step_99 : decode cX8_step 99 = .ok (.ifCond .eq 10, 3) := by decide +kernel
theorem dX8_step_102 : decode cX8_step 102 = .ok (.aload_n 0, 1) := by decide +kernel
theorem dX8_step_103 : decode cX8_step 103 = .ok (.invokevirtual 92, 3) := by decide +kernel
theorem dX8_step_106 : decode cX8_step 106 = .ok (.goto 68, 3) := by decide +kernel
theorem dX8_step_109 : decode cX8_step 109 = .ok (.aload_n 0, 1) := by decide +kernel
theorem dX8_step_110 : decode cX8_step 110 = .ok (.getfield 9, 3) := by decide +kernel
theorem dX8_step_113 : decode cX8_step 113 = .ok (.aload_n 0, 1) := by decide +kernel
theorem dX8_step_114 : decode cX8_step 114 = .ok (.getfield 38, 3) := by decide +kernel
theorem dX8_step_117 : decode cX8_step 117 = .ok (.iaload, 1) := by decide +kernel
theorem dX8_step_118 : decode cX8_step 118 = .ok (.invokestatic 95, 3) := by decide +kernel
theorem dX8_step_121 : decode cX8_step 121 = .ok (.ifCond .eq 10, 3) := by decide +kernel
theorem dX8_step_124 : decode cX8_step 124 = .ok (.aload_n 0, 1) := by decide +kernel
theorem dX8_step_125 : decode cX8_step 125 = .ok (.invokevirtual 98, 3) := by decide +kernel
theorem dX8_step_128 : decode cX8_step 128 = .ok (.goto 46, 3) := by decide +kernel
theorem dX8_step_131 : decode cX8_step 131 = .ok (.aload_n 0, 1) := by decide +kernel
theorem dX8_step_132 : decode cX8_step 132 = .ok (.aload_n 0, 1) := by decide +kernel
theorem dX8_step_133 : decode cX8_step 133 = .ok (.getfield 38, 3) := by decide +kernel
theorem dX8_step_136 : decode cX8_step 136 = .ok (.iconst 1, 1) := by decide +kernel
theorem dX8_step_137 : decode cX8_step 137 = .ok (.iadd, 1) := by decide +kernel
theorem dX8_step_138 : decode cX8_step 138 = .ok (.putfield 28, 3) := by decide +kernel
theorem dX8_step_141 : decode cX8_step 141 = .ok (.aload_n 0, 1) := by decide +kernel
theorem dX8_step_142 : decode cX8_step 142 = .ok (.aload_n 0, 1) := by decide +kernel
theorem dX8_step_143 : decode cX8_step 143 = .ok (.getfield 9, 3) := by decide +kernel
theorem dX8_step_146 : decode cX8_step 146 = .ok (.aload_n 0, 1) := by decide +kernel
theorem dX8_step_147 : decode cX8_step 147 = .ok (.getfield 38, 3) := by decide +kernel
theorem dX8_step_150 : decode cX8_step 150 = .ok (.iaload, 1) := by decide +kernel
theorem dX8_step_151 : decode cX8_step 151 = .ok (.invokestatic 101, 3) := by decide +kernel
theorem dX8_step_154 : decode cX8_step 154 = .ok (.ifCond .eq 15, 3) := by decide +kernel
theorem dX8_step_157 : decode cX8_step 157 = .ok (.aload_n 0, 1) := by decide +kernel
theorem dX8_step_158 : decode cX8_step 158 = .ok (.getfield 9, 3) := by decide +kernel
theorem dX8_step_161 : decode cX8_step 161 = .ok (.aload_n 0, 1) := by decide +kernel
theorem dX8_step_162 : decode cX8_step 162 = .ok (.getfield 38, 3) := by decide +kernel
theorem dX8_step_165 : decode cX8_step 165 = .ok (.iaload, 1) := by decide +kernel
theorem dX8_step_166 : decode cX8_step 166 = .ok (.goto 5, 3) := by decide +kernel
theorem dX8_step_169 : decode cX8_step 169 = .ok (.bipush (-2), 2) := by decide +kernel
theorem dX8_step_171 : decode cX8_step 171 = .ok (.putfield 41, 3) := by decide +kernel
theorem dX8_step_174 : decode cX8_step 174 = .ok (.return_, 1) := by decide +kernel
theorem dX8_takeWord_0 : decode cX8_takeWord 0 = .ok (.aload_n 0, 1) := by decide +kernel
theorem dX8_takeWord_1 : decode cX8_takeWord 1 = .ok (.getfield 28, 3) := by decide +kernel
theorem dX8_takeWord_4 : decode cX8_takeWord 4 = .ok (.aload_n 0, 1) := by decide +kernel
theorem dX8_takeWord_5 : decode cX8_takeWord 5 = .ok (.getfield 21, 3) := by decide +kernel
theorem dX8_takeWord_8 : decode cX8_takeWord 8 = .ok (.if_icmp .ge 31, 3) := by decide +kernel
theorem dX8_takeWord_11 : decode cX8_takeWord 11 = .ok (.aload_n 0, 1) := by decide +kernel
theorem dX8_takeWord_12 : decode cX8_takeWord 12 = .ok (.getfield 9, 3) := by decide +kernel
theorem dX8_takeWord_15 : decode cX8_takeWord 15 = .ok (.aload_n 0, 1) := by decide +kernel
theorem dX8_takeWord_16 : decode cX8_takeWord 16 = .ok (.getfield 28, 3) := by decide +kernel
theorem dX8_takeWord_19 : decode cX8_takeWord 19 = .ok (.iaload, 1) := by decide +kernel
theorem dX8_takeWord_20 : decode cX8_takeWord 20 = .ok (.invokestatic 89, 3) := by decide +kernel
theorem dX8_takeWord_23 : decode cX8_takeWord 23 = .ok (.ifCond .eq 16, 3) := by decide +kernel
theorem dX8_takeWord_26 : decode cX8_takeWord 26 = .ok (.aload_n 0, 1) := by decide +kernel
theorem dX8_takeWord_27 : decode cX8_takeWord 27 = .ok (.dup, 1) := by decide +kernel
theorem dX8_takeWord_28 : decode cX8_takeWord 28 = .ok (.getfield 28, 3) := by decide +kernel
theorem dX8_takeWord_31 : decode cX8_takeWord 31 = .ok (.iconst 1, 1) := by decide +kernel
theorem dX8_takeWord_32 : decode cX8_takeWord 32 = .ok (.iadd, 1) := by decide +kernel
theorem dX8_takeWord_33 : decode cX8_takeWord 33 = .ok (.putfield 28, 3) := by decide +kernel
theorem dX8_takeWord_36 : decode cX8_takeWord 36 = .ok (.goto (-36), 3) := by decide +kernel
theorem dX8_takeWord_39 : decode cX8_takeWord 39 = .ok (.aload_n 0, 1) := by decide +kernel
theorem dX8_takeWord_40 : decode cX8_takeWord 40 = .ok (.bipush (-2), 2) := by decide +kernel
theorem dX8_takeWord_42 : decode cX8_takeWord 42 = .ok (.putfield 41, 3) := by decide +kernel
theorem dX8_takeWord_45 : decode cX8_takeWord 45 = .ok (.iconst 0, 1) := by decide +kernel
theorem dX8_takeWord_46 : decode cX8_takeWord 46 = .ok (.istore_n 1, 1) := by decide +kernel
theorem dX8_takeWord_47 : decode cX8_takeWord 47 = .ok (.iload_n 1, 1) := by decide +kernel
theorem dX8_takeWord_48 : decode cX8_takeWord 48 = .ok (.bipush 12, 2) := by decide +kernel
theorem dX8_takeWord_50 : decode cX8_takeWord 50 = .ok (.if_icmp .ge 25, 3) := by decide +kernel
theorem dX8_takeWord_53 : decode cX8_takeWord 53 = .ok (.aload_n 0, 1) := by decide +kernel
theorem dX8_takeWord_54 : decode cX8_takeWord 54 = .ok (.iload_n 1, 1) := by decide +kernel
theorem dX8_takeWord_55 : decode cX8_takeWord 55 = .ok (.invokestatic 104, 3) := by decide +kernel
theorem dX8_takeWord_58 : decode cX8_takeWord 58 = .ok (.invokevirtual 108, 3) := by decide +kernel
theorem dX8_takeWord_61 : decode cX8_takeWord 61 = .ok (.ifCond .eq 8, 3) := by decide +kernel
theorem dX8_takeWord_64 : decode cX8_takeWord 64 = .ok (.aload_n 0, 1) := by decide +kernel
theorem dX8_takeWord_65 : decode cX8_takeWord 65 = .ok (.iload_n 1, 1) := by decide +kernel
theorem dX8_takeWord_66 : decode cX8_takeWord 66 = .ok (.putfield 41, 3) := by decide +kernel
theorem dX8_takeWord_69 : decode cX8_takeWord 69 = .ok (.iinc 1 1, 3) := by decide +kernel
theorem dX8_takeWord_72 : decode cX8_takeWord 72 = .ok (.goto (-25), 3) := by decide +kernel
theorem dX8_takeWord_75 : decode cX8_takeWord 75 = .ok (.return_, 1) := by decide +kernel
theorem dX8_takeNumber_0 : decode cX8_takeNumber 0 = .ok (.aload_n 0, 1) := by decide +kernel
theorem dX8_takeNumber_1 : decode cX8_takeNumber 1 = .ok (.iconst 0, 1) := by decide +kernel
theorem dX8_takeNumber_2 : decode cX8_takeNumber 2 = .ok (.putfield 83, 3) := by decide +kernel
theorem dX8_takeNumber_5 : decode cX8_takeNumber 5 = .ok (.aload_n 0, 1) := by decide +kernel
theorem dX8_takeNumber_6 : decode cX8_takeNumber 6 = .ok (.getfield 28, 3) := by decide +kernel
theorem dX8_takeNumber_9 : decode cX8_takeNumber 9 = .ok (.aload_n 0, 1) := by decide +kernel
theorem dX8_takeNumber_10 : decode cX8_takeNumber 10 = .ok (.getfield 21, 3) := by decide +kernel
theorem dX8_takeNumber_13 : decode cX8_takeNumber 13 = .ok (.if_icmp .ge 55, 3) := by decide +kernel
theorem dX8_takeNumber_16 : decode cX8_takeNumber 16 = .ok (.aload_n 0, 1) := by decide +kernel
theorem dX8_takeNumber_17 : decode cX8_takeNumber 17 = .ok (.getfield 9, 3) := by decide +kernel
theorem dX8_takeNumber_20 : decode cX8_takeNumber 20 = .ok (.aload_n 0, 1) := by decide +kernel
theorem dX8_takeNumber_21 : decode cX8_takeNumber 21 = .ok (.getfield 28, 3) := by decide +kernel
theorem dX8_takeNumber_24 : decode cX8_takeNumber 24 = .ok (.iaload, 1) := by decide +kernel
theorem dX8_takeNumber_25 : decode cX8_takeNumber 25 = .ok (.invokestatic 95, 3) := by decide +kernel
theorem dX8_takeNumber_28 : decode cX8_takeNumber 28 = .ok (.ifCond .eq 40, 3) := by decide +kernel
theorem dX8_takeNumber_31 : decode cX8_takeNumber 31 = .ok (.aload_n 0, 1) := by decide +kernel
theorem dX8_takeNumber_32 : decode cX8_takeNumber 32 = .ok (.aload_n 0, 1) := by decide +kernel
theorem dX8_takeNumber_33 : decode cX8_takeNumber 33 = .ok (.getfield 83, 3) := by decide +kernel
theorem dX8_takeNumber_36 : decode cX8_takeNumber 36 = .ok (.bipush 10, 2) := by decide +kernel
theorem dX8_takeNumber_38 : decode cX8_takeNumber 38 = .ok (.imul, 1) := by decide +kernel
theorem dX8_takeNumber_39 : decode cX8_takeNumber 39 = .ok (.aload_n 0, 1) := by decide +kernel
theorem dX8_takeNumber_40 : decode cX8_takeNumber 40 = .ok (.getfield 9, 3) := by decide +kernel
theorem dX8_takeNumber_43 : decode cX8_takeNumber 43 = .ok (.aload_n 0, 1) := by decide +kernel
theorem dX8_takeNumber_44 : decode cX8_takeNumber 44 = .ok (.getfield 28, 3) := by decide +kernel
theorem dX8_takeNumber_47 : decode cX8_takeNumber 47 = .ok (.iaload, 1) := by decide +kernel
theorem dX8_takeNumber_48 : decode cX8_takeNumber 48 = .ok (.iadd, 1) := by decide +kernel
theorem dX8_takeNumber_49 : decode cX8_takeNumber 49 = .ok (.bipush 48, 2) := by decide +kernel
theorem dX8_takeNumber_51 : decode cX8_takeNumber 51 = .ok (.isub, 1) := by decide +kernel
theorem dX8_takeNumber_52 : decode cX8_takeNumber 52 = .ok (.putfield 83, 3) := by decide +kernel
theorem dX8_takeNumber_55 : decode cX8_takeNumber 55 = .ok (.aload_n 0, 1) := by decide +kernel
theorem dX8_takeNumber_56 : decode cX8_takeNumber 56 = .ok (.dup, 1) := by decide +kernel
theorem dX8_takeNumber_57 : decode cX8_takeNumber 57 = .ok (.getfield 28, 3) := by decide +kernel
theorem dX8_takeNumber_60 : decode cX8_takeNumber 60 = .ok (.iconst 1, 1) := by decide +kernel
theorem dX8_takeNumber_61 : decode cX8_takeNumber 61 = .ok (.iadd, 1) := by decide +kernel
theorem dX8_takeNumber_62 : decode cX8_takeNumber 62 = .ok (.putfield 28, 3) := by decide +kernel
theorem dX8_takeNumber_65 : decode cX8_takeNumber 65 = .ok (.goto (-60), 3) := by decide +kernel
theorem dX8_takeNumber_68 : decode cX8_takeNumber 68 = .ok (.aload_n 0, 1) := by decide +kernel
theorem dX8_takeNumber_69 : decode cX8_takeNumber 69 = .ok (.aload_n 0, 1) := by decide +kernel
theorem dX8_takeNumber_70 : decode cX8_takeNumber 70 = .ok (.getfield 28, 3) := by decide +kernel
theorem dX8_takeNumber_73 : decode cX8_takeNumber 73 = .ok (.aload_n 0, 1) := by decide +kernel
theorem dX8_takeNumber_74 : decode cX8_takeNumber 74 = .ok (.getfield 38, 3) := by decide +kernel
theorem dX8_takeNumber_77 : decode cX8_takeNumber 77 = .ok (.isub, 1) := by decide +kernel
theorem dX8_takeNumber_78 : decode cX8_takeNumber 78 = .ok (.iconst 4, 1) := by decide +kernel
theorem dX8_takeNumber_79 : decode cX8_takeNumber 79 = .ok (.if_icmp .gt 8, 3) := by decide +kernel
theorem dX8_takeNumber_82 : decode cX8_takeNumber 82 = .ok (.bipush 12, 2) := by decide +kernel
theorem dX8_takeNumber_84 : decode cX8_takeNumber 84 = .ok (.goto 5, 3) := by decide +kernel
theorem dX8_takeNumber_87 : decode cX8_takeNumber 87 = .ok (.bipush (-2), 2) := by decide +kernel
theorem dX8_takeNumber_89 : decode cX8_takeNumber 89 = .ok (.putfield 41, 3) := by decide +kernel
theorem dX8_takeNumber_92 : decode cX8_takeNumber 92 = .ok (.return_, 1) := by decide +kernel
theorem dX8_isSpelled_0 : decode cX8_isSpelled 0 = .ok (.aload_n 1, 1) := by decide +kernel
theorem dX8_isSpelled_1 : decode cX8_isSpelled 1 = .ok (.invokevirtual 112, 3) := by decide +kernel
theorem dX8_isSpelled_4 : decode cX8_isSpelled 4 = .ok (.aload_n 0, 1) := by decide +kernel
theorem dX8_isSpelled_5 : decode cX8_isSpelled 5 = .ok (.getfield 28, 3) := by decide +kernel
theorem dX8_isSpelled_8 : decode cX8_isSpelled 8 = .ok (.aload_n 0, 1) := by decide +kernel
theorem dX8_isSpelled_9 : decode cX8_isSpelled 9 = .ok (.getfield 38, 3) := by decide +kernel
theorem dX8_isSpelled_12 : decode cX8_isSpelled 12 = .ok (.isub, 1) := by decide +kernel
theorem dX8_isSpelled_13 : decode cX8_isSpelled 13 = .ok (.if_icmp .eq 5, 3) := by decide +kernel
theorem dX8_isSpelled_16 : decode cX8_isSpelled 16 = .ok (.iconst 0, 1) := by decide +kernel
theorem dX8_isSpelled_17 : decode cX8_isSpelled 17 = .ok (.ireturn, 1) := by decide +kernel
theorem dX8_isSpelled_18 : decode cX8_isSpelled 18 = .ok (.iconst 0, 1) := by decide +kernel
theorem dX8_isSpelled_19 : decode cX8_isSpelled 19 = .ok (.istore_n 2, 1) := by decide +kernel
theorem dX8_isSpelled_20 : decode cX8_isSpelled 20 = .ok (.iload_n 2, 1) := by decide +kernel
theorem dX8_isSpelled_21 : decode cX8_isSpelled 21 = .ok (.aload_n 1, 1) := by decide +kernel
theorem dX8_isSpelled_22 : decode cX8_isSpelled 22 = .ok (.invokevirtual 112, 3) := by decide +kernel
theorem dX8_isSpelled_25 : decode cX8_isSpelled 25 = .ok (.if_icmp .ge 30, 3) := by decide +kernel
theorem dX8_isSpelled_28 : decode cX8_isSpelled 28 = .ok (.aload_n 1, 1) := by decide +kernel
theorem dX8_isSpelled_29 : decode cX8_isSpelled 29 = .ok (.iload_n 2, 1) := by decide +kernel
theorem dX8_isSpelled_30 : decode cX8_isSpelled 30 = .ok (.invokevirtual 118, 3) := by decide +kernel
theorem dX8_isSpelled_33 : decode cX8_isSpelled 33 = .ok (.aload_n 0, 1) := by decide +kernel
theorem dX8_isSpelled_34 : decode cX8_isSpelled 34 = .ok (.getfield 9, 3) := by decide +kernel
theorem dX8_isSpelled_37 : decode cX8_isSpelled 37 = .ok (.aload_n 0, 1) := by decide +kernel
theorem dX8_isSpelled_38 : decode cX8_isSpelled 38 = .ok (.getfield 38, 3) := by decide +kernel
theorem dX8_isSpelled_41 : decode cX8_isSpelled 41 = .ok (.iload_n 2, 1) := by decide +kernel
theorem dX8_isSpelled_42 : decode cX8_isSpelled 42 = .ok (.iadd, 1) := by decide +kernel
theorem dX8_isSpelled_43 : decode cX8_isSpelled 43 = .ok (.iaload, 1) := by decide +kernel
theorem dX8_isSpelled_44 : decode cX8_isSpelled 44 = .ok (.if_icmp .eq 5, 3) := by decide +kernel
theorem dX8_isSpelled_47 : decode cX8_isSpelled 47 = .ok (.iconst 0, 1) := by decide +kernel
theorem dX8_isSpelled_48 : decode cX8_isSpelled 48 = .ok (.ireturn, 1) := by decide +kernel
theorem dX8_isSpelled_49 : decode cX8_isSpelled 49 = .ok (.iinc 2 1, 3) := by decide +kernel
theorem dX8_isSpelled_52 : decode cX8_isSpelled 52 = .ok (.goto (-32), 3) := by decide +kernel
theorem dX8_isSpelled_55 : decode cX8_isSpelled 55 = .ok (.iconst 1, 1) := by decide +kernel
theorem dX8_isSpelled_56 : decode cX8_isSpelled 56 = .ok (.ireturn, 1) := by decide +kernel
theorem dX8_spelling_0 : decode cX8_spelling 0 = .ok (.iload_n 0, 1) := by decide +kernel
theorem dX8_spelling_1 : decode cX8_spelling 1 = .ok (.tableswitch 92 0 10 #[59, 62, 65, 68, 71, 74, 77, 80, 83, 86, 89], 59) := by decide +kernel
theorem dX8_spelling_60 : decode cX8_spelling 60 = .ok (.ldc 122, 2) := by decide +kernel
theorem dX8_spelling_62 : decode cX8_spelling 62 = .ok (.areturn, 1) := by decide +kernel
theorem dX8_spelling_63 : decode cX8_spelling 63 = .ok (.ldc 124, 2) := by decide +kernel
theorem dX8_spelling_65 : decode cX8_spelling 65 = .ok (.areturn, 1) := by decide +kernel
theorem dX8_spelling_66 : decode cX8_spelling 66 = .ok (.ldc 126, 2) := by decide +kernel
theorem dX8_spelling_68 : decode cX8_spelling 68 = .ok (.areturn, 1) := by decide +kernel
theorem dX8_spelling_69 : decode cX8_spelling 69 = .ok (.ldc 128, 2) := by decide +kernel
theorem dX8_spelling_71 : decode cX8_spelling 71 = .ok (.areturn, 1) := by decide +kernel
theorem dX8_spelling_72 : decode cX8_spelling 72 = .ok (.ldc 130, 2) := by decide +kernel
theorem dX8_spelling_74 : decode cX8_spelling 74 = .ok (.areturn, 1) := by decide +kernel
theorem dX8_spelling_75 : decode cX8_spelling 75 = .ok (.ldc 132, 2) := by decide +kernel
theorem dX8_spelling_77 : decode cX8_spelling 77 = .ok (.areturn, 1) := by decide +kernel
theorem dX8_spelling_78 : decode cX8_spelling 78 = .ok (.ldc 134, 2) := by decide +kernel
theorem dX8_spelling_80 : decode cX8_spelling 80 = .ok (.areturn, 1) := by decide +kernel
theorem dX8_spelling_81 : decode cX8_spelling 81 = .ok (.ldc 136, 2) := by decide +kernel
theorem dX8_spelling_83 : decode cX8_spelling 83 = .ok (.areturn, 1) := by decide +kernel
theorem dX8_spelling_84 : decode cX8_spelling 84 = .ok (.ldc 138, 2) := by decide +kernel
theorem dX8_spelling_86 : decode cX8_spelling 86 = .ok (.areturn, 1) := by decide +kernel
theorem dX8_spelling_87 : decode cX8_spelling 87 = .ok (.ldc 140, 2) := by decide +kernel
theorem dX8_spelling_89 : decode cX8_spelling 89 = .ok (.areturn, 1) := by decide +kernel
theorem dX8_spelling_90 : decode cX8_spelling 90 = .ok (.ldc 142, 2) := by decide +kernel
theorem dX8_spelling_92 : decode cX8_spelling 92 = .ok (.areturn, 1) := by decide +kernel
theorem dX8_spelling_93 : decode cX8_spelling 93 = .ok (.ldc 144, 2) := by decide +kernel
theorem dX8_spelling_95 : decode cX8_spelling 95 = .ok (.areturn, 1) := by decide +kernel
theorem dX8_isLetter_0 : decode cX8_isLetter 0 = .ok (.iload_n 0, 1) := by decide +kernel
theorem dX8_isLetter_1 : decode cX8_isLetter 1 = .ok (.bipush 97, 2) := by decide +kernel
theorem dX8_isLetter_3 : decode cX8_isLetter 3 = .ok (.if_icmp .lt 13, 3) := by decide +kernel
theorem dX8_isLetter_6 : decode cX8_isLetter 6 = .ok (.iload_n 0, 1) := by decide +kernel
theorem dX8_isLetter_7 : decode cX8_isLetter 7 = .ok (.bipush 122, 2) := by decide +kernel
theorem dX8_isLetter_9 : decode cX8_isLetter 9 = .ok (.if_icmp .gt 7, 3) := by decide +kernel
theorem dX8_isLetter_12 : decode cX8_isLetter 12 = .ok (.iconst 1, 1) := by decide +kernel
theorem dX8_isLetter_13 : decode cX8_isLetter 13 = .ok (.goto 4, 3) := by decide +kernel
theorem dX8_isLetter_16 : decode cX8_isLetter 16 = .ok (.iconst 0, 1) := by decide +kernel
theorem dX8_isLetter_17 : decode cX8_isLetter 17 = .ok (.ireturn, 1) := by decide +kernel
theorem dX8_isDigit_0 : decode cX8_isDigit 0 = .ok (.iload_n 0, 1) := by decide +kernel
theorem dX8_isDigit_1 : decode cX8_isDigit 1 = .ok (.bipush 48, 2) := by decide +kernel
theorem dX8_isDigit_3 : decode cX8_isDigit 3 = .ok (.if_icmp .lt 13, 3) := by decide +kernel
theorem dX8_isDigit_6 : decode cX8_isDigit 6 = .ok (.iload_n 0, 1) := by decide +kernel
theorem dX8_isDigit_7 : decode cX8_isDigit 7 = .ok (.bipush 57, 2) := by decide +kernel
theorem dX8_isDigit_9 : decode cX8_isDigit 9 = .ok (.if_icmp .gt 7, 3) := by decide +kernel
theorem dX8_isDigit_12 : decode cX8_isDigit 12 = .ok (.iconst 1, 1) := by decide +kernel
theorem dX8_isDigit_13 : decode cX8_isDigit 13 = .ok (.goto 4, 3) := by decide +kernel
theorem dX8_isDigit_16 : decode cX8_isDigit 16 = .ok (.iconst 0, 1) := by decide +kernel
theorem dX8_isDigit_17 : decode cX8_isDigit 17 = .ok (.ireturn, 1) := by decide +kernel
theorem dX8_isSign_0 : decode cX8_isSign 0 = .ok (.iload_n 0, 1) := by decide +kernel
theorem dX8_isSign_1 : decode cX8_isSign 1 = .ok (.bipush 40, 2) := by decide +kernel
theorem dX8_isSign_3 : decode cX8_isSign 3 = .ok (.if_icmp .lt 9, 3) := by decide +kernel
theorem dX8_isSign_6 : decode cX8_isSign 6 = .ok (.iload_n 0, 1) := by decide +kernel
theorem dX8_isSign_7 : decode cX8_isSign 7 = .ok (.bipush 43, 2) := by decide +kernel
theorem dX8_isSign_9 : decode cX8_isSign 9 = .ok (.if_icmp .le 21, 3) := by decide +kernel
theorem dX8_isSign_12 : decode cX8_isSign 12 = .ok (.iload_n 0, 1) := by decide +kernel
theorem dX8_isSign_13 : decode cX8_isSign 13 = .ok (.bipush 45, 2) := by decide +kernel
theorem dX8_isSign_15 : decode cX8_isSign 15 = .ok (.if_icmp .eq 15, 3) := by decide +kernel
theorem dX8_isSign_18 : decode cX8_isSign 18 = .ok (.iload_n 0, 1) := by decide +kernel
theorem dX8_isSign_19 : decode cX8_isSign 19 = .ok (.bipush 59, 2) := by decide +kernel
theorem dX8_isSign_21 : decode cX8_isSign 21 = .ok (.if_icmp .lt 13, 3) := by decide +kernel
theorem dX8_isSign_24 : decode cX8_isSign 24 = .ok (.iload_n 0, 1) := by decide +kernel
theorem dX8_isSign_25 : decode cX8_isSign 25 = .ok (.bipush 61, 2) := by decide +kernel
theorem dX8_isSign_27 : decode cX8_isSign 27 = .ok (.if_icmp .gt 7, 3) := by decide +kernel
theorem dX8_isSign_30 : decode cX8_isSign 30 = .ok (.iconst 1, 1) := by decide +kernel
theorem dX8_isSign_31 : decode cX8_isSign 31 = .ok (.goto 4, 3) := by decide +kernel
theorem dX8_isSign_34 : decode cX8_isSign 34 = .ok (.iconst 0, 1) := by decide +kernel
theorem dX8_isSign_35 : decode cX8_isSign 35 = .ok (.ireturn, 1) := by decide +kernel
theorem dX9_init_0 : decode cX9_init 0 = .ok (.aload_n 0, 1) := by decide +kernel
theorem dX9_init_1 : decode cX9_init 1 = .ok (.invokespecial 3, 3) := by decide +kernel
theorem dX9_init_4 : decode cX9_init 4 = .ok (.aload_n 0, 1) := by decide +kernel
theorem dX9_init_5 : decode cX9_init 5 = .ok (.bipush 7, 2) := by decide +kernel
theorem dX9_init_7 : decode cX9_init 7 = .ok (.newarray .int, 2) := by decide +kernel
theorem dX9_init_9 : decode cX9_init 9 = .ok (.putfield 9, 3) := by decide +kernel
theorem dX9_init_12 : decode cX9_init 12 = .ok (.aload_n 0, 1) := by decide +kernel
theorem dX9_init_13 : decode cX9_init 13 = .ok (.iconst 1, 1) := by decide +kernel
theorem dX9_init_14 : decode cX9_init 14 = .ok (.putfield 15, 3) := by decide +kernel
theorem dX9_init_17 : decode cX9_init 17 = .ok (.aload_n 0, 1) := by decide +kernel
theorem dX9_init_18 : decode cX9_init 18 = .ok (.iconst 1, 1) := by decide +kernel
theorem dX9_init_19 : decode cX9_init 19 = .ok (.putfield 19, 3) := by decide +kernel
theorem dX9_init_22 : decode cX9_init 22 = .ok (.aload_n 0, 1) := by decide +kernel
theorem dX9_init_23 : decode cX9_init 23 = .ok (.sipush 896, 3) := by decide +kernel
theorem dX9_init_26 : decode cX9_init 26 = .ok (.newarray .int, 2) := by decide +kernel
theorem dX9_init_28 : decode cX9_init 28 = .ok (.putfield 22, 3) := by decide +kernel
theorem dX9_init_31 : decode cX9_init 31 = .ok (.return_, 1) := by decide +kernel
theorem dX9_minutes_0 : decode cX9_minutes 0 = .ok (.iconst 1, 1) := by decide +kernel
theorem dX9_minutes_1 : decode cX9_minutes 1 = .ok (.istore_n 2, 1) := by decide +kernel
theorem dX9_minutes_2 : decode cX9_minutes 2 = .ok (.iload_n 2, 1) := by decide +kernel
theorem dX9_minutes_3 : decode cX9_minutes 3 = .ok (.iload_n 1, 1) := by decide +kernel
theorem dX9_minutes_4 : decode cX9_minutes 4 = .ok (.if_icmp .gt 76, 3) := by decide +kernel
theorem dX9_minutes_7 : decode cX9_minutes 7 = .ok (.iload_n 2, 1) := by decide +kernel
theorem dX9_minutes_8 : decode cX9_minutes 8 = .ok (.iload_n 1, 1) := by decide +kernel
theorem dX9_minutes_9 : decode cX9_minutes 9 = .ok (.iconst (-1), 1) := by decide +kernel
theorem dX9_minutes_10 : decode cX9_minutes 10 = .ok (.ixor, 1) := by decide +kernel
theorem dX9_minutes_11 : decode cX9_minutes 11 = .ok (.iand, 1) := by decide +kernel
theorem dX9_minutes_12 : decode cX9_minutes 12 = .ok (.ifCond .eq 6, 3) := by decide +kernel
theorem dX9_minutes_15 : decode cX9_minutes 15 = .ok (.goto 59, 3) := by decide +kernel
theorem dX9_minutes_18 : decode cX9_minutes 18 = .ok (.iconst 0, 1) := by decide +kernel
theorem dX9_minutes_19 : decode cX9_minutes 19 = .ok (.istore_n 3, 1) := by decide +kernel
theorem dX9_minutes_20 : decode cX9_minutes 20 = .ok (.iload_n 3, 1) := by decide +kernel
theorem dX9_minutes_21 : decode cX9_minutes 21 = .ok (.bipush 7, 2) := by decide +kernel
theorem dX9_minutes_23 : decode cX9_minutes 23 = .ok (.if_icmp .ge 51, 3) := by decide +kernel
theorem dX9_minutes_26 : decode cX9_minutes 26 = .ok (.iload_n 2, 1) := by decide +kernel
theorem dX9_minutes_27 : decode cX9_minutes 27 = .ok (.iload_n 1, 1) := by decide +kernel
theorem dX9_minutes_28 : decode cX9_minutes 28 = .ok (.if_icmp .eq 15, 3) := by decide +kernel
theorem dX9_minutes_31 : decode cX9_minutes 31 = .ok (.iload_n 1, 1) := by decide +kernel
theorem dX9_minutes_32 : decode cX9_minutes 32 = .ok (.iload_n 2, 1) := by decide +kernel
theorem dX9_minutes_33 : decode cX9_minutes 33 = .ok (.iconst (-1), 1) := by decide +kernel
theorem dX9_minutes_34 : decode cX9_minutes 34 = .ok (.ixor, 1) := by decide +kernel
theorem dX9_minutes_35 : decode cX9_minutes 35 = .ok (.iand, 1) := by decide +kernel
theorem dX9_minutes_36 : decode cX9_minutes 36 = .ok (.iconst 1, 1) := by decide +kernel
theorem dX9_minutes_37 : decode cX9_minutes 37 = .ok (.iload_n 3, 1) := by decide +kernel
theorem dX9_minutes_38 : decode cX9_minutes 38 = .ok (.ishl, 1) := by decide +kernel
theorem dX9_minutes_39 : decode cX9_minutes 39 = .ok (.iand, 1) := by decide +kernel
theorem dX9_minutes_40 : decode cX9_minutes 40 = .ok (.ifCond .eq 28, 3) := by decide +kernel
theorem dX9_minutes_43 : decode cX9_minutes 43 = .ok (.aload_n 0, 1) := by decide +kernel
theorem dX9_minutes_44 : decode cX9_minutes 44 = .ok (.getfield 22, 3) := by decide +kernel
theorem dX9_minutes_47 : decode cX9_minutes 47 = .ok (.iload_n 2, 1) := by decide +kernel
theorem dX9_minutes_48 : decode cX9_minutes 48 = .ok (.bipush 7, 2) := by decide +kernel
theorem dX9_minutes_50 : decode cX9_minutes 50 = .ok (.imul, 1) := by decide +kernel
theorem dX9_minutes_51 : decode cX9_minutes 51 = .ok (.iload_n 3, 1) := by decide +kernel
theorem dX9_minutes_52 : decode cX9_minutes 52 = .ok (.iadd, 1) := by decide +kernel
theorem dX9_minutes_53 : decode cX9_minutes 53 = .ok (.aload_n 0, 1) := by decide +kernel
theorem dX9_minutes_54 : decode cX9_minutes 54 = .ok (.iload_n 1, 1) := by decide +kernel
theorem dX9_minutes_55 : decode cX9_minutes 55 = .ok (.iload_n 2, 1) := by decide +kernel
theorem dX9_minutes_56 : decode cX9_minutes 56 = .ok (.iload_n 3, 1) := by decide +kernel
theorem dX9_minutes_57 : decode cX9_minutes 57 = .ok (.aload_n 0, 1) := by decide +kernel
theorem dX9_minutes_58 : decode cX9_minutes 58 = .ok (.iload_n 1, 1) := by decide +kernel
theorem dX9_minutes_59 : decode cX9_minutes 59 = .ok (.iload_n 2, 1) := by decide +kernel
theorem dX9_minutes_60 : decode cX9_minutes 60 = .ok (.iload_n 3, 1) := by decide +kernel
theorem dX9_minutes_61 : decode cX9_minutes 61 = .ok (.invokevirtual 25, 3) := by decide +kernel
theorem dX9_minutes_64 : decode cX9_minutes 64 = .ok (.invokevirtual 29, 3) := by decide +kernel
theorem dX9_minutes_67 : decode cX9_minutes 67 = .ok (.iastore, 1) := by decide +kernel
theorem dX9_minutes_68 : decode cX9_minutes 68 = .ok (.iinc 3 1, 3) := by decide +kernel
theorem dX9_minutes_71 : decode cX9_minutes 71 = .ok (.goto (-51), 3) := by decide +kernel
theorem dX9_minutes_74 : decode cX9_minutes 74 = .ok (.iinc 2 1, 3) := by decide +kernel
theorem dX9_minutes_77 : decode cX9_minutes 77 = .ok (.goto (-75), 3) := by decide +kernel
theorem dX9_minutes_80 : decode cX9_minutes 80 = .ok (.aload_n 0, 1) := by decide +kernel
theorem dX9_minutes_81 : decode cX9_minutes 81 = .ok (.getfield 22, 3) := by decide +kernel
theorem dX9_minutes_84 : decode cX9_minutes 84 = .ok (.iload_n 1, 1) := by decide +kernel
theorem dX9_minutes_85 : decode cX9_minutes 85 = .ok (.bipush 7, 2) := by decide +kernel
theorem dX9_minutes_87 : decode cX9_minutes 87 = .ok (.imul, 1) := by decide +kernel
theorem dX9_minutes_88 : decode cX9_minutes 88 = .ok (.iaload, 1) := by decide +kernel
theorem dX9_minutes_89 : decode cX9_minutes 89 = .ok (.ireturn, 1) := by decide +kernel
theorem dX9_fetchedAs_0 : decode cX9_fetchedAs 0 = .ok (.aload_n 0, 1) := by decide +kernel
theorem dX9_fetchedAs_1 : decode cX9_fetchedAs 1 = .ok (.iload_n 1, 1) := by decide +kernel
theorem dX9_fetchedAs_2 : decode cX9_fetchedAs 2 = .ok (.invokevirtual 33, 3) := by decide +kernel
theorem dX9_fetchedAs_5 : decode cX9_fetchedAs 5 = .ok (.pop, 1) := by decide +kernel
theorem dX9_fetchedAs_6 : decode cX9_fetchedAs 6 = .ok (.iload_n 1, 1) := by decide +kernel
theorem dX9_fetchedAs_7 : decode cX9_fetchedAs 7 = .ok (.istore_n 3, 1) := by decide +kernel
theorem dX9_fetchedAs_8 : decode cX9_fetchedAs 8 = .ok (.iconst 0, 1) := by decide +kernel
theorem dX9_fetchedAs_9 : decode cX9_fetchedAs 9 = .ok (.istore 4, 2) := by decide +kernel
theorem dX9_fetchedAs_11 : decode cX9_fetchedAs 11 = .ok (.iconst 1, 1) := by decide +kernel
theorem dX9_fetchedAs_12 : decode cX9_fetchedAs 12 = .ok (.istore 5, 2) := by decide +kernel
theorem dX9_fetchedAs_14 : decode cX9_fetchedAs 14 = .ok (.iload 5, 2) := by decide +kernel
theorem dX9_fetchedAs_16 : decode cX9_fetchedAs 16 = .ok (.iload_n 2, 1) := by decide +kernel
theorem dX9_fetchedAs_17 : decode cX9_fetchedAs 17 = .ok (.if_icmp .gt 41, 3) := by decide +kernel
theorem dX9_fetchedAs_20 : decode cX9_fetchedAs 20 = .ok (.iload_n 3, 1) := by decide +kernel
theorem dX9_fetchedAs_21 : decode cX9_fetchedAs 21 = .ok (.ifCond .eq 37, 3) := by decide +kernel
theorem dX9_fetchedAs_24 : decode cX9_fetchedAs 24 = .ok (.aload_n 0, 1) := by decide +kernel
theorem dX9_fetchedAs_25 : decode cX9_fetchedAs 25 = .ok (.iload_n 1, 1) := by decide +kernel
theorem dX9_fetchedAs_26 : decode cX9_fetchedAs 26 = .ok (.iload_n 3, 1) := by decide +kernel
theorem dX9_fetchedAs_27 : decode cX9_fetchedAs 27 = .ok (.iload 4, 2) := by decide +kernel
theorem dX9_fetchedAs_29 : decode cX9_fetchedAs 29 = .ok (.invokevirtual 25, 3) := by decide +kernel
theorem dX9_fetchedAs_32 : decode cX9_fetchedAs 32 = .ok (.istore 4, 2) := by decide +kernel
theorem dX9_fetchedAs_34 : decode cX9_fetchedAs 34 = .ok (.iload_n 3, 1) := by decide +kernel
theorem dX9_fetchedAs_35 : decode cX9_fetchedAs 35 = .ok (.iconst 1, 1) := by decide +kernel
theorem dX9_fetchedAs_36 : decode cX9_fetchedAs 36 = .ok (.iload 4, 2) := by decide +kernel
theorem dX9_fetchedAs_38 : decode cX9_fetchedAs 38 = .ok (.ishl, 1) := by decide +kernel
theorem dX9_fetchedAs_39 : decode cX9_fetchedAs 39 = .ok (.iconst (-1), 1) := by decide +kernel
theorem dX9_fetchedAs_40 : decode cX9_fetchedAs 40 = .ok (.ixor, 1) := by decide +kernel
theorem dX9_fetchedAs_41 : decode cX9_fetchedAs 41 = .ok (.iand, 1) := by decide +kernel
theorem dX9_fetchedAs_42 : decode cX9_fetchedAs 42 = .ok (.istore_n 3, 1) := by decide +kernel
theorem dX9_fetchedAs_43 : decode cX9_fetchedAs 43 = .ok (.iload 5, 2) := by decide +kernel
theorem dX9_fetchedAs_45 : decode cX9_fetchedAs 45 = .ok (.iload_n 2, 1) := by decide +kernel
theorem dX9_fetchedAs_46 : decode cX9_fetchedAs 46 = .ok (.if_icmp .ne 6, 3) := by decide +kernel
theorem dX9_fetchedAs_49 : decode cX9_fetchedAs 49 = .ok (.iload 4, 2) := by decide +kernel
theorem dX9_fetchedAs_51 : decode cX9_fetchedAs 51 = .ok (.ireturn, 1) := by decide +kernel
theorem dX9_fetchedAs_52 : decode cX9_fetchedAs 52 = .ok (.iinc 5 1, 3) := by decide +kernel
theorem dX9_fetchedAs_55 : decode cX9_fetchedAs 55 = .ok (.goto (-41), 3) := by decide +kernel
theorem dX9_fetchedAs_58 : decode cX9_fetchedAs 58 = .ok (.iconst (-1), 1) := by decide +kernel
theorem dX9_fetchedAs_59 : decode cX9_fetchedAs 59 = .ok (.ireturn, 1) := by decide +kernel
theorem dX9_best_0 : decode cX9_best 0 = .ok (.iconst (-1), 1) := by decide +kernel
theorem dX9_best_1 : decode cX9_best 1 = .ok (.istore 4, 2) := by decide +kernel
theorem dX9_best_3 : decode cX9_best 3 = .ok (.iconst 0, 1) := by decide +kernel
theorem dX9_best_4 : decode cX9_best 4 = .ok (.istore 5, 2) := by decide +kernel
theorem dX9_best_6 : decode cX9_best 6 = .ok (.iconst 0, 1) := by decide +kernel
theorem dX9_best_7 : decode cX9_best 7 = .ok (.istore 6, 2) := by decide +kernel
theorem dX9_best_9 : decode cX9_best 9 = .ok (.iload 6, 2) := by decide +kernel
theorem dX9_best_11 : decode cX9_best 11 = .ok (.bipush 7, 2) := by decide +kernel
