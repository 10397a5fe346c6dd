set_option maxRecDepth 100000 in
set_option maxHeartbeats 4000000 in
theorem c_X11_rows {l : Launch} {G : th_G} {σ : th_S} {μ : th_M} {t : Nat} {x1 : Int32} {r : Int32} (h : f_X11_rows σ μ t x1 = some r) : th_Met l G yX11_rows cX11_rows 3 (some FieldType.int) { frames := 0, cells := 0, slots := 0, locals := 0 } [.ref t, .int x1] σ μ (some (.int r)) σ μ := by
  refine th_ofW (by decide +kernel) (Nat.le_of_ble_eq_true rfl) ?_
  intro p e s m args below meth c ls Q hQ C hr hk hnm T hl
  have hx := C.1
  have hb := C.2.1
  have C : CallFix p m c cX11_rows 3 s args th_ws RX11 := C
  have hl : lv_has ls 3 [(0, .ref t), (1, .int x1)] := hl
  unfold f_X11_rows at h
  refine lv_iconst (v := 2) hx hb dX11_rows_0 (by decide) ?_
  refine lv_aload_n hx hb dX11_rows_1 rfl (lv_at hl 0 rfl) ?_
  obtain ⟨v1, e2, h⟩ := ob_ h
  refine g_RX11_116 C T e2 dX11_rows_2 ?_
  refine lv_iconst (v := 2) hx hb dX11_rows_5 (by decide) ?_
  refine lv_idiv hx hb dX11_rows_6 (by decide) ?_
  refine lv_iadd hx hb dX11_rows_7 ?_
  refine lv_istore_n (lv' := [(2, .int (2 + (v1 / 2))), (0, .ref t), (1, .int x1)]) hx hb dX11_rows_8 rfl hl (by decide) rfl (fun ls hl => ?_)
  refine lv_aload_n hx hb dX11_rows_9 rfl (lv_at hl 1 rfl) ?_
  obtain ⟨a3, e4, h⟩ := ob_ h
  refine g_RX11_7 C T e4 dX11_rows_10 ?_
  refine lv_iload_n hx hb dX11_rows_13 rfl (lv_at hl 2 rfl) ?_
  obtain ⟨v5, e6, h⟩ := ob_ h
  refine th_iald C T e6 dX11_rows_14 ?_
  by_cases c7 : v5 = 1
  · replace h := ot_ c7 h
    refine th_tabIn (off := 33) (tgt := 48) C 1 c7 dX11_rows_15 (by decide) (by decide) (by decide) (by decide) ?_
    refine lv_iload_n hx hb dX11_rows_48 rfl (lv_at hl 0 rfl) ?_
    refine lv_iconst (v := 1) hx hb dX11_rows_49 (by decide) ?_
    refine lv_isub hx hb dX11_rows_50 ?_
    obtain rfl := os1 h
    exact th_iret hQ C hr hk T (Nat.le_of_ble_eq_true rfl) (Nat.le_of_ble_eq_true rfl) dX11_rows_51
  replace h := of_ c7 h
  by_cases c8 : v5 = 2
  · replace h := ot_ c8 h
    refine th_tabIn (off := 37) (tgt := 52) C 2 c8 dX11_rows_15 (by decide) (by decide) (by decide) (by decide) ?_
    refine lv_iload_n hx hb dX11_rows_52 rfl (lv_at hl 0 rfl) ?_
    refine lv_aload_n hx hb dX11_rows_53 rfl (lv_at hl 1 rfl) ?_
    obtain ⟨v9, e10, h⟩ := ob_ h
    refine g_RX11_116 C T e10 dX11_rows_54 ?_
    refine lv_iadd hx hb dX11_rows_57 ?_
    obtain rfl := os1 h
    exact th_iret hQ C hr hk T (Nat.le_of_ble_eq_true rfl) (Nat.le_of_ble_eq_true rfl) dX11_rows_58
  replace h := of_ c8 h
  by_cases c11 : v5 = 3
  · replace h := ot_ c11 h
    refine th_tabIn (off := 44) (tgt := 59) C 3 c11 dX11_rows_15 (by decide) (by decide) (by decide) (by decide) ?_
    refine lv_iload_n hx hb dX11_rows_59 rfl (lv_at hl 0 rfl) ?_
    refine lv_iconst (v := 1) hx hb dX11_rows_60 (by decide) ?_
    refine lv_isub hx hb dX11_rows_61 ?_
    refine lv_aload_n hx hb dX11_rows_62 rfl (lv_at hl 1 rfl) ?_
    obtain ⟨a12, e13, h⟩ := ob_ h
    refine g_RX11_13 C T e13 dX11_rows_63 ?_
    refine lv_iload_n hx hb dX11_rows_66 rfl (lv_at hl 2 rfl) ?_
    obtain ⟨v14, e15, h⟩ := ob_ h
    refine th_iald C T e15 dX11_rows_67 ?_
    refine lv_iadd hx hb dX11_rows_68 ?_
    obtain rfl := os1 h
    exact th_iret hQ C hr hk T (Nat.le_of_ble_eq_true rfl) (Nat.le_of_ble_eq_true rfl) dX11_rows_69
  replace h := of_ c11 h
  by_cases c16 : v5 = 4
  · replace h := ot_ c16 h
    refine th_tabIn (off := 55) (tgt := 70) C 4 c16 dX11_rows_15 (by decide) (by decide) (by decide) (by decide) ?_
    refine lv_iload_n hx hb dX11_rows_70 rfl (lv_at hl 0 rfl) ?_
    refine lv_aload_n hx hb dX11_rows_71 rfl (lv_at hl 1 rfl) ?_
    obtain ⟨v17, e18, h⟩ := ob_ h
    refine g_RX11_116 C T e18 dX11_rows_72 ?_
    refine lv_iadd hx hb dX11_rows_75 ?_
    obtain rfl := os1 h
    exact th_iret hQ C hr hk T (Nat.le_of_ble_eq_true rfl) (Nat.le_of_ble_eq_true rfl) dX11_rows_76
  replace h := of_ c16 h
  by_cases c19 : v5 = 5
  · replace h := ot_ c19 h
    refine th_tabIn (off := 62) (tgt := 77) C 5 c19 dX11_rows_15 (by decide) (by decide) (by decide) (by decide) ?_
    refine lv_iconst (v := 2) hx hb dX11_rows_77 (by decide) ?_
    refine lv_iload_n hx hb dX11_rows_78 rfl (lv_at hl 0 rfl) ?_
    refine lv_imul hx hb dX11_rows_79 ?_
    obtain rfl := os1 h
    exact th_iret hQ C hr hk T (Nat.le_of_ble_eq_true rfl) (Nat.le_of_ble_eq_true rfl) dX11_rows_80
  replace h := of_ c19 h
  have n20 := th_ne (n := 1) c7 (by decide)
  have n21 := th_ne (n := 2) c8 (by decide)
  have n22 := th_ne (n := 3) c11 (by decide)
  have n23 := th_ne (n := 4) c16 (by decide)
  have n24 := th_ne (n := 5) c19 (by decide)
  refine lv_tableOut (tgt := 81) hx hb dX11_rows_15 (by omega) (by decide) ?_
  refine lv_iload_n hx hb dX11_rows_81 rfl (lv_at hl 0 rfl) ?_
  obtain rfl := os1 h
  exact th_iret hQ C hr hk T (Nat.le_of_ble_eq_true rfl) (Nat.le_of_ble_eq_true rfl) dX11_rows_82
set_option maxRecDepth 100000 in
set_option maxHeartbeats 4000000 in
theorem c_X11_hearing {l : Launch} {G : th_G} {σ : th_S} {μ : th_M} {t : Nat} {x1 : Int32} {r : Int32} (h : f_X11_hearing σ μ t x1 = some r) : th_Met l G yX11_hearing cX11_hearing 3 (some FieldType.int) { frames := 1, cells := 0, slots := 0, locals := 80 } [.ref t, .int x1] σ μ (some (.int r)) σ μ := by
  refine th_ofW (by decide +kernel) (Nat.le_of_ble_eq_true rfl) ?_
  intro p e s m args below meth c ls Q hQ C hr hk hnm T hl
  have hx := C.1
  have hb := C.2.1
  have C : CallFix p m c cX11_hearing 3 s args th_ws RX11 := C
  have hl : lv_has ls 3 [(0, .ref t), (1, .int x1)] := hl
  unfold f_X11_hearing at h
  refine lv_bipush (v := 12) hx hb dX11_hearing_0 (by decide) ?_
  refine lv_aload_n hx hb dX11_hearing_2 rfl (lv_at hl 0 rfl) ?_
  obtain ⟨v1, e2, h⟩ := ob_ h
  refine g_RX11_116 C T e2 dX11_hearing_3 ?_
  refine lv_isub hx hb dX11_hearing_6 ?_
  refine lv_istore_n (lv' := [(2, .int (12 - v1)), (0, .ref t), (1, .int x1)]) hx hb dX11_hearing_7 rfl hl (by decide) rfl (fun ls hl => ?_)
  refine lv_aload_n hx hb dX11_hearing_8 rfl (lv_at hl 1 rfl) ?_
  obtain ⟨a3, e4, h⟩ := ob_ h
  refine g_RX11_7 C T e4 dX11_hearing_9 ?_
  refine lv_iload_n hx hb dX11_hearing_12 rfl (lv_at hl 2 rfl) ?_
  obtain ⟨v5, e6, h⟩ := ob_ h
  refine th_iald C T e6 dX11_hearing_13 ?_
  by_cases c7 : v5 = 1
  · replace h := ot_ c7 h
    refine th_tabIn (off := 34) (tgt := 48) C 1 c7 dX11_hearing_14 (by decide) (by decide) (by decide) (by decide) ?_
    refine lv_iload_n hx hb dX11_hearing_48 rfl (lv_at hl 0 rfl) ?_
    refine lv_aload_n hx hb dX11_hearing_49 rfl (lv_at hl 1 rfl) ?_
    obtain ⟨a8, e9, h⟩ := ob_ h
    refine g_RX11_13 C T e9 dX11_hearing_50 ?_
    refine lv_iload_n hx hb dX11_hearing_53 rfl (lv_at hl 2 rfl) ?_
    obtain ⟨v10, e11, h⟩ := ob_ h
    refine th_iald C T e11 dX11_hearing_54 ?_
    refine lv_iadd hx hb dX11_hearing_55 ?_
    obtain rfl := os1 h
    exact th_iret hQ C hr hk T (Nat.le_of_ble_eq_true rfl) (Nat.le_of_ble_eq_true rfl) dX11_hearing_56
  replace h := of_ c7 h
  by_cases c12 : v5 = 2
  · replace h := ot_ c12 h
    refine th_tabIn (off := 43) (tgt := 57) C 2 c12 dX11_hearing_14 (by decide) (by decide) (by decide) (by decide) ?_
    refine lv_iconst (v := 0) hx hb dX11_hearing_57 (by decide) ?_
    refine lv_iload_n hx hb dX11_hearing_58 rfl (lv_at hl 0 rfl) ?_
    refine lv_iconst (v := 3) hx hb dX11_hearing_59 (by decide) ?_
    refine lv_isub hx hb dX11_hearing_60 ?_
    refine th_max C hl.1 w_1073 w_478 w_11 w_479 (Nat.le_of_ble_eq_true rfl) (Nat.le_of_ble_eq_true rfl) (Nat.zero_le _) (Nat.zero_le _) dX11_hearing_61 ?_
    obtain rfl := os1 h
    exact th_iret hQ C hr hk T (Nat.le_of_ble_eq_true rfl) (Nat.le_of_ble_eq_true rfl) dX11_hearing_64
  replace h := of_ c12 h
  by_cases c13 : v5 = 3
  · replace h := ot_ c13 h
    refine th_tabIn (off := 51) (tgt := 65) C 3 c13 dX11_hearing_14 (by decide) (by decide) (by decide) (by decide) ?_
    refine lv_iload_n hx hb dX11_hearing_65 rfl (lv_at hl 0 rfl) ?_
    refine lv_aload_n hx hb dX11_hearing_66 rfl (lv_at hl 1 rfl) ?_
    obtain ⟨a14, e15, h⟩ := ob_ h
    refine g_RX11_13 C T e15 dX11_hearing_67 ?_
    refine lv_iload_n hx hb dX11_hearing_70 rfl (lv_at hl 2 rfl) ?_
    obtain ⟨v16, e17, h⟩ := ob_ h
    refine th_iald C T e17 dX11_hearing_71 ?_
    refine lv_iadd hx hb dX11_hearing_72 ?_
    obtain rfl := os1 h
    exact th_iret hQ C hr hk T (Nat.le_of_ble_eq_true rfl) (Nat.le_of_ble_eq_true rfl) dX11_hearing_73
  replace h := of_ c13 h
  by_cases c18 : v5 = 4
  · replace h := ot_ c18 h
    refine th_tabIn (off := 60) (tgt := 74) C 4 c18 dX11_hearing_14 (by decide) (by decide) (by decide) (by decide) ?_
    refine lv_iconst (v := 0) hx hb dX11_hearing_74 (by decide) ?_
    refine lv_iload_n hx hb dX11_hearing_75 rfl (lv_at hl 0 rfl) ?_
    refine lv_iconst (v := 3) hx hb dX11_hearing_76 (by decide) ?_
    refine lv_isub hx hb dX11_hearing_77 ?_
    refine lv_iconst (v := 2) hx hb dX11_hearing_78 (by decide) ?_
    refine lv_idiv hx hb dX11_hearing_79 (by decide) ?_
    refine th_max C hl.1 w_1073 w_478 w_11 w_479 (Nat.le_of_ble_eq_true rfl) (Nat.le_of_ble_eq_true rfl) (Nat.zero_le _) (Nat.zero_le _) dX11_hearing_80 ?_
    obtain rfl := os1 h
    exact th_iret hQ C hr hk T (Nat.le_of_ble_eq_true rfl) (Nat.le_of_ble_eq_true rfl) dX11_hearing_83
  replace h := of_ c18 h
  by_cases c19 : v5 = 5
  · replace h := ot_ c19 h
    refine th_tabIn (off := 70) (tgt := 84) C 5 c19 dX11_hearing_14 (by decide) (by decide) (by decide) (by decide) ?_
    refine lv_aload_n hx hb dX11_hearing_84 rfl (lv_at hl 1 rfl) ?_
    obtain ⟨a20, e21, h⟩ := ob_ h
    refine g_RX11_13 C T e21 dX11_hearing_85 ?_
    refine lv_iload_n hx hb dX11_hearing_88 rfl (lv_at hl 2 rfl) ?_
    obtain ⟨v22, e23, h⟩ := ob_ h
    refine th_iald C T e23 dX11_hearing_89 ?_
    refine lv_iconst (v := 2) hx hb dX11_hearing_90 (by decide) ?_
    refine th_irem C dX11_hearing_91 (by decide) ?_
    refine lv_iconst (v := 1) hx hb dX11_hearing_92 (by decide) ?_
    refine lv_icmp_ne (tgt := 100) hx hb dX11_hearing_93 (by decide) (fun c24 => ?_) (fun c24 => ?_)
    · replace h := of_ c24 h
      refine lv_iload_n hx hb dX11_hearing_100 rfl (lv_at hl 0 rfl) ?_
      obtain rfl := os1 h
      exact th_iret hQ C hr hk T (Nat.le_of_ble_eq_true rfl) (Nat.le_of_ble_eq_true rfl) dX11_hearing_101
    · replace h := ot_ c24 h
      refine lv_iconst (v := 0) hx hb dX11_hearing_96 (by decide) ?_
      refine lv_goto (tgt := 101) hx hb dX11_hearing_97 (by decide) ?_
      obtain rfl := os1 h
      exact th_iret hQ C hr hk T (Nat.le_of_ble_eq_true rfl) (Nat.le_of_ble_eq_true rfl) dX11_hearing_101
  replace h := of_ c19 h
  have n25 := th_ne (n := 1) c7 (by decide)
  have n26 := th_ne (n := 2) c12 (by decide)
  have n27 := th_ne (n := 3) c13 (by decide)
  have n28 := th_ne (n := 4) c18 (by decide)
  have n29 := th_ne (n := 5) c19 (by decide)
  refine lv_tableOut (tgt := 102) hx hb dX11_hearing_14 (by omega) (by decide) ?_
  refine lv_iload_n hx hb dX11_hearing_102 rfl (lv_at hl 0 rfl) ?_
  obtain rfl := os1 h
  exact th_iret hQ C hr hk T (Nat.le_of_ble_eq_true rfl) (Nat.le_of_ble_eq_true rfl) dX11_hearing_103
set_option maxRecDepth 100000 in
set_option maxHeartbeats 4000000 in
theorem c_X11_rules {l : Launch} {G : th_G} {σ : th_S} {μ : th_M} {t : Nat} {x1 : Int32} {x2 : Int32} {x3 : Int32} {x4 : Int32} {r : Int32} {μ' : th_M} (h : f_X11_rules σ μ t x1 x2 x3 x4 = some (r, μ')) : th_Met l G yX11_rules cX11_rules 12 (some FieldType.int) { frames := 2, cells := 0, slots := 0, locals := 101 } [.ref t, .int x1, .int x2, .int x3, .int x4] σ μ (some (.int r)) σ μ' := by
  refine th_ofW (by decide +kernel) (Nat.le_of_ble_eq_true rfl) ?_
  intro p e s m args below meth c ls Q hQ C hr hk hnm T hl
  have hx := C.1
  have hb := C.2.1
  have C : CallFix p m c cX11_rules 12 s args th_ws RX11 := C
  have hl : lv_has ls 12 [(0, .ref t), (1, .int x1), (2, .int x2), (3, .int x3), (4, .int x4)] := hl
  have J132 : ∀ (n : Nat) (μ : th_M) (t : Nat) (x5 : Int32) (x6 : Int32) (x7 : Int32) (H : Heap) (locs : List Loc) (ls : Array Slot), th_R G s H locs σ μ → lv_has ls 12 [(0, .ref t), (5, .int x5), (6, .int x6), (7, .int x7)] → f_X11_rules_b132  n σ μ t x5 x6 x7 = some (r, μ') → W p l e { frames := 2, cells := 0, slots := 0, locals := 101 } s m args below meth c H locs 0 0 Q (F0 m 132 ls []) := by
    intro n
    induction n with
    | zero => intro μ t x5 x6 x7 H locs ls T hl h; unfold f_X11_rules_b132 at h; cases h
    | succ n132 ih132 =>
      intro μ t x5 x6 x7 H locs ls T hl h
      unfold f_X11_rules_b132 at h
      have J429 : ∀ (μ : th_M) (t : Nat) (x5 : Int32) (x6 : Int32) (x7 : Int32) (x11 : Int32) (H : Heap) (locs : List Loc) (ls : Array Slot), th_R G s H locs σ μ → lv_has ls 12 [(0, .ref t), (5, .int x5), (6, .int x6), (7, .int x7), (11, .int x11)] → f_X11_rules_b429 (f_X11_rules_b132 n132) σ μ t x5 x6 x7 x11 = some (r, μ') → W p l e { frames := 2, cells := 0, slots := 0, locals := 101 } s m args below meth c H locs 0 0 Q (F0 m 429 ls []) := by
        intro μ t x5 x6 x7 x11 H locs ls T hl h
        unfold f_X11_rules_b429 at h
        refine lv_aload_n hx hb dX11_rules_429 rfl (lv_at hl 0 rfl) ?_
        obtain ⟨a1, e2, h⟩ := ob_ h
        refine g_RX11_40 C T e2 dX11_rules_430 ?_
        refine lv_iload hx hb dX11_rules_433 (lv_at hl 2 rfl) ?_
        refine lv_iconst (v := 1) hx hb dX11_rules_435 (by decide) ?_
        refine lv_isub hx hb dX11_rules_436 ?_
        refine lv_iload hx hb dX11_rules_437 (lv_at hl 4 rfl) ?_
        obtain ⟨μ3, e4, h⟩ := ob_ h
        refine th_iast C T e4 dX11_rules_439 (fun H locs T => ?_)
        refine lv_iinc (v := x7 + 1) (lv' := [(7, .int (x7 + 1)), (0, .ref t), (5, .int x5), (6, .int x6), (11, .int x11)]) hx hb dX11_rules_440 hl (k := 3) rfl rfl (by decide) rfl (fun ls hl => ?_)
        refine lv_goto (tgt := 132) hx hb dX11_rules_443 (by decide) ?_
        exact ih132 _ _ _ _ _ _ _ _ T (lv_sub hl [1, 2, 3, 0] rfl) h
      refine lv_iload hx hb dX11_rules_132 (lv_at hl 3 rfl) ?_
      refine lv_iload hx hb dX11_rules_134 (lv_at hl 1 rfl) ?_
      refine lv_icmp_ge (tgt := 446) hx hb dX11_rules_136 (by decide) (fun c1 => ?_) (fun c1 => ?_)
      · replace h := ot_ c1 h
        refine lv_aload_n hx hb dX11_rules_446 rfl (lv_at hl 0 rfl) ?_
        obtain ⟨a2, e3, h⟩ := ob_ h
        refine g_RX11_40 C T e3 dX11_rules_447 ?_
        refine lv_iconst (v := 0) hx hb dX11_rules_450 (by decide) ?_
        obtain ⟨v4, e5, h⟩ := ob_ h
        refine th_ialdn C T e5 (by decide) (by decide) dX11_rules_451 ?_
        obtain ⟨rfl, rfl⟩ := os2 h
        exact th_iret hQ C hr hk T (Nat.le_of_ble_eq_true rfl) (Nat.le_of_ble_eq_true rfl) dX11_rules_452
      · replace h := of_ c1 h
        refine lv_aload_n hx hb dX11_rules_139 rfl (lv_at hl 0 rfl) ?_
        obtain ⟨a6, e7, h⟩ := ob_ h
        refine g_RX11_34 C T e7 dX11_rules_140 ?_
        refine lv_sipush (v := 170) hx hb dX11_rules_143 (by decide) ?_
        refine lv_aload_n hx hb dX11_rules_146 rfl (lv_at hl 0 rfl) ?_
        obtain ⟨v8, e9, h⟩ := ob_ h
        refine g_RX11_129 C T e9 dX11_rules_147 ?_
        refine lv_imul hx hb dX11_rules_150 ?_
        refine lv_iload hx hb dX11_rules_151 (lv_at hl 3 rfl) ?_
        refine lv_iadd hx hb dX11_rules_153 ?_
        obtain ⟨v10, e11, h⟩ := ob_ h
        refine th_iald C T e11 dX11_rules_154 ?_
        refine lv_istore (lv' := [(8, .int v10), (0, .ref t), (5, .int x5), (6, .int x6), (7, .int x7)]) hx hb dX11_rules_155 hl (by decide) rfl (fun ls hl => ?_)
        refine lv_iload hx hb dX11_rules_157 (lv_at hl 0 rfl) ?_
        refine lv_if_lt (tgt := 177) hx hb dX11_rules_159 (by decide) (fun c12 => ?_) (fun c12 => ?_)
        · replace h := ot_ c12 h
          refine lv_iload hx hb dX11_rules_177 (lv_at hl 0 rfl) ?_
          refine lv_bipush (v := -7) hx hb dX11_rules_179 (by decide) ?_
          refine lv_icmp_le (tgt := 207) hx hb dX11_rules_181 (by decide) (fun c13 => ?_) (fun c13 => ?_)
          · replace h := ot_ c13 h
            refine lv_aload_n hx hb dX11_rules_207 rfl (lv_at hl 1 rfl) ?_
            obtain ⟨a14, e15, h⟩ := ob_ h
            refine g_RX11_40 C T e15 dX11_rules_208 ?_
            refine lv_iload hx hb dX11_rules_211 (lv_at hl 3 rfl) ?_
            refine lv_iconst (v := 1) hx hb dX11_rules_213 (by decide) ?_
            refine lv_isub hx hb dX11_rules_214 ?_
            obtain ⟨v16, e17, h⟩ := ob_ h
            refine th_iald C T e17 dX11_rules_215 ?_
            refine lv_istore (lv' := [(9, .int v16), (8, .int v10), (0, .ref t), (5, .int x5), (6, .int x6), (7, .int x7)]) hx hb dX11_rules_216 hl (by decide) rfl (fun ls hl => ?_)
            refine lv_iload hx hb dX11_rules_218 (lv_at hl 1 rfl) ?_
            refine lv_bipush (v := -13) hx hb dX11_rules_220 (by decide) ?_
            refine lv_icmp_ne (tgt := 247) hx hb dX11_rules_222 (by decide) (fun c18 => ?_) (fun c18 => ?_)
            · replace h := of_ c18 h
              refine lv_iload hx hb dX11_rules_247 (lv_at hl 1 rfl) ?_
              refine lv_bipush (v := -19) hx hb dX11_rules_249 (by decide) ?_
              refine lv_icmp_ne (tgt := 269) hx hb dX11_rules_251 (by decide) (fun c19 => ?_) (fun c19 => ?_)
              · replace h := of_ c19 h
                refine lv_aload_n hx hb dX11_rules_269 rfl (lv_at hl 2 rfl) ?_
                obtain ⟨a20, e21, h⟩ := ob_ h
                refine g_RX11_40 C T e21 dX11_rules_270 ?_
                refine lv_iload hx hb dX11_rules_273 (lv_at hl 4 rfl) ?_
                refine lv_iconst (v := 2) hx hb dX11_rules_275 (by decide) ?_
                refine lv_isub hx hb dX11_rules_276 ?_
                obtain ⟨v22, e23, h⟩ := ob_ h
                refine th_iald C T e23 dX11_rules_277 ?_
                refine lv_istore (lv' := [(10, .int v22), (9, .int v16), (8, .int v10), (0, .ref t), (5, .int x5), (6, .int x6), (7, .int x7)]) hx hb dX11_rules_278 hl (by decide) rfl (fun ls hl => ?_)
                refine lv_iinc (v := x6 + (-1)) (lv' := [(6, .int (x6 + (-1))), (10, .int v22), (9, .int v16), (8, .int v10), (0, .ref t), (5, .int x5), (7, .int x7)]) hx hb dX11_rules_280 hl (k := 5) rfl rfl (by decide) rfl (fun ls hl => ?_)
                refine lv_iload hx hb dX11_rules_283 (lv_at hl 3 rfl) ?_
                by_cases c24 : v10 = (-17)
                · replace h := ot_ c24 h
                  refine th_tabIn (off := 127) (tgt := 412) C (-17) c24 dX11_rules_285 (by decide) (by decide) (by decide) (by decide) ?_
                  refine lv_iload hx hb dX11_rules_412 (lv_at hl 1 rfl) ?_
                  refine lv_iload hx hb dX11_rules_414 (lv_at hl 2 rfl) ?_
                  refine lv_isub hx hb dX11_rules_416 ?_
                  refine lv_istore (lv' := [(11, .int (v22 - v16)), (6, .int (x6 + (-1))), (10, .int v22), (9, .int v16), (8, .int v10), (0, .ref t), (5, .int x5), (7, .int x7)]) hx hb dX11_rules_417 hl (by decide) rfl (fun ls hl => ?_)
                  refine lv_goto (tgt := 429) hx hb dX11_rules_419 (by decide) ?_
                  exact J429 _ _ _ _ _ _ _ _ _ T (lv_sub hl [5, 6, 1, 7, 0] rfl) h
                replace h := of_ c24 h
                by_cases c25 : v10 = (-16)
                · replace h := ot_ c25 h
                  refine th_tabIn (off := 117) (tgt := 402) C (-16) c25 dX11_rules_285 (by decide) (by decide) (by decide) (by decide) ?_
                  refine lv_iload hx hb dX11_rules_402 (lv_at hl 1 rfl) ?_
                  refine lv_iload hx hb dX11_rules_404 (lv_at hl 2 rfl) ?_
                  refine lv_iadd hx hb dX11_rules_406 ?_
                  refine lv_istore (lv' := [(11, .int (v22 + v16)), (6, .int (x6 + (-1))), (10, .int v22), (9, .int v16), (8, .int v10), (0, .ref t), (5, .int x5), (7, .int x7)]) hx hb dX11_rules_407 hl (by decide) rfl (fun ls hl => ?_)
                  refine lv_goto (tgt := 429) hx hb dX11_rules_409 (by decide) ?_
                  exact J429 _ _ _ _ _ _ _ _ _ T (lv_sub hl [5, 6, 1, 7, 0] rfl) h
                replace h := of_ c25 h
                by_cases c26 : v10 = (-15)
                · replace h := ot_ c26 h
                  refine th_tabIn (off := 100) (tgt := 385) C (-15) c26 dX11_rules_285 (by decide) (by decide) (by decide) (by decide) ?_
                  refine lv_iload hx hb dX11_rules_385 (lv_at hl 1 rfl) ?_
                  refine lv_iload hx hb dX11_rules_387 (lv_at hl 2 rfl) ?_
                  refine lv_icmp_ne (tgt := 396) hx hb dX11_rules_389 (by decide) (fun c27 => ?_) (fun c27 => ?_)
                  · replace h := of_ c27 h
                    refine lv_iconst (v := 0) hx hb dX11_rules_396 (by decide) ?_
                    refine lv_istore (lv' := [(11, .int 0), (6, .int (x6 + (-1))), (10, .int v22), (9, .int v16), (8, .int v10), (0, .ref t), (5, .int x5), (7, .int x7)]) hx hb dX11_rules_397 hl (by decide) rfl (fun ls hl => ?_)
                    refine lv_goto (tgt := 429) hx hb dX11_rules_399 (by decide) ?_
                    exact J429 _ _ _ _ _ _ _ _ _ T (lv_sub hl [5, 6, 1, 7, 0] rfl) h
                  · replace h := ot_ c27 h
                    refine lv_iconst (v := 1) hx hb dX11_rules_392 (by decide) ?_
                    refine lv_goto (tgt := 397) hx hb dX11_rules_393 (by decide) ?_
                    refine lv_istore (lv' := [(11, .int 1), (6, .int (x6 + (-1))), (10, .int v22), (9, .int v16), (8, .int v10), (0, .ref t), (5, .int x5), (7, .int x7)]) hx hb dX11_rules_397 hl (by decide) rfl (fun ls hl => ?_)
                    refine lv_goto (tgt := 429) hx hb dX11_rules_399 (by decide) ?_
                    exact J429 _ _ _ _ _ _ _ _ _ T (lv_sub hl [5, 6, 1, 7, 0] rfl) h
                replace h := of_ c26 h
                by_cases c28 : v10 = (-14)
                · replace h := ot_ c28 h
                  refine th_tabIn (off := 83) (tgt := 368) C (-14) c28 dX11_rules_285 (by decide) (by decide) (by decide) (by decide) ?_
                  refine lv_iload hx hb dX11_rules_368 (lv_at hl 1 rfl) ?_
                  refine lv_iload hx hb dX11_rules_370 (lv_at hl 2 rfl) ?_
                  refine lv_icmp_ge (tgt := 379) hx hb dX11_rules_372 (by decide) (fun c29 => ?_) (fun c29 => ?_)
                  · replace h := ot_ c29 h
                    refine lv_iconst (v := 0) hx hb dX11_rules_379 (by decide) ?_
                    refine lv_istore (lv' := [(11, .int 0), (6, .int (x6 + (-1))), (10, .int v22), (9, .int v16), (8, .int v10), (0, .ref t), (5, .int x5), (7, .int x7)]) hx hb dX11_rules_380 hl (by decide) rfl (fun ls hl => ?_)
                    refine lv_goto (tgt := 429) hx hb dX11_rules_382 (by decide) ?_
                    exact J429 _ _ _ _ _ _ _ _ _ T (lv_sub hl [5, 6, 1, 7, 0] rfl) h
                  · replace h := of_ c29 h
                    refine lv_iconst (v := 1) hx hb dX11_rules_375 (by decide) ?_
                    refine lv_goto (tgt := 380) hx hb dX11_rules_376 (by decide) ?_
                    refine lv_istore (lv' := [(11, .int 1), (6, .int (x6 + (-1))), (10, .int v22), (9, .int v16), (8, .int v10), (0, .ref t), (5, .int x5), (7, .int x7)]) hx hb dX11_rules_380 hl (by decide) rfl (fun ls hl => ?_)
                    refine lv_goto (tgt := 429) hx hb dX11_rules_382 (by decide) ?_
                    exact J429 _ _ _ _ _ _ _ _ _ T (lv_sub hl [5, 6, 1, 7, 0] rfl) h
                replace h := of_ c28 h
                by_cases c30 : v10 = (-13)
                · replace h := ot_ c30 h
                  refine th_tabIn (off := 137) (tgt := 422) C (-13) c30 dX11_rules_285 (by decide) (by decide) (by decide) (by decide) ?_
                  refine lv_iload hx hb dX11_rules_422 (lv_at hl 1 rfl) ?_
                  refine lv_iload hx hb dX11_rules_424 (lv_at hl 2 rfl) ?_
                  refine lv_imul hx hb dX11_rules_426 ?_
                  refine lv_istore (lv' := [(11, .int (v22 * v16)), (6, .int (x6 + (-1))), (10, .int v22), (9, .int v16), (8, .int v10), (0, .ref t), (5, .int x5), (7, .int x7)]) hx hb dX11_rules_427 hl (by decide) rfl (fun ls hl => ?_)
                  exact J429 _ _ _ _ _ _ _ _ _ T (lv_sub hl [5, 6, 1, 7, 0] rfl) h
                replace h := of_ c30 h
                by_cases c31 : v10 = (-12)
                · replace h := ot_ c31 h
                  refine th_tabIn (off := 63) (tgt := 348) C (-12) c31 dX11_rules_285 (by decide) (by decide) (by decide) (by decide) ?_
                  refine lv_iload hx hb dX11_rules_348 (lv_at hl 1 rfl) ?_
                  refine lv_if_eq (tgt := 362) hx hb dX11_rules_350 (by decide) (fun c32 => ?_) (fun c32 => ?_)
                  · replace h := ot_ c32 h
                    refine lv_iconst (v := 0) hx hb dX11_rules_362 (by decide) ?_
                    refine lv_istore (lv' := [(11, .int 0), (6, .int (x6 + (-1))), (10, .int v22), (9, .int v16), (8, .int v10), (0, .ref t), (5, .int x5), (7, .int x7)]) hx hb dX11_rules_363 hl (by decide) rfl (fun ls hl => ?_)
                    refine lv_goto (tgt := 429) hx hb dX11_rules_365 (by decide) ?_
                    exact J429 _ _ _ _ _ _ _ _ _ T (lv_sub hl [5, 6, 1, 7, 0] rfl) h
                  · replace h := of_ c32 h
                    refine lv_iload hx hb dX11_rules_353 (lv_at hl 2 rfl) ?_
                    refine lv_if_eq (tgt := 362) hx hb dX11_rules_355 (by decide) (fun c33 => ?_) (fun c33 => ?_)
                    · replace h := ot_ c33 h
                      refine lv_iconst (v := 0) hx hb dX11_rules_362 (by decide) ?_
                      refine lv_istore (lv' := [(11, .int 0), (6, .int (x6 + (-1))), (10, .int v22), (9, .int v16), (8, .int v10), (0, .ref t), (5, .int x5), (7, .int x7)]) hx hb dX11_rules_363 hl (by decide) rfl (fun ls hl => ?_)
                      refine lv_goto (tgt := 429) hx hb dX11_rules_365 (by decide) ?_
                      exact J429 _ _ _ _ _ _ _ _ _ T (lv_sub hl [5, 6, 1, 7, 0] rfl) h
                    · replace h := of_ c33 h
                      refine lv_iconst (v := 1) hx hb dX11_rules_358 (by decide) ?_
                      refine lv_goto (tgt := 363) hx hb dX11_rules_359 (by decide) ?_
                      refine lv_istore (lv' := [(11, .int 1), (6, .int (x6 + (-1))), (10, .int v22), (9, .int v16), (8, .int v10), (0, .ref t), (5, .int x5), (7, .int x7)]) hx hb dX11_rules_363 hl (by decide) rfl (fun ls hl => ?_)
                      refine lv_goto (tgt := 429) hx hb dX11_rules_365 (by decide) ?_
                      exact J429 _ _ _ _ _ _ _ _ _ T (lv_sub hl [5, 6, 1, 7, 0] rfl) h
                replace h := of_ c31 h
                by_cases c34 : v10 = (-11)
                · replace h := ot_ c34 h
                  refine th_tabIn (off := 43) (tgt := 328) C (-11) c34 dX11_rules_285 (by decide) (by decide) (by decide) (by decide) ?_
                  refine lv_iload hx hb dX11_rules_328 (lv_at hl 1 rfl) ?_
                  refine lv_if_ne (tgt := 338) hx hb dX11_rules_330 (by decide) (fun c35 => ?_) (fun c35 => ?_)
                  · replace h := of_ c35 h
                    refine lv_iconst (v := 1) hx hb dX11_rules_338 (by decide) ?_
                    refine lv_goto (tgt := 343) hx hb dX11_rules_339 (by decide) ?_
                    refine lv_istore (lv' := [(11, .int 1), (6, .int (x6 + (-1))), (10, .int v22), (9, .int v16), (8, .int v10), (0, .ref t), (5, .int x5), (7, .int x7)]) hx hb dX11_rules_343 hl (by decide) rfl (fun ls hl => ?_)
                    refine lv_goto (tgt := 429) hx hb dX11_rules_345 (by decide) ?_
                    exact J429 _ _ _ _ _ _ _ _ _ T (lv_sub hl [5, 6, 1, 7, 0] rfl) h
                  · replace h := ot_ c35 h
                    refine lv_iload hx hb dX11_rules_333 (lv_at hl 2 rfl) ?_
                    refine lv_if_eq (tgt := 342) hx hb dX11_rules_335 (by decide) (fun c36 => ?_) (fun c36 => ?_)
                    · replace h := ot_ c36 h
                      refine lv_iconst (v := 0) hx hb dX11_rules_342 (by decide) ?_
                      refine lv_istore (lv' := [(11, .int 0), (6, .int (x6 + (-1))), (10, .int v22), (9, .int v16), (8, .int v10), (0, .ref t), (5, .int x5), (7, .int x7)]) hx hb dX11_rules_343 hl (by decide) rfl (fun ls hl => ?_)
                      refine lv_goto (tgt := 429) hx hb dX11_rules_345 (by decide) ?_
                      exact J429 _ _ _ _ _ _ _ _ _ T (lv_sub hl [5, 6, 1, 7, 0] rfl) h
                    · replace h := of_ c36 h
                      refine lv_iconst (v := 1) hx hb dX11_rules_338 (by decide) ?_
                      refine lv_goto (tgt := 343) hx hb dX11_rules_339 (by decide) ?_
                      refine lv_istore (lv' := [(11, .int 1), (6, .int (x6 + (-1))), (10, .int v22), (9, .int v16), (8, .int v10), (0, .ref t), (5, .int x5), (7, .int x7)]) hx hb dX11_rules_343 hl (by decide) rfl (fun ls hl => ?_)
                      refine lv_goto (tgt := 429) hx hb dX11_rules_345 (by decide) ?_
                      exact J429 _ _ _ _ _ _ _ _ _ T (lv_sub hl [5, 6, 1, 7, 0] rfl) h
                replace h := of_ c34 h
                have n37 := th_ne (n := (-17)) c24 (by decide)
                have n38 := th_ne (n := (-16)) c25 (by decide)
                have n39 := th_ne (n := (-15)) c26 (by decide)
                have n40 := th_ne (n := (-14)) c28 (by decide)
                have n41 := th_ne (n := (-13)) c30 (by decide)
                have n42 := th_ne (n := (-12)) c31 (by decide)
                have n43 := th_ne (n := (-11)) c34 (by decide)
                refine lv_tableOut (tgt := 422) hx hb dX11_rules_285 (by omega) (by decide) ?_
                refine lv_iload hx hb dX11_rules_422 (lv_at hl 1 rfl) ?_
                refine lv_iload hx hb dX11_rules_424 (lv_at hl 2 rfl) ?_
                refine lv_imul hx hb dX11_rules_426 ?_
                refine lv_istore (lv' := [(11, .int (v22 * v16)), (6, .int (x6 + (-1))), (10, .int v22), (9, .int v16), (8, .int v10), (0, .ref t), (5, .int x5), (7, .int x7)]) hx hb dX11_rules_427 hl (by decide) rfl (fun ls hl => ?_)
                exact J429 _ _ _ _ _ _ _ _ _ T (lv_sub hl [5, 6, 1, 7, 0] rfl) h
              · replace h := ot_ c19 h
                refine lv_aload_n hx hb dX11_rules_254 rfl (lv_at hl 2 rfl) ?_
                obtain ⟨a44, e45, h⟩ := ob_ h
                refine g_RX11_40 C T e45 dX11_rules_255 ?_
                refine lv_iload hx hb dX11_rules_258 (lv_at hl 4 rfl) ?_
                refine lv_iconst (v := 1) hx hb dX11_rules_260 (by decide) ?_
                refine lv_isub hx hb dX11_rules_261 ?_
                refine lv_iload hx hb dX11_rules_262 (lv_at hl 0 rfl) ?_
                refine lv_ineg hx hb dX11_rules_264 ?_
                obtain ⟨μ46, e47, h⟩ := ob_ h
                refine th_iast C T e47 dX11_rules_265 (fun H locs T => ?_)
                refine lv_goto (tgt := 440) hx hb dX11_rules_266 (by decide) ?_
                refine lv_iinc (v := x7 + 1) (lv' := [(7, .int (x7 + 1)), (9, .int v16), (8, .int v10), (0, .ref t), (5, .int x5), (6, .int x6)]) hx hb dX11_rules_440 hl (k := 5) rfl rfl (by decide) rfl (fun ls hl => ?_)
                refine lv_goto (tgt := 132) hx hb dX11_rules_443 (by decide) ?_
                exact ih132 _ _ _ _ _ _ _ _ T (lv_sub hl [3, 4, 5, 0] rfl) h
            · replace h := ot_ c18 h
              refine lv_aload_n hx hb dX11_rules_225 rfl (lv_at hl 2 rfl) ?_
              obtain ⟨a48, e49, h⟩ := ob_ h
              refine g_RX11_40 C T e49 dX11_rules_226 ?_
              refine lv_iload hx hb dX11_rules_229 (lv_at hl 4 rfl) ?_
              refine lv_iconst (v := 1) hx hb dX11_rules_231 (by decide) ?_
              refine lv_isub hx hb dX11_rules_232 ?_
              refine lv_iload hx hb dX11_rules_233 (lv_at hl 0 rfl) ?_
              refine lv_if_ne (tgt := 242) hx hb dX11_rules_235 (by decide) (fun c50 => ?_) (fun c50 => ?_)
              · replace h := of_ c50 h
                refine lv_iconst (v := 0) hx hb dX11_rules_242 (by decide) ?_
                obtain ⟨μ51, e52, h⟩ := ob_ h
                refine th_iast C T e52 dX11_rules_243 (fun H locs T => ?_)
                refine lv_goto (tgt := 440) hx hb dX11_rules_244 (by decide) ?_
                refine lv_iinc (v := x7 + 1) (lv' := [(7, .int (x7 + 1)), (9, .int v16), (8, .int v10), (0, .ref t), (5, .int x5), (6, .int x6)]) hx hb dX11_rules_440 hl (k := 5) rfl rfl (by decide) rfl (fun ls hl => ?_)
                refine lv_goto (tgt := 132) hx hb dX11_rules_443 (by decide) ?_
                exact ih132 _ _ _ _ _ _ _ _ T (lv_sub hl [3, 4, 5, 0] rfl) h
              · replace h := ot_ c50 h
                refine lv_iconst (v := 1) hx hb dX11_rules_238 (by decide) ?_
                refine lv_goto (tgt := 243) hx hb dX11_rules_239 (by decide) ?_
                obtain ⟨μ53, e54, h⟩ := ob_ h
                refine th_iast C T e54 dX11_rules_243 (fun H locs T => ?_)
                refine lv_goto (tgt := 440) hx hb dX11_rules_244 (by decide) ?_
                refine lv_iinc (v := x7 + 1) (lv' := [(7, .int (x7 + 1)), (9, .int v16), (8, .int v10), (0, .ref t), (5, .int x5), (6, .int x6)]) hx hb dX11_rules_440 hl (k := 5) rfl rfl (by decide) rfl (fun ls hl => ?_)
                refine lv_goto (tgt := 132) hx hb dX11_rules_443 (by decide) ?_
                exact ih132 _ _ _ _ _ _ _ _ T (lv_sub hl [3, 4, 5, 0] rfl) h
          · replace h := of_ c13 h
            refine lv_aload_n hx hb dX11_rules_184 rfl (lv_at hl 1 rfl) ?_
            obtain ⟨a55, e56, h⟩ := ob_ h
            refine g_RX11_40 C T e56 dX11_rules_185 ?_
            refine lv_iload hx hb dX11_rules_188 (lv_at hl 3 rfl) ?_
            refine lv_iinc (v := x6 + 1) (lv' := [(6, .int (x6 + 1)), (8, .int v10), (0, .ref t), (5, .int x5), (7, .int x7)]) hx hb dX11_rules_190 hl (k := 3) rfl rfl (by decide) rfl (fun ls hl => ?_)
            refine lv_aload_n hx hb dX11_rules_193 rfl (lv_at hl 2 rfl) ?_
            obtain ⟨a57, e58, h⟩ := ob_ h
            refine g_RX11_43 C T e58 dX11_rules_194 ?_
            refine lv_iload hx hb dX11_rules_197 (lv_at hl 1 rfl) ?_
            refine lv_ineg hx hb dX11_rules_199 ?_
            refine lv_iconst (v := 1) hx hb dX11_rules_200 (by decide) ?_
            refine lv_isub hx hb dX11_rules_201 ?_
            obtain ⟨v59, e60, h⟩ := ob_ h
            refine th_iald C T e60 dX11_rules_202 ?_
            obtain ⟨μ61, e62, h⟩ := ob_ h
            refine th_iast C T e62 dX11_rules_203 (fun H locs T => ?_)
            refine lv_goto (tgt := 440) hx hb dX11_rules_204 (by decide) ?_
            refine lv_iinc (v := x7 + 1) (lv' := [(7, .int (x7 + 1)), (6, .int (x6 + 1)), (8, .int v10), (0, .ref t), (5, .int x5)]) hx hb dX11_rules_440 hl (k := 4) rfl rfl (by decide) rfl (fun ls hl => ?_)
            refine lv_goto (tgt := 132) hx hb dX11_rules_443 (by decide) ?_
            exact ih132 _ _ _ _ _ _ _ _ T (lv_sub hl [3, 4, 1, 0] rfl) h
        · replace h := of_ c12 h
          refine lv_aload_n hx hb dX11_rules_162 rfl (lv_at hl 1 rfl) ?_
          obtain ⟨a63, e64, h⟩ := ob_ h
          refine g_RX11_40 C T e64 dX11_rules_163 ?_
          refine lv_iload hx hb dX11_rules_166 (lv_at hl 3 rfl) ?_
          refine lv_iinc (v := x6 + 1) (lv' := [(6, .int (x6 + 1)), (8, .int v10), (0, .ref t), (5, .int x5), (7, .int x7)]) hx hb dX11_rules_168 hl (k := 3) rfl rfl (by decide) rfl (fun ls hl => ?_)
          refine lv_iload hx hb dX11_rules_171 (lv_at hl 1 rfl) ?_
          obtain ⟨μ65, e66, h⟩ := ob_ h
          refine th_iast C T e66 dX11_rules_173 (fun H locs T => ?_)
          refine lv_goto (tgt := 440) hx hb dX11_rules_174 (by decide) ?_
          refine lv_iinc (v := x7 + 1) (lv' := [(7, .int (x7 + 1)), (6, .int (x6 + 1)), (8, .int v10), (0, .ref t), (5, .int x5)]) hx hb dX11_rules_440 hl (k := 4) rfl rfl (by decide) rfl (fun ls hl => ?_)
          refine lv_goto (tgt := 132) hx hb dX11_rules_443 (by decide) ?_
          exact ih132 _ _ _ _ _ _ _ _ T (lv_sub hl [3, 4, 1, 0] rfl) h
  have J81 : ∀ (μ : th_M) (t : Nat) (x1 : Int32) (x2 : Int32) (x4 : Int32) (y0 : Nat) (y1 : Int32) (y2 : Int32) (H : Heap) (locs : List Loc) (ls : Array Slot), th_R G s H locs σ μ → lv_has ls 12 [(0, .ref t), (1, .int x1), (2, .int x2), (4, .int x4)] → f_X11_rules_b81 σ μ t x1 x2 x4 y0 y1 y2 = some (r, μ') → W p l e { frames := 2, cells := 0, slots := 0, locals := 101 } s m args below meth c H locs 0 0 Q (F0 m 81 ls [.int y2, .int y1, .ref y0]) := by
    intro μ t x1 x2 x4 y0 y1 y2 H locs ls T hl h
    unfold f_X11_rules_b81 at h
    obtain ⟨μ1, e2, h⟩ := ob_ h
    refine th_iast C T e2 dX11_rules_81 (fun H locs T => ?_)
    refine lv_aload_n hx hb dX11_rules_82 rfl (lv_at hl 0 rfl) ?_
    obtain ⟨a3, e4, h⟩ := ob_ h
    refine g_RX11_43 C T e4 dX11_rules_83 ?_
    refine lv_iconst (v := 4) hx hb dX11_rules_86 (by decide) ?_
    refine lv_iload_n hx hb dX11_rules_87 rfl (lv_at hl 2 rfl) ?_
    obtain ⟨μ5, e6, h⟩ := ob_ h
    refine th_iastn C T e6 (by decide) (by decide) dX11_rules_88 (fun H locs T => ?_)
    refine lv_aload_n hx hb dX11_rules_89 rfl (lv_at hl 0 rfl) ?_
    obtain ⟨a7, e8, h⟩ := ob_ h
    refine g_RX11_43 C T e8 dX11_rules_90 ?_
    refine lv_iconst (v := 5) hx hb dX11_rules_93 (by decide) ?_
    refine lv_iload hx hb dX11_rules_94 (lv_at hl 3 rfl) ?_
    obtain ⟨μ9, e10, h⟩ := ob_ h
    refine th_iastn C T e10 (by decide) (by decide) dX11_rules_96 (fun H locs T => ?_)
    refine lv_aload_n hx hb dX11_rules_97 rfl (lv_at hl 0 rfl) ?_
    obtain ⟨a11, e12, h⟩ := ob_ h
    refine g_RX11_37 C T e12 dX11_rules_98 ?_
    refine lv_iconst (v := 4) hx hb dX11_rules_101 (by decide) ?_
    refine lv_aload_n hx hb dX11_rules_102 rfl (lv_at hl 0 rfl) ?_
    obtain ⟨v13, e14, h⟩ := ob_ h
    refine g_RX11_129 C T e14 dX11_rules_103 ?_
    refine lv_imul hx hb dX11_rules_106 ?_
    refine lv_iload_n hx hb dX11_rules_107 rfl (lv_at hl 1 rfl) ?_
    refine lv_iadd hx hb dX11_rules_108 ?_
    refine lv_iconst (v := 1) hx hb dX11_rules_109 (by decide) ?_
    refine lv_iadd hx hb dX11_rules_110 ?_
    obtain ⟨v15, e16, h⟩ := ob_ h
    refine th_iald C T e16 dX11_rules_111 ?_
    refine lv_istore (lv' := [(5, .int v15), (0, .ref t), (1, .int x1), (2, .int x2), (4, .int x4)]) hx hb dX11_rules_112 hl (by decide) rfl (fun ls hl => ?_)
    refine lv_iconst (v := 0) hx hb dX11_rules_114 (by decide) ?_
    refine lv_istore (lv' := [(6, .int 0), (5, .int v15), (0, .ref t), (1, .int x1), (2, .int x2), (4, .int x4)]) hx hb dX11_rules_115 hl (by decide) rfl (fun ls hl => ?_)
    refine lv_aload_n hx hb dX11_rules_117 rfl (lv_at hl 2 rfl) ?_
    obtain ⟨a17, e18, h⟩ := ob_ h
    refine g_RX11_37 C T e18 dX11_rules_118 ?_
    refine lv_iconst (v := 4) hx hb dX11_rules_121 (by decide) ?_
    refine lv_aload_n hx hb dX11_rules_122 rfl (lv_at hl 2 rfl) ?_
    obtain ⟨v19, e20, h⟩ := ob_ h
    refine g_RX11_129 C T e20 dX11_rules_123 ?_
    refine lv_imul hx hb dX11_rules_126 ?_
    refine lv_iload_n hx hb dX11_rules_127 rfl (lv_at hl 3 rfl) ?_
    refine lv_iadd hx hb dX11_rules_128 ?_
    obtain ⟨v21, e22, h⟩ := ob_ h
    refine th_iald C T e22 dX11_rules_129 ?_
    refine lv_istore (lv' := [(7, .int v21), (6, .int 0), (5, .int v15), (0, .ref t), (1, .int x1), (2, .int x2), (4, .int x4)]) hx hb dX11_rules_130 hl (by decide) rfl (fun ls hl => ?_)
    exact J132 fu _ _ _ _ _ _ _ _ T (lv_sub hl [3, 2, 1, 0] rfl) h
  unfold f_X11_rules at h
  refine lv_aload_n hx hb dX11_rules_0 rfl (lv_at hl 0 rfl) ?_
  obtain ⟨a1, e2, h⟩ := ob_ h
  refine g_RX11_43 C T e2 dX11_rules_1 ?_
  refine lv_iconst (v := 0) hx hb dX11_rules_4 (by decide) ?_
  refine lv_iload_n hx hb dX11_rules_5 rfl (lv_at hl 3 rfl) ?_
  refine lv_iconst (v := 0) hx hb dX11_rules_6 (by decide) ?_
  obtain ⟨v3, e4, h⟩ := ob_ h
  refine th_callS (As := [.int x3, .int 0]) (rest := [.int 0, .ref a1]) C T (c_X11_far e4) k_RX11_126 rfl hl.1 rfl (st1 := [.int v3, .int 0, .ref a1]) rfl (cells1 := 0) rfl (slots1 := 0) rfl (Nat.le_of_ble_eq_true rfl) ⟨Nat.le_of_ble_eq_true rfl, Nat.le_of_ble_eq_true rfl⟩ ⟨Nat.le_of_ble_eq_true rfl, Nat.le_of_ble_eq_true rfl⟩ dX11_rules_7 (fun H locs T => ?_)
  obtain ⟨μ5, e6, h⟩ := ob_ h
  refine th_iastn C T e6 (by decide) (by decide) dX11_rules_10 (fun H locs T => ?_)
  refine lv_aload_n hx hb dX11_rules_11 rfl (lv_at hl 0 rfl) ?_
  obtain ⟨a7, e8, h⟩ := ob_ h
  refine g_RX11_43 C T e8 dX11_rules_12 ?_
  refine lv_iconst (v := 1) hx hb dX11_rules_15 (by decide) ?_
  refine lv_aload_n hx hb dX11_rules_16 rfl (lv_at hl 0 rfl) ?_
  obtain ⟨v9, e10, h⟩ := ob_ h
  refine g_RX11_116 C T e10 dX11_rules_17 ?_
  obtain ⟨μ11, e12, h⟩ := ob_ h
  refine th_iastn C T e12 (by decide) (by decide) dX11_rules_20 (fun H locs T => ?_)
  refine lv_aload_n hx hb dX11_rules_21 rfl (lv_at hl 0 rfl) ?_
  obtain ⟨a13, e14, h⟩ := ob_ h
  refine g_RX11_43 C T e14 dX11_rules_22 ?_
  refine lv_iconst (v := 2) hx hb dX11_rules_25 (by decide) ?_
  refine lv_iload hx hb dX11_rules_26 (lv_at hl 4 rfl) ?_
  refine lv_aload_n hx hb dX11_rules_28 rfl (lv_at hl 0 rfl) ?_
  obtain ⟨a15, e16, h⟩ := ob_ h
  refine g_RX11_19 C T e16 dX11_rules_29 ?_
  refine lv_iload_n hx hb dX11_rules_32 rfl (lv_at hl 2 rfl) ?_
  obtain ⟨v17, e18, h⟩ := ob_ h
  refine th_iald C T e18 dX11_rules_33 ?_
  refine lv_isub hx hb dX11_rules_34 ?_
  refine lv_aload_n hx hb dX11_rules_35 rfl (lv_at hl 0 rfl) ?_
  obtain ⟨a19, e20, h⟩ := ob_ h
  refine g_RX11_22 C T e20 dX11_rules_36 ?_
  refine lv_iload_n hx hb dX11_rules_39 rfl (lv_at hl 2 rfl) ?_
  obtain ⟨v21, e22, h⟩ := ob_ h
  refine th_iald C T e22 dX11_rules_40 ?_
  refine lv_isub hx hb dX11_rules_41 ?_
  obtain ⟨μ23, e24, h⟩ := ob_ h
  refine th_iastn C T e24 (by decide) (by decide) dX11_rules_42 (fun H locs T => ?_)
  refine lv_aload_n hx hb dX11_rules_43 rfl (lv_at hl 0 rfl) ?_
  obtain ⟨a25, e26, h⟩ := ob_ h
  refine g_RX11_43 C T e26 dX11_rules_44 ?_
  refine lv_iconst (v := 3) hx hb dX11_rules_47 (by decide) ?_
  refine lv_iload_n hx hb dX11_rules_48 rfl (lv_at hl 3 rfl) ?_
  refine lv_bipush (v := 8) hx hb dX11_rules_49 (by decide) ?_
  refine lv_idiv hx hb dX11_rules_51 (by decide) ?_
  refine lv_aload_n hx hb dX11_rules_52 rfl (lv_at hl 0 rfl) ?_
  obtain ⟨v27, e28, h⟩ := ob_ h
  refine g_RX11_70 C T e28 dX11_rules_53 ?_
  refine lv_bipush (v := 8) hx hb dX11_rules_56 (by decide) ?_
  refine lv_idiv hx hb dX11_rules_58 (by decide) ?_
  refine lv_icmp_ne (tgt := 80) hx hb dX11_rules_59 (by decide) (fun c29 => ?_) (fun c29 => ?_)
  · replace h := of_ c29 h
    refine lv_iconst (v := 0) hx hb dX11_rules_80 (by decide) ?_
    exact J81 _ _ _ _ _ _ _ _ _ _ _ T (lv_sub hl [0, 1, 2, 4] rfl) h
  · replace h := ot_ c29 h
    refine lv_iload_n hx hb dX11_rules_62 rfl (lv_at hl 3 rfl) ?_
    refine lv_bipush (v := 8) hx hb dX11_rules_63 (by decide) ?_
    refine th_irem C dX11_rules_65 (by decide) ?_
    refine lv_aload_n hx hb dX11_rules_66 rfl (lv_at hl 0 rfl) ?_
    obtain ⟨v30, e31, h⟩ := ob_ h
    refine g_RX11_70 C T e31 dX11_rules_67 ?_
    refine lv_bipush (v := 8) hx hb dX11_rules_70 (by decide) ?_
    refine th_irem C dX11_rules_72 (by decide) ?_
    refine lv_icmp_le (tgt := 80) hx hb dX11_rules_73 (by decide) (fun c32 => ?_) (fun c32 => ?_)
    · replace h := ot_ c32 h
      refine lv_iconst (v := 0) hx hb dX11_rules_80 (by decide) ?_
      exact J81 _ _ _ _ _ _ _ _ _ _ _ T (lv_sub hl [0, 1, 2, 4] rfl) h
    · replace h := of_ c32 h
      refine lv_iconst (v := 1) hx hb dX11_rules_76 (by decide) ?_
      refine lv_goto (tgt := 81) hx hb dX11_rules_77 (by decide) ?_
      exact J81 _ _ _ _ _ _ _ _ _ _ _ T (lv_sub hl [0, 1, 2, 4] rfl) h
set_option maxRecDepth 100000 in
set_option maxHeartbeats 4000000 in
theorem c_X11_owes {l : Launch} {G : th_G} {σ : th_S} {μ : th_M} {t : Nat} {x1 : Int32} {x2 : Int32} {r : Int32} {μ' : th_M} (h : f_X11_owes σ μ t x1 x2 = some (r, μ')) : th_Met l G yX11_owes cX11_owes 6 (some FieldType.int) { frames := 3, cells := 0, slots := 0, locals := 132 } [.ref t, .int x1, .int x2] σ μ (some (.int r)) σ μ' := by
  refine th_ofW (by decide +kernel) (Nat.le_of_ble_eq_true rfl) ?_
  intro p e s m args below meth c ls Q hQ C hr hk hnm T hl
  have hx := C.1
  have hb := C.2.1
  have C : CallFix p m c cX11_owes 6 s args th_ws RX11 := C
  have hl : lv_has ls 6 [(0, .ref t), (1, .int x1), (2, .int x2)] := hl
  unfold f_X11_owes at h
  refine lv_iconst (v := 0) hx hb dX11_owes_0 (by decide) ?_
  refine lv_bipush (v := 99) hx hb dX11_owes_1 (by decide) ?_
  refine lv_aload_n hx hb dX11_owes_3 rfl (lv_at hl 0 rfl) ?_
  refine lv_iconst (v := 0) hx hb dX11_owes_4 (by decide) ?_
  refine lv_iload_n hx hb dX11_owes_5 rfl (lv_at hl 1 rfl) ?_
  refine lv_aload_n hx hb dX11_owes_6 rfl (lv_at hl 0 rfl) ?_
  obtain ⟨a1, e2, h⟩ := ob_ h
  refine g_RX11_16 C T e2 dX11_owes_7 ?_
  refine lv_iload_n hx hb dX11_owes_10 rfl (lv_at hl 1 rfl) ?_
  obtain ⟨v3, e4, h⟩ := ob_ h
  refine th_iald C T e4 dX11_owes_11 ?_
  refine lv_iload_n hx hb dX11_owes_12 rfl (lv_at hl 2 rfl) ?_
  obtain ⟨k5, h⟩ := oc_ h
  obtain ⟨v6, μ7, e8, h⟩ := ob2 h
  refine th_callV (As := [.int 0, .int x1, .int v3, .int x2]) (rest := [.int 99, .int 0]) C T (c_X11_rules e8) k_RX11_132 11 rfl rfl (by decide) k5 rfl hl.1 rfl (st1 := [.int v6, .int 99, .int 0]) rfl (cells1 := 0) rfl (slots1 := 0) rfl (Nat.le_of_ble_eq_true rfl) ⟨Nat.le_of_ble_eq_true rfl, Nat.le_of_ble_eq_true rfl⟩ ⟨Nat.le_of_ble_eq_true rfl, Nat.le_of_ble_eq_true rfl⟩ dX11_owes_13 (fun H locs T => ?_)
  refine th_min C hl.1 w_1094 w_271 w_11 w_272 (Nat.le_of_ble_eq_true rfl) (Nat.le_of_ble_eq_true rfl) (Nat.zero_le _) (Nat.zero_le _) dX11_owes_16 ?_
  refine th_max C hl.1 w_1073 w_478 w_11 w_479 (Nat.le_of_ble_eq_true rfl) (Nat.le_of_ble_eq_true rfl) (Nat.zero_le _) (Nat.zero_le _) dX11_owes_19 ?_
  refine lv_istore_n (lv' := [(3, .int (jmax 0 (jmin 99 v6))), (0, .ref t), (1, .int x1), (2, .int x2)]) hx hb dX11_owes_22 rfl hl (by decide) rfl (fun ls hl => ?_)
  refine lv_iconst (v := 0) hx hb dX11_owes_23 (by decide) ?_
  refine lv_iload_n hx hb dX11_owes_24 rfl (lv_at hl 3 rfl) ?_
  refine lv_aload_n hx hb dX11_owes_25 rfl (lv_at hl 1 rfl) ?_
  obtain ⟨a9, e10, h⟩ := ob_ h
  refine g_RX11_19 C T e10 dX11_owes_26 ?_
  refine lv_iload_n hx hb dX11_owes_29 rfl (lv_at hl 2 rfl) ?_
  obtain ⟨v11, e12, h⟩ := ob_ h
  refine th_iald C T e12 dX11_owes_30 ?_
  refine lv_isub hx hb dX11_owes_31 ?_
  refine lv_aload_n hx hb dX11_owes_32 rfl (lv_at hl 1 rfl) ?_
  obtain ⟨a13, e14, h⟩ := ob_ h
  refine g_RX11_22 C T e14 dX11_owes_33 ?_
  refine lv_iload_n hx hb dX11_owes_36 rfl (lv_at hl 2 rfl) ?_
  obtain ⟨v15, e16, h⟩ := ob_ h
  refine th_iald C T e16 dX11_owes_37 ?_
  refine lv_isub hx hb dX11_owes_38 ?_
  refine th_max C hl.1 w_1073 w_478 w_11 w_479 (Nat.le_of_ble_eq_true rfl) (Nat.le_of_ble_eq_true rfl) (Nat.zero_le _) (Nat.zero_le _) dX11_owes_39 ?_
  refine lv_istore (lv' := [(4, .int (jmax 0 ((x2 - v11) - v15))), (3, .int (jmax 0 (jmin 99 v6))), (0, .ref t), (1, .int x1), (2, .int x2)]) hx hb dX11_owes_42 hl (by decide) rfl (fun ls hl => ?_)
  refine lv_iload hx hb dX11_owes_44 (lv_at hl 0 rfl) ?_
  refine lv_bipush (v := 14) hx hb dX11_owes_46 (by decide) ?_
  refine lv_iadd hx hb dX11_owes_48 ?_
  refine lv_bipush (v := 15) hx hb dX11_owes_49 (by decide) ?_
  refine lv_idiv hx hb dX11_owes_51 (by decide) ?_
  refine lv_iload_n hx hb dX11_owes_52 rfl (lv_at hl 1 rfl) ?_
  refine lv_imul hx hb dX11_owes_53 ?_
  refine lv_istore (lv' := [(5, .int ((((jmax 0 ((x2 - v11) - v15)) + 14) / 15) * (jmax 0 (jmin 99 v6)))), (4, .int (jmax 0 ((x2 - v11) - v15))), (3, .int (jmax 0 (jmin 99 v6))), (0, .ref t), (1, .int x1), (2, .int x2)]) hx hb dX11_owes_54 hl (by decide) rfl (fun ls hl => ?_)
  refine lv_aload_n hx hb dX11_owes_56 rfl (lv_at hl 3 rfl) ?_
  obtain ⟨a17, e18, h⟩ := ob_ h
  refine g_RX11_7 C T e18 dX11_owes_57 ?_
  refine lv_iload_n hx hb dX11_owes_60 rfl (lv_at hl 4 rfl) ?_
  obtain ⟨v19, e20, h⟩ := ob_ h
  refine th_iald C T e20 dX11_owes_61 ?_
  by_cases c21 : v19 = 2
  · replace h := ot_ c21 h
    refine th_tabIn (off := 30) (tgt := 92) C 2 c21 dX11_owes_62 (by decide) (by decide) (by decide) (by decide) ?_
    refine lv_iload hx hb dX11_owes_92 (lv_at hl 0 rfl) ?_
    refine lv_iconst (v := 2) hx hb dX11_owes_94 (by decide) ?_
    refine lv_idiv hx hb dX11_owes_95 (by decide) ?_
    obtain ⟨rfl, rfl⟩ := os2 h
    exact th_iret hQ C hr hk T (Nat.le_of_ble_eq_true rfl) (Nat.le_of_ble_eq_true rfl) dX11_owes_96
  replace h := of_ c21 h
  by_cases c22 : v19 = 3
  · replace h := ot_ c22 h
    refine th_tabIn (off := 35) (tgt := 97) C 3 c22 dX11_owes_62 (by decide) (by decide) (by decide) (by decide) ?_
    refine lv_iconst (v := 0) hx hb dX11_owes_97 (by decide) ?_
    obtain ⟨rfl, rfl⟩ := os2 h
    exact th_iret hQ C hr hk T (Nat.le_of_ble_eq_true rfl) (Nat.le_of_ble_eq_true rfl) dX11_owes_98
  replace h := of_ c22 h
  by_cases c23 : v19 = 4
  · replace h := ot_ c23 h
    refine th_tabIn (off := 37) (tgt := 99) C 4 c23 dX11_owes_62 (by decide) (by decide) (by decide) (by decide) ?_
    refine lv_iload hx hb dX11_owes_99 (lv_at hl 0 rfl) ?_
    refine lv_iconst (v := 2) hx hb dX11_owes_101 (by decide) ?_
    refine lv_idiv hx hb dX11_owes_102 (by decide) ?_
    refine lv_iconst (v := 2) hx hb dX11_owes_103 (by decide) ?_
    refine lv_iadd hx hb dX11_owes_104 ?_
    obtain ⟨rfl, rfl⟩ := os2 h
    exact th_iret hQ C hr hk T (Nat.le_of_ble_eq_true rfl) (Nat.le_of_ble_eq_true rfl) dX11_owes_105
  replace h := of_ c23 h
  by_cases c24 : v19 = 5
  · replace h := ot_ c24 h
    refine th_tabIn (off := 44) (tgt := 106) C 5 c24 dX11_owes_62 (by decide) (by decide) (by decide) (by decide) ?_
    refine lv_iload hx hb dX11_owes_106 (lv_at hl 0 rfl) ?_
    refine lv_if_le (tgt := 123) hx hb dX11_owes_108 (by decide) (fun c25 => ?_) (fun c25 => ?_)
    · replace h := ot_ c25 h
      refine lv_iconst (v := 0) hx hb dX11_owes_123 (by decide) ?_
      obtain ⟨rfl, rfl⟩ := os2 h
      exact th_iret hQ C hr hk T (Nat.le_of_ble_eq_true rfl) (Nat.le_of_ble_eq_true rfl) dX11_owes_124
    · replace h := of_ c25 h
      refine lv_iload hx hb dX11_owes_111 (lv_at hl 0 rfl) ?_
      refine lv_aload_n hx hb dX11_owes_113 rfl (lv_at hl 3 rfl) ?_
      obtain ⟨a26, e27, h⟩ := ob_ h
      refine g_RX11_13 C T e27 dX11_owes_114 ?_
      refine lv_iload_n hx hb dX11_owes_117 rfl (lv_at hl 4 rfl) ?_
      obtain ⟨v28, e29, h⟩ := ob_ h
      refine th_iald C T e29 dX11_owes_118 ?_
      refine lv_iadd hx hb dX11_owes_119 ?_
      refine lv_goto (tgt := 124) hx hb dX11_owes_120 (by decide) ?_
      obtain ⟨rfl, rfl⟩ := os2 h
      exact th_iret hQ C hr hk T (Nat.le_of_ble_eq_true rfl) (Nat.le_of_ble_eq_true rfl) dX11_owes_124
  replace h := of_ c24 h
  have n30 := th_ne (n := 2) c21 (by decide)
  have n31 := th_ne (n := 3) c22 (by decide)
  have n32 := th_ne (n := 4) c23 (by decide)
  have n33 := th_ne (n := 5) c24 (by decide)
  refine lv_tableOut (tgt := 125) hx hb dX11_owes_62 (by omega) (by decide) ?_
  refine lv_iload hx hb dX11_owes_125 (lv_at hl 0 rfl) ?_
  obtain ⟨rfl, rfl⟩ := os2 h
  exact th_iret hQ C hr hk T (Nat.le_of_ble_eq_true rfl) (Nat.le_of_ble_eq_true rfl) dX11_owes_127
set_option maxRecDepth 100000 in
set_option maxHeartbeats 4000000 in
theorem c_X11_would {l : Launch} {G : th_G} {σ : th_S} {μ : th_M} {t : Nat} {x1 : Int32} {x2 : Int32} {x3 : Int32} {r : Int32} {μ' : th_M} (h : f_X11_would σ μ t x1 x2 x3 = some (r, μ')) : th_Met l G yX11_would cX11_would 4 (some FieldType.boolean) { frames := 3, cells := 0, slots := 0, locals := 132 } [.ref t, .int x1, .int x2, .int x3] σ μ (some (.int r)) σ μ' := by
  refine th_ofW (by decide +kernel) (Nat.le_of_ble_eq_true rfl) ?_
  intro p e s m args below meth c ls Q hQ C hr hk hnm T hl
  have hx := C.1
  have hb := C.2.1
  have C : CallFix p m c cX11_would 4 s args th_ws RX11 := C
  have hl : lv_has ls 4 [(0, .ref t), (1, .int x1), (2, .int x2), (3, .int x3)] := hl
  unfold f_X11_would at h
  refine lv_iload_n hx hb dX11_would_0 rfl (lv_at hl 2 rfl) ?_
  refine lv_iconst (v := 0) hx hb dX11_would_1 (by decide) ?_
  obtain ⟨v1, e2, h⟩ := ob_ h
  refine th_callS (As := [.int x2, .int 0]) (rest := []) C T (c_X11_far e2) k_RX11_126 rfl hl.1 rfl (st1 := [.int v1]) rfl (cells1 := 0) rfl (slots1 := 0) rfl (Nat.le_of_ble_eq_true rfl) ⟨Nat.le_of_ble_eq_true rfl, Nat.le_of_ble_eq_true rfl⟩ ⟨Nat.le_of_ble_eq_true rfl, Nat.le_of_ble_eq_true rfl⟩ dX11_would_2 (fun H locs T => ?_)
  refine lv_aload_n hx hb dX11_would_5 rfl (lv_at hl 0 rfl) ?_
  refine lv_iload_n hx hb dX11_would_6 rfl (lv_at hl 1 rfl) ?_
  obtain ⟨k3, h⟩ := oc_ h
  obtain ⟨v4, e5, h⟩ := ob_ h
  refine th_callV (As := [.int x1]) (rest := [.int v1]) C T (c_X11_hearing e5) k_RX11_139 11 rfl rfl (by decide) k3 rfl hl.1 rfl (st1 := [.int v4, .int v1]) rfl (cells1 := 0) rfl (slots1 := 0) rfl (Nat.le_of_ble_eq_true rfl) ⟨Nat.le_of_ble_eq_true rfl, Nat.le_of_ble_eq_true rfl⟩ ⟨Nat.le_of_ble_eq_true rfl, Nat.le_of_ble_eq_true rfl⟩ dX11_would_7 (fun H locs T => ?_)
  refine lv_icmp_gt (tgt := 39) hx hb dX11_would_10 (by decide) (fun c6 => ?_) (fun c6 => ?_)
  · replace h := ot_ c6 h
    refine lv_iconst (v := 0) hx hb dX11_would_39 (by decide) ?_
    obtain ⟨rfl, rfl⟩ := os2 h
    exact th_zret hQ C hr hk T (Nat.le_of_ble_eq_true rfl) (Nat.le_of_ble_eq_true rfl) dX11_would_40 rfl
  · replace h := of_ c6 h
    refine lv_aload_n hx hb dX11_would_13 rfl (lv_at hl 0 rfl) ?_
    refine lv_iconst (v := 1) hx hb dX11_would_14 (by decide) ?_
    refine lv_iload_n hx hb dX11_would_15 rfl (lv_at hl 1 rfl) ?_
    refine lv_iload_n hx hb dX11_would_16 rfl (lv_at hl 2 rfl) ?_
    refine lv_iload_n hx hb dX11_would_17 rfl (lv_at hl 3 rfl) ?_
    obtain ⟨v7, μ8, e9, h⟩ := ob2 h
    refine th_callV (As := [.int 1, .int x1, .int x2, .int x3]) (rest := []) C T (c_X11_rules e9) k_RX11_132 11 rfl rfl (by decide) k3 rfl hl.1 rfl (st1 := [.int v7]) rfl (cells1 := 0) rfl (slots1 := 0) rfl (Nat.le_of_ble_eq_true rfl) ⟨Nat.le_of_ble_eq_true rfl, Nat.le_of_ble_eq_true rfl⟩ ⟨Nat.le_of_ble_eq_true rfl, Nat.le_of_ble_eq_true rfl⟩ dX11_would_18 (fun H locs T => ?_)
    refine lv_if_eq (tgt := 39) hx hb dX11_would_21 (by decide) (fun c10 => ?_) (fun c10 => ?_)
    · replace h := ot_ c10 h
      refine lv_iconst (v := 0) hx hb dX11_would_39 (by decide) ?_
      obtain ⟨rfl, rfl⟩ := os2 h
      exact th_zret hQ C hr hk T (Nat.le_of_ble_eq_true rfl) (Nat.le_of_ble_eq_true rfl) dX11_would_40 rfl
    · replace h := of_ c10 h
      refine lv_aload_n hx hb dX11_would_24 rfl (lv_at hl 0 rfl) ?_
      refine lv_iconst (v := 2) hx hb dX11_would_25 (by decide) ?_
      refine lv_iload_n hx hb dX11_would_26 rfl (lv_at hl 1 rfl) ?_
      refine lv_iload_n hx hb dX11_would_27 rfl (lv_at hl 2 rfl) ?_
      refine lv_iload_n hx hb dX11_would_28 rfl (lv_at hl 3 rfl) ?_
      obtain ⟨v11, μ12, e13, h⟩ := ob2 h
      refine th_callV (As := [.int 2, .int x1, .int x2, .int x3]) (rest := []) C T (c_X11_rules e13) k_RX11_132 11 rfl rfl (by decide) k3 rfl hl.1 rfl (st1 := [.int v11]) rfl (cells1 := 0) rfl (slots1 := 0) rfl (Nat.le_of_ble_eq_true rfl) ⟨Nat.le_of_ble_eq_true rfl, Nat.le_of_ble_eq_true rfl⟩ ⟨Nat.le_of_ble_eq_true rfl, Nat.le_of_ble_eq_true rfl⟩ dX11_would_29 (fun H locs T => ?_)
      refine lv_if_eq (tgt := 39) hx hb dX11_would_32 (by decide) (fun c14 => ?_) (fun c14 => ?_)
      · replace h := ot_ c14 h
        refine lv_iconst (v := 0) hx hb dX11_would_39 (by decide) ?_
        obtain ⟨rfl, rfl⟩ := os2 h
        exact th_zret hQ C hr hk T (Nat.le_of_ble_eq_true rfl) (Nat.le_of_ble_eq_true rfl) dX11_would_40 rfl
      · replace h := of_ c14 h
        refine lv_iconst (v := 1) hx hb dX11_would_35 (by decide) ?_
        refine lv_goto (tgt := 40) hx hb dX11_would_36 (by decide) ?_
        obtain ⟨rfl, rfl⟩ := os2 h
        exact th_zret hQ C hr hk T (Nat.le_of_ble_eq_true rfl) (Nat.le_of_ble_eq_true rfl) dX11_would_40 rfl
set_option maxRecDepth 100000 in
set_option maxHeartbeats 4000000 in
theorem c_X11_would_ {l : Launch} {G : th_G} {σ : th_S} {μ : th_M} {t : Nat} {x1 : Int32} {r : Int32} {μ' : th_M} (h : f_X11_would_ σ μ t x1 = some (r, μ')) : th_Met l G yX11_would_ cX11_would_ 2 (some FieldType.boolean) { frames := 4, cells := 0, slots := 0, locals := 155 } [.ref t, .int x1] σ μ (some (.int r)) σ μ' := by
  refine th_ofW (by decide +kernel) (Nat.le_of_ble_eq_true rfl) ?_
  intro p e s m args below meth c ls Q hQ C hr hk hnm T hl
  have hx := C.1
  have hb := C.2.1
  have C : CallFix p m c cX11_would_ 2 s args th_ws RX11 := C
  have hl : lv_has ls 2 [(0, .ref t), (1, .int x1)] := hl
  unfold f_X11_would_ at h
  refine lv_aload_n hx hb dX11_would__0 rfl (lv_at hl 0 rfl) ?_
  refine lv_iload_n hx hb dX11_would__1 rfl (lv_at hl 1 rfl) ?_
  refine lv_aload_n hx hb dX11_would__2 rfl (lv_at hl 0 rfl) ?_
  obtain ⟨a1, e2, h⟩ := ob_ h
  refine g_RX11_16 C T e2 dX11_would__3 ?_
  refine lv_iload_n hx hb dX11_would__6 rfl (lv_at hl 1 rfl) ?_
  obtain ⟨v3, e4, h⟩ := ob_ h
  refine th_iald C T e4 dX11_would__7 ?_
  refine lv_aload_n hx hb dX11_would__8 rfl (lv_at hl 0 rfl) ?_
  obtain ⟨v5, e6, h⟩ := ob_ h
  refine g_RX11_142 C T e6 dX11_would__9 ?_
  obtain ⟨k7, h⟩ := oc_ h
  obtain ⟨v8, μ9, e10, h⟩ := ob2 h
  refine th_callV (As := [.int x1, .int v3, .int v5]) (rest := []) C T (c_X11_would e10) k_RX11_145 11 rfl rfl (by decide) k7 rfl hl.1 rfl (st1 := [.int v8]) rfl (cells1 := 0) rfl (slots1 := 0) rfl (Nat.le_of_ble_eq_true rfl) ⟨Nat.le_of_ble_eq_true rfl, Nat.le_of_ble_eq_true rfl⟩ ⟨Nat.le_of_ble_eq_true rfl, Nat.le_of_ble_eq_true rfl⟩ dX11_would__12 (fun H locs T => ?_)
  obtain ⟨g11, h⟩ := ogg h
  obtain ⟨rfl, rfl⟩ := os2 h
  exact th_zret hQ C hr hk T (Nat.le_of_ble_eq_true rfl) (Nat.le_of_ble_eq_true rfl) dX11_would__15 (by show Value.int _ = _; rw [g11])
set_option maxRecDepth 100000 in
set_option maxHeartbeats 4000000 in
theorem c_X11_needs {l : Launch} {G : th_G} {σ : th_S} {μ : th_M} {t : Nat} {x1 : Int32} {r : Int32} (h : f_X11_needs σ μ t x1 = some r) : th_Met l G yX11_needs cX11_needs 2 (some FieldType.int) { frames := 2, cells := 0, slots := 0, locals := 101 } [.ref t, .int x1] σ μ (some (.int r)) σ μ := by
  refine th_ofW (by decide +kernel) (Nat.le_of_ble_eq_true rfl) ?_
  intro p e s m args below meth c ls Q hQ C hr hk hnm T hl
  have hx := C.1
  have hb := C.2.1
  have C : CallFix p m c cX11_needs 2 s args th_ws RX11 := C
  have hl : lv_has ls 2 [(0, .ref t), (1, .int x1)] := hl
  unfold f_X11_needs at h
  refine lv_aload_n hx hb dX11_needs_0 rfl (lv_at hl 0 rfl) ?_
  obtain ⟨a1, e2, h⟩ := ob_ h
  refine g_RX11_16 C T e2 dX11_needs_1 ?_
  refine lv_iload_n hx hb dX11_needs_4 rfl (lv_at hl 1 rfl) ?_
  obtain ⟨v3, e4, h⟩ := ob_ h
  refine th_iald C T e4 dX11_needs_5 ?_
  refine lv_iconst (v := 0) hx hb dX11_needs_6 (by decide) ?_
  obtain ⟨v5, e6, h⟩ := ob_ h
  refine th_callS (As := [.int v3, .int 0]) (rest := []) C T (c_X11_far e6) k_RX11_126 rfl hl.1 rfl (st1 := [.int v5]) rfl (cells1 := 0) rfl (slots1 := 0) rfl (Nat.le_of_ble_eq_true rfl) ⟨Nat.le_of_ble_eq_true rfl, Nat.le_of_ble_eq_true rfl⟩ ⟨Nat.le_of_ble_eq_true rfl, Nat.le_of_ble_eq_true rfl⟩ dX11_needs_7 (fun H locs T => ?_)
  refine lv_aload_n hx hb dX11_needs_10 rfl (lv_at hl 0 rfl) ?_
  refine lv_iload_n hx hb dX11_needs_11 rfl (lv_at hl 1 rfl) ?_
  obtain ⟨k7, h⟩ := oc_ h
  obtain ⟨v8, e9, h⟩ := ob_ h
  refine th_callV (As := [.int x1]) (rest := [.int v5]) C T (c_X11_rows e9) k_RX11_148 11 rfl rfl (by decide) k7 rfl hl.1 rfl (st1 := [.int v8, .int v5]) rfl (cells1 := 0) rfl (slots1 := 0) rfl (Nat.le_of_ble_eq_true rfl) ⟨Nat.le_of_ble_eq_true rfl, Nat.le_of_ble_eq_true rfl⟩ ⟨Nat.le_of_ble_eq_true rfl, Nat.le_of_ble_eq_true rfl⟩ dX11_needs_12 (fun H locs T => ?_)
  refine lv_imul hx hb dX11_needs_15 ?_
  obtain rfl := os1 h
  exact th_iret hQ C hr hk T (Nat.le_of_ble_eq_true rfl) (Nat.le_of_ble_eq_true rfl) dX11_needs_16
set_option maxRecDepth 100000 in
set_option maxHeartbeats 4000000 in
theorem c_X11_told {l : Launch} {G : th_G} {σ : th_S} {μ : th_M} {t : Nat} {x1 : Int32} {x2 : Int32} {r : Int32} {μ' : th_M} (h : f_X11_told σ μ t x1 x2 = some (r, μ')) : th_Met l G yX11_told cX11_told 3 (some FieldType.int) { frames := 5, cells := 0, slots := 0, locals := 176 } [.ref t, .int x1, .int x2] σ μ (some (.int r)) σ μ' := by
  refine th_ofW (by decide +kernel) (Nat.le_of_ble_eq_true rfl) ?_
  intro p e s m args below meth c ls Q hQ C hr hk hnm T hl
  have hx := C.1
  have hb := C.2.1
  have C : CallFix p m c cX11_told 3 s args th_ws RX11 := C
  have hl : lv_has ls 3 [(0, .ref t), (1, .int x1), (2, .int x2)] := hl
  unfold f_X11_told at h
  refine lv_aload_n hx hb dX11_told_0 rfl (lv_at hl 0 rfl) ?_
  refine lv_iload_n hx hb dX11_told_1 rfl (lv_at hl 1 rfl) ?_
  obtain ⟨k1, h⟩ := oc_ h
  obtain ⟨v2, e3, h⟩ := ob_ h
  refine th_callV (As := [.int x1]) (rest := []) C T (c_X11_isBoat e3) k_RX11_112 11 rfl rfl (by decide) k1 rfl hl.1 rfl (st1 := [.int v2]) rfl (cells1 := 0) rfl (slots1 := 0) rfl (Nat.le_of_ble_eq_true rfl) ⟨Nat.le_of_ble_eq_true rfl, Nat.le_of_ble_eq_true rfl⟩ ⟨Nat.le_of_ble_eq_true rfl, Nat.le_of_ble_eq_true rfl⟩ dX11_told_2 (fun H locs T => ?_)
  refine lv_if_eq (tgt := 18) hx hb dX11_told_5 (by decide) (fun c4 => ?_) (fun c4 => ?_)
  · replace h := ot_ c4 h
    refine lv_bipush (v := -2) hx hb dX11_told_18 (by decide) ?_
    obtain ⟨rfl, rfl⟩ := os2 h
    exact th_iret hQ C hr hk T (Nat.le_of_ble_eq_true rfl) (Nat.le_of_ble_eq_true rfl) dX11_told_20
  · replace h := of_ c4 h
    refine lv_iload_n hx hb dX11_told_8 rfl (lv_at hl 2 rfl) ?_
    refine lv_iconst (v := 0) hx hb dX11_told_9 (by decide) ?_
    refine lv_bipush (v := 10) hx hb dX11_told_10 (by decide) ?_
    obtain ⟨v5, e6, h⟩ := ob_ h
    refine th_callS (As := [.int x2, .int 0, .int 10]) (rest := []) C T (c_X11_within e6) k_RX11_102 rfl hl.1 rfl (st1 := [.int v5]) rfl (cells1 := 0) rfl (slots1 := 0) rfl (Nat.le_of_ble_eq_true rfl) ⟨Nat.le_of_ble_eq_true rfl, Nat.le_of_ble_eq_true rfl⟩ ⟨Nat.le_of_ble_eq_true rfl, Nat.le_of_ble_eq_true rfl⟩ dX11_told_12 (fun H locs T => ?_)
    refine lv_if_ne (tgt := 21) hx hb dX11_told_15 (by decide) (fun c7 => ?_) (fun c7 => ?_)
    · replace h := of_ c7 h
      refine lv_iload_n hx hb dX11_told_21 rfl (lv_at hl 2 rfl) ?_
      by_cases c8 : x2 = 0
      · replace h := ot_ c8 h
        refine th_tabIn (off := 54) (tgt := 76) C 0 c8 dX11_told_22 (by decide) (by decide) (by decide) (by decide) ?_
        refine lv_aload_n hx hb dX11_told_76 rfl (lv_at hl 0 rfl) ?_
        obtain ⟨a9, e10, h⟩ := ob_ h
        refine g_RX11_16 C T e10 dX11_told_77 ?_
        refine lv_iload_n hx hb dX11_told_80 rfl (lv_at hl 1 rfl) ?_
        obtain ⟨v11, e12, h⟩ := ob_ h
        refine th_iald C T e12 dX11_told_81 ?_
        obtain ⟨rfl, rfl⟩ := os2 h
        exact th_iret hQ C hr hk T (Nat.le_of_ble_eq_true rfl) (Nat.le_of_ble_eq_true rfl) dX11_told_82
      replace h := of_ c8 h
      by_cases c13 : x2 = 1
      · replace h := ot_ c13 h
        refine th_tabIn (off := 61) (tgt := 83) C 1 c13 dX11_told_22 (by decide) (by decide) (by decide) (by decide) ?_
        refine lv_aload_n hx hb dX11_told_83 rfl (lv_at hl 0 rfl) ?_
        obtain ⟨a14, e15, h⟩ := ob_ h
        refine g_RX11_19 C T e15 dX11_told_84 ?_
        refine lv_iload_n hx hb dX11_told_87 rfl (lv_at hl 1 rfl) ?_
        obtain ⟨v16, e17, h⟩ := ob_ h
        refine th_iald C T e17 dX11_told_88 ?_
        obtain ⟨rfl, rfl⟩ := os2 h
        exact th_iret hQ C hr hk T (Nat.le_of_ble_eq_true rfl) (Nat.le_of_ble_eq_true rfl) dX11_told_89
      replace h := of_ c13 h
      by_cases c18 : x2 = 2
      · replace h := ot_ c18 h
        refine th_tabIn (off := 68) (tgt := 90) C 2 c18 dX11_told_22 (by decide) (by decide) (by decide) (by decide) ?_
        refine lv_aload_n hx hb dX11_told_90 rfl (lv_at hl 0 rfl) ?_
        obtain ⟨a19, e20, h⟩ := ob_ h
        refine g_RX11_22 C T e20 dX11_told_91 ?_
        refine lv_iload_n hx hb dX11_told_94 rfl (lv_at hl 1 rfl) ?_
        obtain ⟨v21, e22, h⟩ := ob_ h
        refine th_iald C T e22 dX11_told_95 ?_
        obtain ⟨rfl, rfl⟩ := os2 h
        exact th_iret hQ C hr hk T (Nat.le_of_ble_eq_true rfl) (Nat.le_of_ble_eq_true rfl) dX11_told_96
      replace h := of_ c18 h
      by_cases c23 : x2 = 3
      · replace h := ot_ c23 h
        refine th_tabIn (off := 75) (tgt := 97) C 3 c23 dX11_told_22 (by decide) (by decide) (by decide) (by decide) ?_
        refine lv_aload_n hx hb dX11_told_97 rfl (lv_at hl 0 rfl) ?_
        obtain ⟨a24, e25, h⟩ := ob_ h
        refine g_RX11_13 C T e25 dX11_told_98 ?_
        refine lv_iload_n hx hb dX11_told_101 rfl (lv_at hl 1 rfl) ?_
        obtain ⟨v26, e27, h⟩ := ob_ h
        refine th_iald C T e27 dX11_told_102 ?_
        obtain ⟨rfl, rfl⟩ := os2 h
        exact th_iret hQ C hr hk T (Nat.le_of_ble_eq_true rfl) (Nat.le_of_ble_eq_true rfl) dX11_told_103
      replace h := of_ c23 h
      by_cases c28 : x2 = 4
      · replace h := ot_ c28 h
        refine th_tabIn (off := 82) (tgt := 104) C 4 c28 dX11_told_22 (by decide) (by decide) (by decide) (by decide) ?_
        refine lv_aload_n hx hb dX11_told_104 rfl (lv_at hl 0 rfl) ?_
        obtain ⟨a29, e30, h⟩ := ob_ h
        refine g_RX11_7 C T e30 dX11_told_105 ?_
        refine lv_iload_n hx hb dX11_told_108 rfl (lv_at hl 1 rfl) ?_
        obtain ⟨v31, e32, h⟩ := ob_ h
        refine th_iald C T e32 dX11_told_109 ?_
        obtain ⟨rfl, rfl⟩ := os2 h
        exact th_iret hQ C hr hk T (Nat.le_of_ble_eq_true rfl) (Nat.le_of_ble_eq_true rfl) dX11_told_110
      replace h := of_ c28 h
      by_cases c33 : x2 = 5
      · replace h := ot_ c33 h
        refine th_tabIn (off := 89) (tgt := 111) C 5 c33 dX11_told_22 (by decide) (by decide) (by decide) (by decide) ?_
        refine lv_aload_n hx hb dX11_told_111 rfl (lv_at hl 0 rfl) ?_
        obtain ⟨a34, e35, h⟩ := ob_ h
        refine g_RX11_25 C T e35 dX11_told_112 ?_
        refine lv_iload_n hx hb dX11_told_115 rfl (lv_at hl 1 rfl) ?_
        obtain ⟨v36, e37, h⟩ := ob_ h
        refine th_iald C T e37 dX11_told_116 ?_
        obtain ⟨rfl, rfl⟩ := os2 h
        exact th_iret hQ C hr hk T (Nat.le_of_ble_eq_true rfl) (Nat.le_of_ble_eq_true rfl) dX11_told_117
      replace h := of_ c33 h
      by_cases c38 : x2 = 6
      · replace h := ot_ c38 h
        refine th_tabIn (off := 96) (tgt := 118) C 6 c38 dX11_told_22 (by decide) (by decide) (by decide) (by decide) ?_
        refine lv_aload_n hx hb dX11_told_118 rfl (lv_at hl 0 rfl) ?_
        obtain ⟨a39, e40, h⟩ := ob_ h
        refine g_RX11_28 C T e40 dX11_told_119 ?_
        refine lv_iload_n hx hb dX11_told_122 rfl (lv_at hl 1 rfl) ?_
        obtain ⟨v41, e42, h⟩ := ob_ h
        refine th_iald C T e42 dX11_told_123 ?_
        obtain ⟨rfl, rfl⟩ := os2 h
        exact th_iret hQ C hr hk T (Nat.le_of_ble_eq_true rfl) (Nat.le_of_ble_eq_true rfl) dX11_told_124
      replace h := of_ c38 h
      by_cases c43 : x2 = 7
      · replace h := ot_ c43 h
        refine th_tabIn (off := 103) (tgt := 125) C 7 c43 dX11_told_22 (by decide) (by decide) (by decide) (by decide) ?_
        refine lv_aload_n hx hb dX11_told_125 rfl (lv_at hl 0 rfl) ?_
        refine lv_iload_n hx hb dX11_told_126 rfl (lv_at hl 1 rfl) ?_
        obtain ⟨v44, e45, h⟩ := ob_ h
        refine th_callV (As := [.int x1]) (rest := []) C T (c_X11_rows e45) k_RX11_148 11 rfl rfl (by decide) k1 rfl hl.1 rfl (st1 := [.int v44]) rfl (cells1 := 0) rfl (slots1 := 0) rfl (Nat.le_of_ble_eq_true rfl) ⟨Nat.le_of_ble_eq_true rfl, Nat.le_of_ble_eq_true rfl⟩ ⟨Nat.le_of_ble_eq_true rfl, Nat.le_of_ble_eq_true rfl⟩ dX11_told_127 (fun H locs T => ?_)
        obtain ⟨rfl, rfl⟩ := os2 h
        exact th_iret hQ C hr hk T (Nat.le_of_ble_eq_true rfl) (Nat.le_of_ble_eq_true rfl) dX11_told_130
      replace h := of_ c43 h
      by_cases c46 : x2 = 8
      · replace h := ot_ c46 h
        refine th_tabIn (off := 109) (tgt := 131) C 8 c46 dX11_told_22 (by decide) (by decide) (by decide) (by decide) ?_
        refine lv_aload_n hx hb dX11_told_131 rfl (lv_at hl 0 rfl) ?_
        refine lv_iload_n hx hb dX11_told_132 rfl (lv_at hl 1 rfl) ?_
        obtain ⟨v47, e48, h⟩ := ob_ h
        refine th_callV (As := [.int x1]) (rest := []) C T (c_X11_hearing e48) k_RX11_139 11 rfl rfl (by decide) k1 rfl hl.1 rfl (st1 := [.int v47]) rfl (cells1 := 0) rfl (slots1 := 0) rfl (Nat.le_of_ble_eq_true rfl) ⟨Nat.le_of_ble_eq_true rfl, Nat.le_of_ble_eq_true rfl⟩ ⟨Nat.le_of_ble_eq_true rfl, Nat.le_of_ble_eq_true rfl⟩ dX11_told_133 (fun H locs T => ?_)
        obtain ⟨rfl, rfl⟩ := os2 h
        exact th_iret hQ C hr hk T (Nat.le_of_ble_eq_true rfl) (Nat.le_of_ble_eq_true rfl) dX11_told_136
      replace h := of_ c46 h
      by_cases c49 : x2 = 9
      · replace h := ot_ c49 h
        refine th_tabIn (off := 115) (tgt := 137) C 9 c49 dX11_told_22 (by decide) (by decide) (by decide) (by decide) ?_
        refine lv_aload_n hx hb dX11_told_137 rfl (lv_at hl 0 rfl) ?_
        refine lv_iload_n hx hb dX11_told_138 rfl (lv_at hl 1 rfl) ?_
        obtain ⟨v50, μ51, e52, h⟩ := ob2 h
        refine th_callV (As := [.int x1]) (rest := []) C T (c_X11_would_ e52) k_RX11_151 11 rfl rfl (by decide) k1 rfl hl.1 rfl (st1 := [.int v50]) rfl (cells1 := 0) rfl (slots1 := 0) rfl (Nat.le_of_ble_eq_true rfl) ⟨Nat.le_of_ble_eq_true rfl, Nat.le_of_ble_eq_true rfl⟩ ⟨Nat.le_of_ble_eq_true rfl, Nat.le_of_ble_eq_true rfl⟩ dX11_told_139 (fun H locs T => ?_)
        refine lv_if_eq (tgt := 149) hx hb dX11_told_142 (by decide) (fun c53 => ?_) (fun c53 => ?_)
        · replace h := ot_ c53 h
          refine lv_iconst (v := 0) hx hb dX11_told_149 (by decide) ?_
          obtain ⟨rfl, rfl⟩ := os2 h
          exact th_iret hQ C hr hk T (Nat.le_of_ble_eq_true rfl) (Nat.le_of_ble_eq_true rfl) dX11_told_150
        · replace h := of_ c53 h
          refine lv_iconst (v := 1) hx hb dX11_told_145 (by decide) ?_
          refine lv_goto (tgt := 150) hx hb dX11_told_146 (by decide) ?_
          obtain ⟨rfl, rfl⟩ := os2 h
          exact th_iret hQ C hr hk T (Nat.le_of_ble_eq_true rfl) (Nat.le_of_ble_eq_true rfl) dX11_told_150
      replace h := of_ c49 h
      have n54 := th_ne (n := 0) c8 (by decide)
      have n55 := th_ne (n := 1) c13 (by decide)
      have n56 := th_ne (n := 2) c18 (by decide)
      have n57 := th_ne (n := 3) c23 (by decide)
      have n58 := th_ne (n := 4) c28 (by decide)
      have n59 := th_ne (n := 5) c33 (by decide)
      have n60 := th_ne (n := 6) c38 (by decide)
      have n61 := th_ne (n := 7) c43 (by decide)
      have n62 := th_ne (n := 8) c46 (by decide)
      have n63 := th_ne (n := 9) c49 (by decide)
      refine lv_tableOut (tgt := 151) hx hb dX11_told_22 (by omega) (by decide) ?_
      refine lv_aload_n hx hb dX11_told_151 rfl (lv_at hl 0 rfl) ?_
      refine lv_iload_n hx hb dX11_told_152 rfl (lv_at hl 1 rfl) ?_
      refine lv_aload_n hx hb dX11_told_153 rfl (lv_at hl 0 rfl) ?_
      obtain ⟨v64, e65, h⟩ := ob_ h
      refine g_RX11_142 C T e65 dX11_told_154 ?_
      obtain ⟨v66, μ67, e68, h⟩ := ob2 h
      refine th_callV (As := [.int x1, .int v64]) (rest := []) C T (c_X11_owes e68) k_RX11_153 11 rfl rfl (by decide) k1 rfl hl.1 rfl (st1 := [.int v66]) rfl (cells1 := 0) rfl (slots1 := 0) rfl (Nat.le_of_ble_eq_true rfl) ⟨Nat.le_of_ble_eq_true rfl, Nat.le_of_ble_eq_true rfl⟩ ⟨Nat.le_of_ble_eq_true rfl, Nat.le_of_ble_eq_true rfl⟩ dX11_told_157 (fun H locs T => ?_)
      obtain ⟨rfl, rfl⟩ := os2 h
      exact th_iret hQ C hr hk T (Nat.le_of_ble_eq_true rfl) (Nat.le_of_ble_eq_true rfl) dX11_told_160
    · replace h := ot_ c7 h
      refine lv_bipush (v := -2) hx hb dX11_told_18 (by decide) ?_
      obtain ⟨rfl, rfl⟩ := os2 h
      exact th_iret hQ C hr hk T (Nat.le_of_ble_eq_true rfl) (Nat.le_of_ble_eq_true rfl) dX11_told_20
