set_option maxRecDepth 100000 in
set_option maxHeartbeats 4000000 in
theorem c_X11_boats {l : Launch} {G : th_G} {σ : th_S} {μ : th_M} {t : Nat} {x1 : Int32} {x2 : Int32} {x3 : Int32} {x4 : Int32} {r : Int32} {μ' : th_M} (h : f_X11_boats σ μ t x1 x2 x3 x4 = some (r, μ')) : th_Met l G yX11_boats cX11_boats 10 (some FieldType.int) { frames := 2, cells := 0, slots := 0, locals := 45 } [.ref t, .int x1, .int x2, .int x3, .int x4] σ μ (some (.int r)) σ μ' := by
  refine th_ofW (by decide +kernel) (Nat.le_of_ble_eq_true rfl) ?_
  intro p e s m args below meth c ls Q hQ C hr hk hnm T hl
  have hx := C.1
  have hb := C.2.1
  have C : CallFix p m c cX11_boats 10 s args th_ws RX11 := C
  have hl : lv_has ls 10 [(0, .ref t), (1, .int x1), (2, .int x2), (3, .int x3), (4, .int x4)] := hl
  have J64 : ∀ (n : Nat) (μ : th_M) (t : Nat) (x1 : Int32) (x3 : Int32) (x4 : Int32) (x5 : Int32) (x6 : Int32) (H : Heap) (locs : List Loc) (ls : Array Slot), th_R G s H locs σ μ → lv_has ls 10 [(0, .ref t), (1, .int x1), (3, .int x3), (4, .int x4), (5, .int x5), (6, .int x6)] → f_X11_boats_b64  n σ μ t x1 x3 x4 x5 x6 = some (r, μ') → W p l e { frames := 2, cells := 0, slots := 0, locals := 45 } s m args below meth c H locs 0 0 Q (F0 m 64 ls []) := by
    intro n
    induction n with
    | zero => intro μ t x1 x3 x4 x5 x6 H locs ls T hl h; unfold f_X11_boats_b64 at h; cases h
    | succ n64 ih64 =>
      intro μ t x1 x3 x4 x5 x6 H locs ls T hl h
      unfold f_X11_boats_b64 at h
      refine lv_iload hx hb dX11_boats_64 (lv_at hl 5 rfl) ?_
      refine lv_iload hx hb dX11_boats_66 (lv_at hl 3 rfl) ?_
      refine lv_icmp_ge (tgt := 161) hx hb dX11_boats_68 (by decide) (fun c1 => ?_) (fun c1 => ?_)
      · replace h := ot_ c1 h
        refine lv_iload hx hb dX11_boats_161 (lv_at hl 4 rfl) ?_
        obtain ⟨rfl, rfl⟩ := os2 h
        exact th_iret hQ C hr hk T (Nat.le_of_ble_eq_true rfl) (Nat.le_of_ble_eq_true rfl) dX11_boats_163
      · replace h := of_ c1 h
        refine lv_iload_n hx hb dX11_boats_71 rfl (lv_at hl 2 rfl) ?_
        refine lv_i2l hx hb dX11_boats_72 rfl ?_
        refine lv_ldc2 hx hb C.2.2.2.1 (C.2.2.2.2 _ w_1225) dX11_boats_73 ?_
        refine lv_iload hx hb dX11_boats_76 (lv_at hl 5 rfl) ?_
        refine lv_i2l hx hb dX11_boats_78 rfl ?_
        refine lv_lmul hx hb dX11_boats_79 ?_
        refine lv_ladd hx hb dX11_boats_80 ?_
        refine lv_lstore (lv' := [(7, .long (x3.toInt64 + (3 * x6.toInt64))), (0, .ref t), (1, .int x1), (3, .int x3), (4, .int x4), (5, .int x5), (6, .int x6)]) hx hb dX11_boats_81 hl (by decide) rfl (fun ls hl => ?_)
        refine lv_lload hx hb dX11_boats_83 (lv_at hl 0 rfl) ?_
        refine lv_lconst (v := 0) hx hb dX11_boats_85 (by decide) ?_
        refine W.lcmp hx hb dX11_boats_86 ?_
        refine lv_if_lt (tgt := 107) hx hb dX11_boats_87 (by decide) (fun c2 => ?_) (fun c2 => ?_)
        · replace h := ot_ c2 h
          refine lv_bipush (v := -12) hx hb dX11_boats_107 (by decide) ?_
          obtain ⟨rfl, rfl⟩ := os2 h
          exact th_iret hQ C hr hk T (Nat.le_of_ble_eq_true rfl) (Nat.le_of_ble_eq_true rfl) dX11_boats_109
        · replace h := of_ c2 h
          refine lv_lload hx hb dX11_boats_90 (lv_at hl 0 rfl) ?_
          refine lv_ldc2 hx hb C.2.2.2.1 (C.2.2.2.2 _ w_1226) dX11_boats_92 ?_
          refine lv_ladd hx hb dX11_boats_95 ?_
          refine lv_aload_n hx hb dX11_boats_96 rfl (lv_at hl 1 rfl) ?_
          obtain ⟨a3, e4, h⟩ := ob_ h
          refine g_RX11_61 C T e4 dX11_boats_97 ?_
          refine lv_iload_n hx hb dX11_boats_100 rfl (lv_at hl 2 rfl) ?_
          obtain ⟨v5, e6, h⟩ := ob_ h
          refine th_iald C T e6 dX11_boats_101 ?_
          refine lv_i2l hx hb dX11_boats_102 rfl ?_
          refine W.lcmp hx hb dX11_boats_103 ?_
          refine lv_if_lt (tgt := 110) hx hb dX11_boats_104 (by decide) (fun c7 => ?_) (fun c7 => ?_)
          · replace h := ot_ c7 h
            refine lv_bipush (v := 40) hx hb dX11_boats_110 (by decide) ?_
            refine lv_iload_n hx hb dX11_boats_112 rfl (lv_at hl 2 rfl) ?_
            refine lv_imul hx hb dX11_boats_113 ?_
            refine lv_lload hx hb dX11_boats_114 (lv_at hl 0 rfl) ?_
            refine lv_l2i hx hb dX11_boats_116 rfl ?_
            refine lv_iadd hx hb dX11_boats_117 ?_
            refine lv_istore (lv' := [(9, .int ((40 * x1) + ((x3.toInt64 + (3 * x6.toInt64)).toInt32))), (7, .long (x3.toInt64 + (3 * x6.toInt64))), (0, .ref t), (1, .int x1), (3, .int x3), (4, .int x4), (5, .int x5), (6, .int x6)]) hx hb dX11_boats_118 hl (by decide) rfl (fun ls hl => ?_)
            refine lv_aload_n hx hb dX11_boats_120 rfl (lv_at hl 2 rfl) ?_
            refine lv_aload_n hx hb dX11_boats_121 rfl (lv_at hl 2 rfl) ?_
            obtain ⟨a8, e9, h⟩ := ob_ h
            refine g_RX11_64 C T e9 dX11_boats_122 ?_
            refine lv_iload hx hb dX11_boats_125 (lv_at hl 0 rfl) ?_
            obtain ⟨v10, e11, h⟩ := ob_ h
            refine th_iald C T e11 dX11_boats_127 ?_
            refine lv_aload_n hx hb dX11_boats_128 rfl (lv_at hl 2 rfl) ?_
            obtain ⟨a12, e13, h⟩ := ob_ h
            refine g_RX11_64 C T e13 dX11_boats_129 ?_
            refine lv_iload hx hb dX11_boats_132 (lv_at hl 0 rfl) ?_
            refine lv_iconst (v := 1) hx hb dX11_boats_134 (by decide) ?_
            refine lv_iadd hx hb dX11_boats_135 ?_
            obtain ⟨v14, e15, h⟩ := ob_ h
            refine th_iald C T e15 dX11_boats_136 ?_
            refine lv_aload_n hx hb dX11_boats_137 rfl (lv_at hl 2 rfl) ?_
            obtain ⟨a16, e17, h⟩ := ob_ h
            refine g_RX11_64 C T e17 dX11_boats_138 ?_
            refine lv_iload hx hb dX11_boats_141 (lv_at hl 0 rfl) ?_
            refine lv_iconst (v := 2) hx hb dX11_boats_143 (by decide) ?_
            refine lv_iadd hx hb dX11_boats_144 ?_
            obtain ⟨v18, e19, h⟩ := ob_ h
            refine th_iald C T e19 dX11_boats_145 ?_
            obtain ⟨k20, h⟩ := oc_ h
            obtain ⟨v21, μ22, e23, h⟩ := ob2 h
            refine th_callV (As := [.int v10, .int v14, .int v18]) (rest := []) C T (c_X11_boat e23) k_RX11_307 11 rfl rfl (by decide) k20 rfl hl.1 rfl (st1 := [.int v21]) rfl (cells1 := 0) rfl (slots1 := 0) rfl (Nat.le_of_ble_eq_true rfl) ⟨Nat.le_of_ble_eq_true rfl, Nat.le_of_ble_eq_true rfl⟩ ⟨Nat.le_of_ble_eq_true rfl, Nat.le_of_ble_eq_true rfl⟩ dX11_boats_146 (fun H locs T => ?_)
            refine lv_if_lt (tgt := 155) hx hb dX11_boats_149 (by decide) (fun c24 => ?_) (fun c24 => ?_)
            · replace h := ot_ c24 h
              refine lv_iinc (v := x6 + 1) (lv' := [(6, .int (x6 + 1)), (9, .int ((40 * x1) + ((x3.toInt64 + (3 * x6.toInt64)).toInt32))), (7, .long (x3.toInt64 + (3 * x6.toInt64))), (0, .ref t), (1, .int x1), (3, .int x3), (4, .int x4), (5, .int x5)]) hx hb dX11_boats_155 hl (k := 7) rfl rfl (by decide) rfl (fun ls hl => ?_)
              refine lv_goto (tgt := 64) hx hb dX11_boats_158 (by decide) ?_
              exact ih64 _ _ _ _ _ _ _ _ _ _ T (lv_sub hl [3, 4, 5, 6, 7, 0] rfl) h
            · replace h := of_ c24 h
              refine lv_iinc (v := x5 + 1) (lv' := [(5, .int (x5 + 1)), (9, .int ((40 * x1) + ((x3.toInt64 + (3 * x6.toInt64)).toInt32))), (7, .long (x3.toInt64 + (3 * x6.toInt64))), (0, .ref t), (1, .int x1), (3, .int x3), (4, .int x4), (6, .int x6)]) hx hb dX11_boats_152 hl (k := 6) rfl rfl (by decide) rfl (fun ls hl => ?_)
              refine lv_iinc (v := x6 + 1) (lv' := [(6, .int (x6 + 1)), (5, .int (x5 + 1)), (9, .int ((40 * x1) + ((x3.toInt64 + (3 * x6.toInt64)).toInt32))), (7, .long (x3.toInt64 + (3 * x6.toInt64))), (0, .ref t), (1, .int x1), (3, .int x3), (4, .int x4)]) hx hb dX11_boats_155 hl (k := 7) rfl rfl (by decide) rfl (fun ls hl => ?_)
              refine lv_goto (tgt := 64) hx hb dX11_boats_158 (by decide) ?_
              exact ih64 _ _ _ _ _ _ _ _ _ _ T (lv_sub hl [4, 5, 6, 7, 1, 0] rfl) h
          · replace h := of_ c7 h
            refine lv_bipush (v := -12) hx hb dX11_boats_107 (by decide) ?_
            obtain ⟨rfl, rfl⟩ := os2 h
            exact th_iret hQ C hr hk T (Nat.le_of_ble_eq_true rfl) (Nat.le_of_ble_eq_true rfl) dX11_boats_109
  unfold f_X11_boats at h
  refine lv_iload_n hx hb dX11_boats_0 rfl (lv_at hl 1 rfl) ?_
  refine lv_iconst (v := 0) hx hb dX11_boats_1 (by decide) ?_
  refine lv_iconst (v := 3) hx hb dX11_boats_2 (by decide) ?_
  obtain ⟨v1, e2, h⟩ := ob_ h
  refine th_callS (As := [.int x1, .int 0, .int 3]) (rest := []) C T (c_X11_within e2) k_RX11_102 rfl hl.1 rfl (st1 := [.int v1]) rfl (cells1 := 0) rfl (slots1 := 0) rfl (Nat.le_of_ble_eq_true rfl) ⟨Nat.le_of_ble_eq_true rfl, Nat.le_of_ble_eq_true rfl⟩ ⟨Nat.le_of_ble_eq_true rfl, Nat.le_of_ble_eq_true rfl⟩ dX11_boats_3 (fun H locs T => ?_)
  refine lv_if_eq (tgt := 29) hx hb dX11_boats_6 (by decide) (fun c3 => ?_) (fun c3 => ?_)
  · replace h := ot_ c3 h
    refine lv_bipush (v := -2) hx hb dX11_boats_29 (by decide) ?_
    obtain ⟨rfl, rfl⟩ := os2 h
    exact th_iret hQ C hr hk T (Nat.le_of_ble_eq_true rfl) (Nat.le_of_ble_eq_true rfl) dX11_boats_31
  · replace h := of_ c3 h
    refine lv_iload_n hx hb dX11_boats_9 rfl (lv_at hl 2 rfl) ?_
    refine lv_iconst (v := 0) hx hb dX11_boats_10 (by decide) ?_
    refine lv_iconst (v := 2) hx hb dX11_boats_11 (by decide) ?_
    obtain ⟨v4, e5, h⟩ := ob_ h
    refine th_callS (As := [.int x2, .int 0, .int 2]) (rest := []) C T (c_X11_within e5) k_RX11_102 rfl hl.1 rfl (st1 := [.int v4]) rfl (cells1 := 0) rfl (slots1 := 0) rfl (Nat.le_of_ble_eq_true rfl) ⟨Nat.le_of_ble_eq_true rfl, Nat.le_of_ble_eq_true rfl⟩ ⟨Nat.le_of_ble_eq_true rfl, Nat.le_of_ble_eq_true rfl⟩ dX11_boats_12 (fun H locs T => ?_)
    refine lv_if_eq (tgt := 29) hx hb dX11_boats_15 (by decide) (fun c6 => ?_) (fun c6 => ?_)
    · replace h := ot_ c6 h
      refine lv_bipush (v := -2) hx hb dX11_boats_29 (by decide) ?_
      obtain ⟨rfl, rfl⟩ := os2 h
      exact th_iret hQ C hr hk T (Nat.le_of_ble_eq_true rfl) (Nat.le_of_ble_eq_true rfl) dX11_boats_31
    · replace h := of_ c6 h
      refine lv_iload hx hb dX11_boats_18 (lv_at hl 4 rfl) ?_
      refine lv_iconst (v := 0) hx hb dX11_boats_20 (by decide) ?_
      refine lv_bipush (v := 7) hx hb dX11_boats_21 (by decide) ?_
      obtain ⟨v7, e8, h⟩ := ob_ h
      refine th_callS (As := [.int x4, .int 0, .int 7]) (rest := []) C T (c_X11_within e8) k_RX11_102 rfl hl.1 rfl (st1 := [.int v7]) rfl (cells1 := 0) rfl (slots1 := 0) rfl (Nat.le_of_ble_eq_true rfl) ⟨Nat.le_of_ble_eq_true rfl, Nat.le_of_ble_eq_true rfl⟩ ⟨Nat.le_of_ble_eq_true rfl, Nat.le_of_ble_eq_true rfl⟩ dX11_boats_23 (fun H locs T => ?_)
      refine lv_if_ne (tgt := 32) hx hb dX11_boats_26 (by decide) (fun c9 => ?_) (fun c9 => ?_)
      · replace h := of_ c9 h
        refine lv_aload_n hx hb dX11_boats_32 rfl (lv_at hl 0 rfl) ?_
        obtain ⟨a10, e11, h⟩ := ob_ h
        refine g_RX11_58 C T e11 dX11_boats_33 ?_
        refine lv_iload_n hx hb dX11_boats_36 rfl (lv_at hl 1 rfl) ?_
        obtain ⟨v12, e13, h⟩ := ob_ h
        refine th_iald C T e13 dX11_boats_37 ?_
        refine lv_iconst (v := -1) hx hb dX11_boats_38 (by decide) ?_
        refine lv_icmp_ne (tgt := 45) hx hb dX11_boats_39 (by decide) (fun c14 => ?_) (fun c14 => ?_)
        · replace h := of_ c14 h
          refine lv_aload_n hx hb dX11_boats_45 rfl (lv_at hl 0 rfl) ?_
          obtain ⟨a15, e16, h⟩ := ob_ h
          refine g_RX11_58 C T e16 dX11_boats_46 ?_
          refine lv_iload_n hx hb dX11_boats_49 rfl (lv_at hl 1 rfl) ?_
          obtain ⟨v17, e18, h⟩ := ob_ h
          refine th_iald C T e18 dX11_boats_50 ?_
          refine lv_iload_n hx hb dX11_boats_51 rfl (lv_at hl 2 rfl) ?_
          refine lv_icmp_eq (tgt := 58) hx hb dX11_boats_52 (by decide) (fun c19 => ?_) (fun c19 => ?_)
          · replace h := ot_ c19 h
            refine lv_iconst (v := 0) hx hb dX11_boats_58 (by decide) ?_
            refine lv_istore (lv' := [(5, .int 0), (0, .ref t), (1, .int x1), (2, .int x2), (3, .int x3), (4, .int x4)]) hx hb dX11_boats_59 hl (by decide) rfl (fun ls hl => ?_)
            refine lv_iconst (v := 0) hx hb dX11_boats_61 (by decide) ?_
            refine lv_istore (lv' := [(6, .int 0), (5, .int 0), (0, .ref t), (1, .int x1), (2, .int x2), (3, .int x3), (4, .int x4)]) hx hb dX11_boats_62 hl (by decide) rfl (fun ls hl => ?_)
            exact J64 fu _ _ _ _ _ _ _ _ _ _ T (lv_sub hl [2, 3, 5, 6, 1, 0] rfl) h
          · replace h := of_ c19 h
            refine lv_bipush (v := -13) hx hb dX11_boats_55 (by decide) ?_
            obtain ⟨rfl, rfl⟩ := os2 h
            exact th_iret hQ C hr hk T (Nat.le_of_ble_eq_true rfl) (Nat.le_of_ble_eq_true rfl) dX11_boats_57
        · replace h := ot_ c14 h
          refine lv_bipush (v := -11) hx hb dX11_boats_42 (by decide) ?_
          obtain ⟨rfl, rfl⟩ := os2 h
          exact th_iret hQ C hr hk T (Nat.le_of_ble_eq_true rfl) (Nat.le_of_ble_eq_true rfl) dX11_boats_44
      · replace h := ot_ c9 h
        refine lv_bipush (v := -2) hx hb dX11_boats_29 (by decide) ?_
        obtain ⟨rfl, rfl⟩ := os2 h
        exact th_iret hQ C hr hk T (Nat.le_of_ble_eq_true rfl) (Nat.le_of_ble_eq_true rfl) dX11_boats_31
set_option maxRecDepth 100000 in
set_option maxHeartbeats 4000000 in
theorem c_X11_taken {l : Launch} {G : th_G} {σ : th_S} {μ : th_M} {t : Nat} {x1 : Int32} {x2 : Int32} {r : Int32} (h : f_X11_taken σ μ t x1 x2 = some r) : th_Met l G yX11_taken cX11_taken 4 (some FieldType.int) { frames := 2, cells := 0, slots := 0, locals := 43 } [.ref t, .int x1, .int x2] σ μ (some (.int r)) σ μ := by
  refine th_ofW (by decide +kernel) (Nat.le_of_ble_eq_true rfl) ?_
  intro p e s m args below meth c ls Q hQ C hr hk hnm T hl
  have hx := C.1
  have hb := C.2.1
  have C : CallFix p m c cX11_taken 4 s args th_ws RX11 := C
  have hl : lv_has ls 4 [(0, .ref t), (1, .int x1), (2, .int x2)] := hl
  have J62 : ∀ (t : Nat) (x1 : Int32) (x2 : Int32) (x3 : Int32) (H : Heap) (locs : List Loc) (ls : Array Slot), th_R G s H locs σ μ → lv_has ls 4 [(0, .ref t), (1, .int x1), (2, .int x2), (3, .int x3)] → f_X11_taken_b62 σ μ t x1 x2 x3 = some r → W p l e { frames := 2, cells := 0, slots := 0, locals := 43 } s m args below meth c H locs 0 0 Q (F0 m 62 ls []) := by
    intro t x1 x2 x3 H locs ls T hl h
    unfold f_X11_taken_b62 at h
    refine lv_iload_n hx hb dX11_taken_62 rfl (lv_at hl 3 rfl) ?_
    refine lv_iload_n hx hb dX11_taken_63 rfl (lv_at hl 2 rfl) ?_
    refine lv_icmp_ne (tgt := 76) hx hb dX11_taken_64 (by decide) (fun c1 => ?_) (fun c1 => ?_)
    · replace h := of_ c1 h
      refine lv_bipush (v := -13) hx hb dX11_taken_76 (by decide) ?_
      obtain rfl := os1 h
      exact th_iret hQ C hr hk T (Nat.le_of_ble_eq_true rfl) (Nat.le_of_ble_eq_true rfl) dX11_taken_78
    · replace h := ot_ c1 h
      refine lv_aload_n hx hb dX11_taken_67 rfl (lv_at hl 0 rfl) ?_
      obtain ⟨a2, e3, h⟩ := ob_ h
      refine g_RX11_13 C T e3 dX11_taken_68 ?_
      refine lv_iload_n hx hb dX11_taken_71 rfl (lv_at hl 1 rfl) ?_
      obtain ⟨v4, e5, h⟩ := ob_ h
      refine th_iald C T e5 dX11_taken_72 ?_
      refine lv_goto (tgt := 78) hx hb dX11_taken_73 (by decide) ?_
      obtain rfl := os1 h
      exact th_iret hQ C hr hk T (Nat.le_of_ble_eq_true rfl) (Nat.le_of_ble_eq_true rfl) dX11_taken_78
  have J30 : ∀ (n : Nat) (t : Nat) (x1 : Int32) (x2 : Int32) (x3 : Int32) (H : Heap) (locs : List Loc) (ls : Array Slot), th_R G s H locs σ μ → lv_has ls 4 [(0, .ref t), (1, .int x1), (2, .int x2), (3, .int x3)] → f_X11_taken_b30  n σ μ t x1 x2 x3 = some r → W p l e { frames := 2, cells := 0, slots := 0, locals := 43 } s m args below meth c H locs 0 0 Q (F0 m 30 ls []) := by
    intro n
    induction n with
    | zero => intro t x1 x2 x3 H locs ls T hl h; unfold f_X11_taken_b30 at h; cases h
    | succ n30 ih30 =>
      intro t x1 x2 x3 H locs ls T hl h
      unfold f_X11_taken_b30 at h
      refine lv_iload_n hx hb dX11_taken_30 rfl (lv_at hl 3 rfl) ?_
      refine lv_iload_n hx hb dX11_taken_31 rfl (lv_at hl 2 rfl) ?_
      refine lv_icmp_eq (tgt := 62) hx hb dX11_taken_32 (by decide) (fun c1 => ?_) (fun c1 => ?_)
      · replace h := ot_ c1 h
        exact J62 _ _ _ _ _ _ _ T (lv_sub hl [0, 1, 2, 3] rfl) h
      · replace h := of_ c1 h
        refine lv_iload_n hx hb dX11_taken_35 rfl (lv_at hl 3 rfl) ?_
        refine lv_if_le (tgt := 62) hx hb dX11_taken_36 (by decide) (fun c2 => ?_) (fun c2 => ?_)
        · replace h := ot_ c2 h
          exact J62 _ _ _ _ _ _ _ T (lv_sub hl [0, 1, 2, 3] rfl) h
        · replace h := of_ c2 h
          refine lv_iload_n hx hb dX11_taken_39 rfl (lv_at hl 3 rfl) ?_
          refine lv_iconst (v := 3) hx hb dX11_taken_40 (by decide) ?_
          refine lv_icmp_ne (tgt := 48) hx hb dX11_taken_41 (by decide) (fun c3 => ?_) (fun c3 => ?_)
          · replace h := of_ c3 h
            refine lv_iload_n hx hb dX11_taken_48 rfl (lv_at hl 3 rfl) ?_
            refine lv_iconst (v := 4) hx hb dX11_taken_49 (by decide) ?_
            refine lv_icmp_ne (tgt := 57) hx hb dX11_taken_50 (by decide) (fun c4 => ?_) (fun c4 => ?_)
            · replace h := of_ c4 h
              refine lv_iconst (v := 0) hx hb dX11_taken_57 (by decide) ?_
              refine lv_istore_n (lv' := [(3, .int 0), (0, .ref t), (1, .int x1), (2, .int x2)]) hx hb dX11_taken_58 rfl hl (by decide) rfl (fun ls hl => ?_)
              refine lv_goto (tgt := 30) hx hb dX11_taken_59 (by decide) ?_
              exact ih30 _ _ _ _ _ _ _ T (lv_sub hl [1, 2, 3, 0] rfl) h
            · replace h := ot_ c4 h
              refine lv_iconst (v := 2) hx hb dX11_taken_53 (by decide) ?_
              refine lv_goto (tgt := 58) hx hb dX11_taken_54 (by decide) ?_
              refine lv_istore_n (lv' := [(3, .int 2), (0, .ref t), (1, .int x1), (2, .int x2)]) hx hb dX11_taken_58 rfl hl (by decide) rfl (fun ls hl => ?_)
              refine lv_goto (tgt := 30) hx hb dX11_taken_59 (by decide) ?_
              exact ih30 _ _ _ _ _ _ _ T (lv_sub hl [1, 2, 3, 0] rfl) h
          · replace h := ot_ c3 h
            refine lv_iconst (v := 1) hx hb dX11_taken_44 (by decide) ?_
            refine lv_goto (tgt := 58) hx hb dX11_taken_45 (by decide) ?_
            refine lv_istore_n (lv' := [(3, .int 1), (0, .ref t), (1, .int x1), (2, .int x2)]) hx hb dX11_taken_58 rfl hl (by decide) rfl (fun ls hl => ?_)
            refine lv_goto (tgt := 30) hx hb dX11_taken_59 (by decide) ?_
            exact ih30 _ _ _ _ _ _ _ T (lv_sub hl [1, 2, 3, 0] rfl) h
  unfold f_X11_taken at h
  refine lv_iload_n hx hb dX11_taken_0 rfl (lv_at hl 2 rfl) ?_
  refine lv_iconst (v := 0) hx hb dX11_taken_1 (by decide) ?_
  refine lv_iconst (v := 5) hx hb dX11_taken_2 (by decide) ?_
  obtain ⟨v1, e2, h⟩ := ob_ h
  refine th_callS (As := [.int x2, .int 0, .int 5]) (rest := []) C T (c_X11_within e2) k_RX11_102 rfl hl.1 rfl (st1 := [.int v1]) rfl (cells1 := 0) rfl (slots1 := 0) rfl (Nat.le_of_ble_eq_true rfl) ⟨Nat.le_of_ble_eq_true rfl, Nat.le_of_ble_eq_true rfl⟩ ⟨Nat.le_of_ble_eq_true rfl, Nat.le_of_ble_eq_true rfl⟩ dX11_taken_3 (fun H locs T => ?_)
  refine lv_if_ne (tgt := 12) hx hb dX11_taken_6 (by decide) (fun c3 => ?_) (fun c3 => ?_)
  · replace h := of_ c3 h
    refine lv_aload_n hx hb dX11_taken_12 rfl (lv_at hl 0 rfl) ?_
    refine lv_iload_n hx hb dX11_taken_13 rfl (lv_at hl 1 rfl) ?_
    obtain ⟨k4, h⟩ := oc_ h
    obtain ⟨v5, e6, h⟩ := ob_ h
    refine th_callV (As := [.int x1]) (rest := []) C T (c_X11_isBoat e6) k_RX11_112 11 rfl rfl (by decide) k4 rfl hl.1 rfl (st1 := [.int v5]) rfl (cells1 := 0) rfl (slots1 := 0) rfl (Nat.le_of_ble_eq_true rfl) ⟨Nat.le_of_ble_eq_true rfl, Nat.le_of_ble_eq_true rfl⟩ ⟨Nat.le_of_ble_eq_true rfl, Nat.le_of_ble_eq_true rfl⟩ dX11_taken_14 (fun H locs T => ?_)
    refine lv_if_ne (tgt := 23) hx hb dX11_taken_17 (by decide) (fun c7 => ?_) (fun c7 => ?_)
    · replace h := of_ c7 h
      refine lv_aload_n hx hb dX11_taken_23 rfl (lv_at hl 0 rfl) ?_
      obtain ⟨a8, e9, h⟩ := ob_ h
      refine g_RX11_7 C T e9 dX11_taken_24 ?_
      refine lv_iload_n hx hb dX11_taken_27 rfl (lv_at hl 1 rfl) ?_
      obtain ⟨v10, e11, h⟩ := ob_ h
      refine th_iald C T e11 dX11_taken_28 ?_
      refine lv_istore_n (lv' := [(3, .int v10), (0, .ref t), (1, .int x1), (2, .int x2)]) hx hb dX11_taken_29 rfl hl (by decide) rfl (fun ls hl => ?_)
      exact J30 fu _ _ _ _ _ _ _ T (lv_sub hl [1, 2, 3, 0] rfl) h
    · replace h := ot_ c7 h
      refine lv_bipush (v := -11) hx hb dX11_taken_20 (by decide) ?_
      obtain rfl := os1 h
      exact th_iret hQ C hr hk T (Nat.le_of_ble_eq_true rfl) (Nat.le_of_ble_eq_true rfl) dX11_taken_22
  · replace h := ot_ c3 h
    refine lv_bipush (v := -2) hx hb dX11_taken_9 (by decide) ?_
    obtain rfl := os1 h
    exact th_iret hQ C hr hk T (Nat.le_of_ble_eq_true rfl) (Nat.le_of_ble_eq_true rfl) dX11_taken_11
