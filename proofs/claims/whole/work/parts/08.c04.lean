set_option maxRecDepth 100000 in
set_option maxHeartbeats 4000000 in
theorem c_X10_boat {l : Launch} {G : th_G} {σ : th_S} {μ : th_M} {t : Nat} {x1 : Int32} {x2 : Int32} {x3 : Int32} {r : Int32} {σ' : th_S} {μ' : th_M} (h : f_X10_boat σ μ t x1 x2 x3 = some (r, σ', μ')) : th_Met l G yX10_boat cX10_boat 4 (some FieldType.int) { frames := 5, cells := 3, slots := 14, locals := 168 } [.ref t, .int x1, .int x2, .int x3] σ μ (some (.int r)) σ' μ' := by
  refine th_ofW (by decide +kernel) (Nat.le_of_ble_eq_true rfl) ?_
  intro p e s m args below meth c ls Q hQ C hr hk hnm T hl
  have hx := C.1
  have hb := C.2.1
  have C : CallFix p m c cX10_boat 4 s args th_ws RX10 := C
  have hl : lv_has ls 4 [(0, .ref t), (1, .int x1), (2, .int x2), (3, .int x3)] := hl
  unfold f_X10_boat at h
  refine lv_iload_n hx hb dX10_boat_0 rfl (lv_at hl 1 rfl) ?_
  refine lv_if_lt (tgt := 17) hx hb dX10_boat_1 (by decide) (fun c1 => ?_) (fun c1 => ?_)
  · replace h := ot_ c1 h
    refine lv_bipush (v := -2) hx hb dX10_boat_17 (by decide) ?_
    obtain ⟨rfl, rfl, rfl⟩ := os3 h
    exact th_iret hQ C hr hk T (Nat.le_of_ble_eq_true rfl) (Nat.le_of_ble_eq_true rfl) dX10_boat_19
  · replace h := of_ c1 h
    refine lv_iload_n hx hb dX10_boat_4 rfl (lv_at hl 1 rfl) ?_
    refine lv_iconst (v := 5) hx hb dX10_boat_5 (by decide) ?_
    refine lv_icmp_gt (tgt := 17) hx hb dX10_boat_6 (by decide) (fun c2 => ?_) (fun c2 => ?_)
    · replace h := ot_ c2 h
      refine lv_bipush (v := -2) hx hb dX10_boat_17 (by decide) ?_
      obtain ⟨rfl, rfl, rfl⟩ := os3 h
      exact th_iret hQ C hr hk T (Nat.le_of_ble_eq_true rfl) (Nat.le_of_ble_eq_true rfl) dX10_boat_19
    · replace h := of_ c2 h
      refine lv_iload_n hx hb dX10_boat_9 rfl (lv_at hl 2 rfl) ?_
      refine lv_if_lt (tgt := 17) hx hb dX10_boat_10 (by decide) (fun c3 => ?_) (fun c3 => ?_)
      · replace h := ot_ c3 h
        refine lv_bipush (v := -2) hx hb dX10_boat_17 (by decide) ?_
        obtain ⟨rfl, rfl, rfl⟩ := os3 h
        exact th_iret hQ C hr hk T (Nat.le_of_ble_eq_true rfl) (Nat.le_of_ble_eq_true rfl) dX10_boat_19
      · replace h := of_ c3 h
        refine lv_iload_n hx hb dX10_boat_13 rfl (lv_at hl 3 rfl) ?_
        refine lv_if_ge (tgt := 20) hx hb dX10_boat_14 (by decide) (fun c4 => ?_) (fun c4 => ?_)
        · replace h := ot_ c4 h
          refine lv_iconst (v := 0) hx hb dX10_boat_20 (by decide) ?_
          refine lv_iload_n hx hb dX10_boat_21 rfl (lv_at hl 2 rfl) ?_
          refine lv_bipush (v := 100) hx hb dX10_boat_22 (by decide) ?_
          refine lv_idiv hx hb dX10_boat_24 (by decide) ?_
          obtain ⟨v5, e6, h⟩ := ob_ h
          refine th_callS (As := [.int 0, .int (x2 / 100)]) (rest := []) C T (c_X10_fits e6) k_RX10_88 rfl hl.1 rfl (st1 := [.int v5]) rfl (cells1 := 0) rfl (slots1 := 0) rfl (Nat.le_of_ble_eq_true rfl) ⟨Nat.le_of_ble_eq_true rfl, Nat.le_of_ble_eq_true rfl⟩ ⟨Nat.le_of_ble_eq_true rfl, Nat.le_of_ble_eq_true rfl⟩ dX10_boat_25 (fun H locs T => ?_)
          refine lv_if_eq (tgt := 54) hx hb dX10_boat_28 (by decide) (fun c7 => ?_) (fun c7 => ?_)
          · replace h := ot_ c7 h
            refine lv_bipush (v := -2) hx hb dX10_boat_54 (by decide) ?_
            obtain ⟨rfl, rfl, rfl⟩ := os3 h
            exact th_iret hQ C hr hk T (Nat.le_of_ble_eq_true rfl) (Nat.le_of_ble_eq_true rfl) dX10_boat_56
          · replace h := of_ c7 h
            refine lv_iconst (v := 3) hx hb dX10_boat_31 (by decide) ?_
            refine lv_iload_n hx hb dX10_boat_32 rfl (lv_at hl 2 rfl) ?_
            refine lv_bipush (v := 100) hx hb dX10_boat_33 (by decide) ?_
            refine th_irem C dX10_boat_35 (by decide) ?_
            obtain ⟨v8, e9, h⟩ := ob_ h
            refine th_callS (As := [.int 3, .int (jrem x2 100)]) (rest := []) C T (c_X10_fits e9) k_RX10_88 rfl hl.1 rfl (st1 := [.int v8]) rfl (cells1 := 0) rfl (slots1 := 0) rfl (Nat.le_of_ble_eq_true rfl) ⟨Nat.le_of_ble_eq_true rfl, Nat.le_of_ble_eq_true rfl⟩ ⟨Nat.le_of_ble_eq_true rfl, Nat.le_of_ble_eq_true rfl⟩ dX10_boat_36 (fun H locs T => ?_)
            refine lv_if_eq (tgt := 54) hx hb dX10_boat_39 (by decide) (fun c10 => ?_) (fun c10 => ?_)
            · replace h := ot_ c10 h
              refine lv_bipush (v := -2) hx hb dX10_boat_54 (by decide) ?_
              obtain ⟨rfl, rfl, rfl⟩ := os3 h
              exact th_iret hQ C hr hk T (Nat.le_of_ble_eq_true rfl) (Nat.le_of_ble_eq_true rfl) dX10_boat_56
            · replace h := of_ c10 h
              refine lv_iconst (v := 2) hx hb dX10_boat_42 (by decide) ?_
              refine lv_iload_n hx hb dX10_boat_43 rfl (lv_at hl 3 rfl) ?_
              refine lv_sipush (v := 1000) hx hb dX10_boat_44 (by decide) ?_
              refine lv_idiv hx hb dX10_boat_47 (by decide) ?_
              obtain ⟨v11, e12, h⟩ := ob_ h
              refine th_callS (As := [.int 2, .int (x3 / 1000)]) (rest := []) C T (c_X10_fits e12) k_RX10_88 rfl hl.1 rfl (st1 := [.int v11]) rfl (cells1 := 0) rfl (slots1 := 0) rfl (Nat.le_of_ble_eq_true rfl) ⟨Nat.le_of_ble_eq_true rfl, Nat.le_of_ble_eq_true rfl⟩ ⟨Nat.le_of_ble_eq_true rfl, Nat.le_of_ble_eq_true rfl⟩ dX10_boat_48 (fun H locs T => ?_)
              refine lv_if_ne (tgt := 57) hx hb dX10_boat_51 (by decide) (fun c13 => ?_) (fun c13 => ?_)
              · replace h := of_ c13 h
                refine lv_aload_n hx hb dX10_boat_57 rfl (lv_at hl 0 rfl) ?_
                obtain ⟨v14, e15, h⟩ := ob_ h
                refine g_RX10_92 C T e15 dX10_boat_58 ?_
                refine lv_bipush (v := 7) hx hb dX10_boat_61 (by decide) ?_
                refine lv_icmp_lt (tgt := 69) hx hb dX10_boat_63 (by decide) (fun c16 => ?_) (fun c16 => ?_)
                · replace h := ot_ c16 h
                  refine lv_aload_n hx hb dX10_boat_69 rfl (lv_at hl 0 rfl) ?_
                  obtain ⟨a17, e18, h⟩ := ob_ h
                  refine g_RX10_11 C T e18 dX10_boat_70 ?_
                  refine lv_aload_n hx hb dX10_boat_73 rfl (lv_at hl 0 rfl) ?_
                  obtain ⟨v19, e20, h⟩ := ob_ h
                  refine g_RX10_92 C T e20 dX10_boat_74 ?_
                  refine lv_iload_n hx hb dX10_boat_77 rfl (lv_at hl 1 rfl) ?_
                  refine lv_iload_n hx hb dX10_boat_78 rfl (lv_at hl 2 rfl) ?_
                  refine lv_iload_n hx hb dX10_boat_79 rfl (lv_at hl 3 rfl) ?_
                  obtain ⟨a21, σ22, μ23, e24, h⟩ := ob3 h
                  refine th_callS (As := [.int x1, .int x2, .int x3]) (rest := [.int v19, .ref a17]) C T (c_X10_newBoat e24) k_RX10_95 rfl hl.1 rfl (st1 := [.ref a21, .int v19, .ref a17]) rfl (cells1 := 3) rfl (slots1 := 14) rfl (Nat.le_of_ble_eq_true rfl) ⟨Nat.le_of_ble_eq_true rfl, Nat.le_of_ble_eq_true rfl⟩ ⟨Nat.le_of_ble_eq_true rfl, Nat.le_of_ble_eq_true rfl⟩ dX10_boat_80 (fun H locs T => ?_)
                  obtain ⟨σ25, e26, h⟩ := ob_ h
                  refine th_aast C T 13 e26 (by decide) rfl th_cast13 dX10_boat_83 (fun H locs T => ?_)
                  refine lv_aload_n hx hb dX10_boat_84 rfl (lv_at hl 0 rfl) ?_
                  refine lv_dup hx hb dX10_boat_85 rfl ?_
                  obtain ⟨v27, e28, h⟩ := ob_ h
                  refine g_RX10_92 C T e28 dX10_boat_86 ?_
                  refine lv_iconst (v := 1) hx hb dX10_boat_89 (by decide) ?_
                  refine lv_iadd hx hb dX10_boat_90 ?_
                  obtain ⟨μ29, e30, h⟩ := ob_ h
                  refine p_RX10_92 C T e30 dX10_boat_91 (fun H locs T => ?_)
                  refine lv_aload_n hx hb dX10_boat_94 rfl (lv_at hl 0 rfl) ?_
                  obtain ⟨v31, e32, h⟩ := ob_ h
                  refine g_RX10_92 C T e32 dX10_boat_95 ?_
                  refine lv_iconst (v := 1) hx hb dX10_boat_98 (by decide) ?_
                  refine lv_isub hx hb dX10_boat_99 ?_
                  obtain ⟨rfl, rfl, rfl⟩ := os3 h
                  exact th_iret hQ C hr hk T (Nat.le_of_ble_eq_true rfl) (Nat.le_of_ble_eq_true rfl) dX10_boat_100
                · replace h := of_ c16 h
                  refine lv_bipush (v := -4) hx hb dX10_boat_66 (by decide) ?_
                  obtain ⟨rfl, rfl, rfl⟩ := os3 h
                  exact th_iret hQ C hr hk T (Nat.le_of_ble_eq_true rfl) (Nat.le_of_ble_eq_true rfl) dX10_boat_68
              · replace h := ot_ c13 h
                refine lv_bipush (v := -2) hx hb dX10_boat_54 (by decide) ?_
                obtain ⟨rfl, rfl, rfl⟩ := os3 h
                exact th_iret hQ C hr hk T (Nat.le_of_ble_eq_true rfl) (Nat.le_of_ble_eq_true rfl) dX10_boat_56
        · replace h := of_ c4 h
          refine lv_bipush (v := -2) hx hb dX10_boat_17 (by decide) ?_
          obtain ⟨rfl, rfl, rfl⟩ := os3 h
          exact th_iret hQ C hr hk T (Nat.le_of_ble_eq_true rfl) (Nat.le_of_ble_eq_true rfl) dX10_boat_19
set_option maxRecDepth 100000 in
set_option maxHeartbeats 4000000 in
theorem c_X10_isBoat {l : Launch} {G : th_G} {σ : th_S} {μ : th_M} {t : Nat} {x1 : Int32} {r : Int32} (h : f_X10_isBoat σ μ t x1 = some r) : th_Met l G yX10_isBoat cX10_isBoat 2 (some FieldType.boolean) { frames := 0, cells := 0, slots := 0, locals := 0 } [.ref t, .int x1] σ μ (some (.int r)) σ μ := by
  refine th_ofW (by decide +kernel) (Nat.le_of_ble_eq_true rfl) ?_
  intro p e s m args below meth c ls Q hQ C hr hk hnm T hl
  have hx := C.1
  have hb := C.2.1
  have C : CallFix p m c cX10_isBoat 2 s args th_ws RX10 := C
  have hl : lv_has ls 2 [(0, .ref t), (1, .int x1)] := hl
  unfold f_X10_isBoat at h
  refine lv_iload_n hx hb dX10_isBoat_0 rfl (lv_at hl 1 rfl) ?_
  refine lv_if_lt (tgt := 16) hx hb dX10_isBoat_1 (by decide) (fun c1 => ?_) (fun c1 => ?_)
  · replace h := ot_ c1 h
    refine lv_iconst (v := 0) hx hb dX10_isBoat_16 (by decide) ?_
    obtain rfl := os1 h
    exact th_zret hQ C hr hk T (Nat.le_of_ble_eq_true rfl) (Nat.le_of_ble_eq_true rfl) dX10_isBoat_17 rfl
  · replace h := of_ c1 h
    refine lv_iload_n hx hb dX10_isBoat_4 rfl (lv_at hl 1 rfl) ?_
    refine lv_aload_n hx hb dX10_isBoat_5 rfl (lv_at hl 0 rfl) ?_
    obtain ⟨v2, e3, h⟩ := ob_ h
    refine g_RX10_92 C T e3 dX10_isBoat_6 ?_
    refine lv_icmp_ge (tgt := 16) hx hb dX10_isBoat_9 (by decide) (fun c4 => ?_) (fun c4 => ?_)
    · replace h := ot_ c4 h
      refine lv_iconst (v := 0) hx hb dX10_isBoat_16 (by decide) ?_
      obtain rfl := os1 h
      exact th_zret hQ C hr hk T (Nat.le_of_ble_eq_true rfl) (Nat.le_of_ble_eq_true rfl) dX10_isBoat_17 rfl
    · replace h := of_ c4 h
      refine lv_iconst (v := 1) hx hb dX10_isBoat_12 (by decide) ?_
      refine lv_goto (tgt := 17) hx hb dX10_isBoat_13 (by decide) ?_
      obtain rfl := os1 h
      exact th_zret hQ C hr hk T (Nat.le_of_ble_eq_true rfl) (Nat.le_of_ble_eq_true rfl) dX10_isBoat_17 rfl
set_option maxRecDepth 100000 in
set_option maxHeartbeats 4000000 in
theorem c_X10_set {l : Launch} {G : th_G} {σ : th_S} {μ : th_M} {t : Nat} {x1 : Int32} {x2 : Int32} {x3 : Int32} {r : Int32} {μ' : th_M} (h : f_X10_set σ μ t x1 x2 x3 = some (r, μ')) : th_Met l G yX10_set cX10_set 6 (some FieldType.int) { frames := 1, cells := 0, slots := 0, locals := 21 } [.ref t, .int x1, .int x2, .int x3] σ μ (some (.int r)) σ μ' := by
  refine th_ofW (by decide +kernel) (Nat.le_of_ble_eq_true rfl) ?_
  intro p e s m args below meth c ls Q hQ C hr hk hnm T hl
  have hx := C.1
  have hb := C.2.1
  have C : CallFix p m c cX10_set 6 s args th_ws RX10 := C
  have hl : lv_has ls 6 [(0, .ref t), (1, .int x1), (2, .int x2), (3, .int x3)] := hl
  have J58 : ∀ (μ : th_M) (x1 : Int32) (x3 : Int32) (y0 : Nat) (H : Heap) (locs : List Loc) (ls : Array Slot), th_R G s H locs σ μ → lv_has ls 6 [(1, .int x1), (3, .int x3)] → f_X10_set_b58 σ μ x1 x3 y0 = some (r, μ') → W p l e { frames := 1, cells := 0, slots := 0, locals := 21 } s m args below meth c H locs 0 0 Q (F0 m 58 ls [.ref y0]) := by
    intro μ x1 x3 y0 H locs ls T hl h
    unfold f_X10_set_b58 at h
    refine lv_astore (lv' := [(4, .ref y0), (1, .int x1), (3, .int x3)]) hx hb dX10_set_58 hl (by decide) rfl (fun ls hl => ?_)
    refine lv_aload hx hb dX10_set_60 (lv_at hl 0 rfl) ?_
    refine lv_iload_n hx hb dX10_set_62 rfl (lv_at hl 1 rfl) ?_
    obtain ⟨v1, e2, h⟩ := ob_ h
    refine th_iald C T e2 dX10_set_63 ?_
    refine lv_istore (lv' := [(5, .int v1), (4, .ref y0), (1, .int x1), (3, .int x3)]) hx hb dX10_set_64 hl (by decide) rfl (fun ls hl => ?_)
    refine lv_aload hx hb dX10_set_66 (lv_at hl 1 rfl) ?_
    refine lv_iload_n hx hb dX10_set_68 rfl (lv_at hl 2 rfl) ?_
    refine lv_iload_n hx hb dX10_set_69 rfl (lv_at hl 3 rfl) ?_
    obtain ⟨μ3, e4, h⟩ := ob_ h
    refine th_iast C T e4 dX10_set_70 (fun H locs T => ?_)
    refine lv_iload hx hb dX10_set_71 (lv_at hl 0 rfl) ?_
    obtain ⟨rfl, rfl⟩ := os2 h
    exact th_iret hQ C hr hk T (Nat.le_of_ble_eq_true rfl) (Nat.le_of_ble_eq_true rfl) dX10_set_73
  have J37 : ∀ (μ : th_M) (t : Nat) (x1 : Int32) (x2 : Int32) (x3 : Int32) (H : Heap) (locs : List Loc) (ls : Array Slot), th_R G s H locs σ μ → lv_has ls 6 [(0, .ref t), (1, .int x1), (2, .int x2), (3, .int x3)] → f_X10_set_b37 σ μ t x1 x2 x3 = some (r, μ') → W p l e { frames := 1, cells := 0, slots := 0, locals := 21 } s m args below meth c H locs 0 0 Q (F0 m 37 ls []) := by
    intro μ t x1 x2 x3 H locs ls T hl h
    unfold f_X10_set_b37 at h
    refine lv_iload_n hx hb dX10_set_37 rfl (lv_at hl 1 rfl) ?_
    refine lv_iconst (v := 3) hx hb dX10_set_38 (by decide) ?_
    refine lv_icmp_gt (tgt := 54) hx hb dX10_set_39 (by decide) (fun c1 => ?_) (fun c1 => ?_)
    · replace h := ot_ c1 h
      refine lv_aload_n hx hb dX10_set_54 rfl (lv_at hl 0 rfl) ?_
      obtain ⟨a2, e3, h⟩ := ob_ h
      refine g_RX10_15 C T e3 dX10_set_55 ?_
      exact J58 _ _ _ _ _ _ _ T (lv_sub hl [1, 3] rfl) h
    · replace h := of_ c1 h
      refine lv_aload_n hx hb dX10_set_42 rfl (lv_at hl 0 rfl) ?_
      obtain ⟨a4, e5, h⟩ := ob_ h
      refine g_RX10_11 C T e5 dX10_set_43 ?_
      refine lv_iload_n hx hb dX10_set_46 rfl (lv_at hl 2 rfl) ?_
      obtain ⟨a6, e7, h⟩ := ob_ h
      refine th_aald C T 13 e7 (by decide) rfl dX10_set_47 ?_
      obtain ⟨a8, e9, h⟩ := ob_ h
      refine g_RX10_102 C T e9 dX10_set_48 ?_
      refine lv_goto (tgt := 58) hx hb dX10_set_51 (by decide) ?_
      exact J58 _ _ _ _ _ _ _ T (lv_sub hl [1, 3] rfl) h
  unfold f_X10_set at h
  refine lv_iload_n hx hb dX10_set_0 rfl (lv_at hl 1 rfl) ?_
  refine lv_if_lt (tgt := 18) hx hb dX10_set_1 (by decide) (fun c1 => ?_) (fun c1 => ?_)
  · replace h := ot_ c1 h
    refine lv_bipush (v := -2) hx hb dX10_set_18 (by decide) ?_
    obtain ⟨rfl, rfl⟩ := os2 h
    exact th_iret hQ C hr hk T (Nat.le_of_ble_eq_true rfl) (Nat.le_of_ble_eq_true rfl) dX10_set_20
  · replace h := of_ c1 h
    refine lv_iload_n hx hb dX10_set_4 rfl (lv_at hl 1 rfl) ?_
    refine lv_bipush (v := 8) hx hb dX10_set_5 (by decide) ?_
    refine lv_icmp_gt (tgt := 18) hx hb dX10_set_7 (by decide) (fun c2 => ?_) (fun c2 => ?_)
    · replace h := ot_ c2 h
      refine lv_bipush (v := -2) hx hb dX10_set_18 (by decide) ?_
      obtain ⟨rfl, rfl⟩ := os2 h
      exact th_iret hQ C hr hk T (Nat.le_of_ble_eq_true rfl) (Nat.le_of_ble_eq_true rfl) dX10_set_20
    · replace h := of_ c2 h
      refine lv_iload_n hx hb dX10_set_10 rfl (lv_at hl 1 rfl) ?_
      refine lv_iload_n hx hb dX10_set_11 rfl (lv_at hl 3 rfl) ?_
      obtain ⟨v3, e4, h⟩ := ob_ h
      refine th_callS (As := [.int x1, .int x3]) (rest := []) C T (c_X10_fits e4) k_RX10_88 rfl hl.1 rfl (st1 := [.int v3]) rfl (cells1 := 0) rfl (slots1 := 0) rfl (Nat.le_of_ble_eq_true rfl) ⟨Nat.le_of_ble_eq_true rfl, Nat.le_of_ble_eq_true rfl⟩ ⟨Nat.le_of_ble_eq_true rfl, Nat.le_of_ble_eq_true rfl⟩ dX10_set_12 (fun H locs T => ?_)
      refine lv_if_ne (tgt := 21) hx hb dX10_set_15 (by decide) (fun c5 => ?_) (fun c5 => ?_)
      · replace h := of_ c5 h
        refine lv_iload_n hx hb dX10_set_21 rfl (lv_at hl 1 rfl) ?_
        refine lv_iconst (v := 3) hx hb dX10_set_22 (by decide) ?_
        refine lv_icmp_gt (tgt := 37) hx hb dX10_set_23 (by decide) (fun c6 => ?_) (fun c6 => ?_)
        · replace h := ot_ c6 h
          exact J37 _ _ _ _ _ _ _ _ T (lv_sub hl [0, 1, 2, 3] rfl) h
        · replace h := of_ c6 h
          refine lv_aload_n hx hb dX10_set_26 rfl (lv_at hl 0 rfl) ?_
          refine lv_iload_n hx hb dX10_set_27 rfl (lv_at hl 2 rfl) ?_
          obtain ⟨k7, h⟩ := oc_ h
          obtain ⟨v8, e9, h⟩ := ob_ h
          refine th_callV (As := [.int x2]) (rest := []) C T (c_X10_isBoat e9) k_RX10_99 10 rfl rfl (by decide) k7 rfl hl.1 rfl (st1 := [.int v8]) rfl (cells1 := 0) rfl (slots1 := 0) rfl (Nat.le_of_ble_eq_true rfl) ⟨Nat.le_of_ble_eq_true rfl, Nat.le_of_ble_eq_true rfl⟩ ⟨Nat.le_of_ble_eq_true rfl, Nat.le_of_ble_eq_true rfl⟩ dX10_set_28 (fun H locs T => ?_)
          refine lv_if_ne (tgt := 37) hx hb dX10_set_31 (by decide) (fun c10 => ?_) (fun c10 => ?_)
          · replace h := of_ c10 h
            exact J37 _ _ _ _ _ _ _ _ T (lv_sub hl [0, 1, 2, 3] rfl) h
          · replace h := ot_ c10 h
            refine lv_bipush (v := -2) hx hb dX10_set_34 (by decide) ?_
            obtain ⟨rfl, rfl⟩ := os2 h
            exact th_iret hQ C hr hk T (Nat.le_of_ble_eq_true rfl) (Nat.le_of_ble_eq_true rfl) dX10_set_36
      · replace h := ot_ c5 h
        refine lv_bipush (v := -2) hx hb dX10_set_18 (by decide) ?_
        obtain ⟨rfl, rfl⟩ := os2 h
        exact th_iret hQ C hr hk T (Nat.le_of_ble_eq_true rfl) (Nat.le_of_ble_eq_true rfl) dX10_set_20
set_option maxRecDepth 100000 in
set_option maxHeartbeats 4000000 in
theorem c_X10_isHidden {l : Launch} {G : th_G} {σ : th_S} {μ : th_M} {t : Nat} {x1 : Int32} {r : Int32} (h : f_X10_isHidden σ μ t x1 = some r) : th_Met l G yX10_isHidden cX10_isHidden 2 (some FieldType.boolean) { frames := 0, cells := 0, slots := 0, locals := 0 } [.ref t, .int x1] σ μ (some (.int r)) σ μ := by
  refine th_ofW (by decide +kernel) (Nat.le_of_ble_eq_true rfl) ?_
  intro p e s m args below meth c ls Q hQ C hr hk hnm T hl
  have hx := C.1
  have hb := C.2.1
  have C : CallFix p m c cX10_isHidden 2 s args th_ws RX10 := C
  have hl : lv_has ls 2 [(0, .ref t), (1, .int x1)] := hl
  unfold f_X10_isHidden at h
  refine lv_iload_n hx hb dX10_isHidden_0 rfl (lv_at hl 1 rfl) ?_
  refine lv_bipush (v := 8) hx hb dX10_isHidden_1 (by decide) ?_
  refine lv_idiv hx hb dX10_isHidden_3 (by decide) ?_
  refine lv_aload_n hx hb dX10_isHidden_4 rfl (lv_at hl 0 rfl) ?_
  obtain ⟨a1, e2, h⟩ := ob_ h
  refine g_RX10_15 C T e2 dX10_isHidden_5 ?_
  refine lv_iconst (v := 4) hx hb dX10_isHidden_8 (by decide) ?_
  obtain ⟨v3, e4, h⟩ := ob_ h
  refine th_ialdn C T e4 (by decide) (by decide) dX10_isHidden_9 ?_
  refine lv_bipush (v := 8) hx hb dX10_isHidden_10 (by decide) ?_
  refine lv_idiv hx hb dX10_isHidden_12 (by decide) ?_
  refine lv_icmp_ne (tgt := 36) hx hb dX10_isHidden_13 (by decide) (fun c5 => ?_) (fun c5 => ?_)
  · replace h := of_ c5 h
    refine lv_iconst (v := 0) hx hb dX10_isHidden_36 (by decide) ?_
    obtain rfl := os1 h
    exact th_zret hQ C hr hk T (Nat.le_of_ble_eq_true rfl) (Nat.le_of_ble_eq_true rfl) dX10_isHidden_37 rfl
  · replace h := ot_ c5 h
    refine lv_iload_n hx hb dX10_isHidden_16 rfl (lv_at hl 1 rfl) ?_
    refine lv_bipush (v := 8) hx hb dX10_isHidden_17 (by decide) ?_
    refine th_irem C dX10_isHidden_19 (by decide) ?_
    refine lv_aload_n hx hb dX10_isHidden_20 rfl (lv_at hl 0 rfl) ?_
    obtain ⟨a6, e7, h⟩ := ob_ h
    refine g_RX10_15 C T e7 dX10_isHidden_21 ?_
    refine lv_iconst (v := 4) hx hb dX10_isHidden_24 (by decide) ?_
    obtain ⟨v8, e9, h⟩ := ob_ h
    refine th_ialdn C T e9 (by decide) (by decide) dX10_isHidden_25 ?_
    refine lv_bipush (v := 8) hx hb dX10_isHidden_26 (by decide) ?_
    refine th_irem C dX10_isHidden_28 (by decide) ?_
    refine lv_icmp_le (tgt := 36) hx hb dX10_isHidden_29 (by decide) (fun c10 => ?_) (fun c10 => ?_)
    · replace h := ot_ c10 h
      refine lv_iconst (v := 0) hx hb dX10_isHidden_36 (by decide) ?_
      obtain rfl := os1 h
      exact th_zret hQ C hr hk T (Nat.le_of_ble_eq_true rfl) (Nat.le_of_ble_eq_true rfl) dX10_isHidden_37 rfl
    · replace h := of_ c10 h
      refine lv_iconst (v := 1) hx hb dX10_isHidden_32 (by decide) ?_
      refine lv_goto (tgt := 37) hx hb dX10_isHidden_33 (by decide) ?_
      obtain rfl := os1 h
      exact th_zret hQ C hr hk T (Nat.le_of_ble_eq_true rfl) (Nat.le_of_ble_eq_true rfl) dX10_isHidden_37 rfl
set_option maxRecDepth 100000 in
set_option maxHeartbeats 4000000 in
theorem c_X10_nameAll {l : Launch} {G : th_G} {σ : th_S} {μ : th_M} {t : Nat} {x1 : Int32} {x2 : Int32} {x3 : Int32} {x4 : Int32}  {μ' : th_M} (h : f_X10_nameAll σ μ t x1 x2 x3 x4 = some μ') : th_Met l G yX10_nameAll cX10_nameAll 5 none { frames := 2, cells := 0, slots := 0, locals := 101 } [.ref t, .int x1, .int x2, .int x3, .int x4] σ μ none σ μ' := by
  refine th_ofW (by decide +kernel) (Nat.le_of_ble_eq_true rfl) ?_
  intro p e s m args below meth c ls Q hQ C hr hk hnm T hl
  have hx := C.1
  have hb := C.2.1
  have C : CallFix p m c cX10_nameAll 5 s args th_ws RX10 := C
  have hl : lv_has ls 5 [(0, .ref t), (1, .int x1), (2, .int x2), (3, .int x3), (4, .int x4)] := hl
  have J54 : ∀ (μ : th_M) (t : Nat) (x1 : Int32) (x3 : Int32) (y0 : Nat) (y1 : Int32) (y2 : Int32) (H : Heap) (locs : List Loc) (ls : Array Slot), th_R G s H locs σ μ → lv_has ls 5 [(0, .ref t), (1, .int x1), (3, .int x3)] → f_X10_nameAll_b54 σ μ t x1 x3 y0 y1 y2 = some μ' → W p l e { frames := 2, cells := 0, slots := 0, locals := 101 } s m args below meth c H locs 0 0 Q (F0 m 54 ls [.int y2, .int y1, .ref y0]) := by
    intro μ t x1 x3 y0 y1 y2 H locs ls T hl h
    unfold f_X10_nameAll_b54 at h
    obtain ⟨μ1, e2, h⟩ := ob_ h
    refine th_iast C T e2 dX10_nameAll_54 (fun H locs T => ?_)
    refine lv_aload_n hx hb dX10_nameAll_55 rfl (lv_at hl 0 rfl) ?_
    obtain ⟨a3, e4, h⟩ := ob_ h
    refine g_RX10_39 C T e4 dX10_nameAll_56 ?_
    refine lv_iconst (v := 4) hx hb dX10_nameAll_59 (by decide) ?_
    refine lv_iload_n hx hb dX10_nameAll_60 rfl (lv_at hl 1 rfl) ?_
    obtain ⟨μ5, e6, h⟩ := ob_ h
    refine th_iastn C T e6 (by decide) (by decide) dX10_nameAll_61 (fun H locs T => ?_)
    refine lv_aload_n hx hb dX10_nameAll_62 rfl (lv_at hl 0 rfl) ?_
    obtain ⟨a7, e8, h⟩ := ob_ h
    refine g_RX10_39 C T e8 dX10_nameAll_63 ?_
    refine lv_iconst (v := 5) hx hb dX10_nameAll_66 (by decide) ?_
    refine lv_iload_n hx hb dX10_nameAll_67 rfl (lv_at hl 2 rfl) ?_
    obtain ⟨μ9, e10, h⟩ := ob_ h
    refine th_iastn C T e10 (by decide) (by decide) dX10_nameAll_68 (fun H locs T => ?_)
    obtain rfl := os1 h
    exact th_vret hQ C hr hk T (Nat.le_of_ble_eq_true rfl) (Nat.le_of_ble_eq_true rfl) dX10_nameAll_69
  unfold f_X10_nameAll at h
  refine lv_aload_n hx hb dX10_nameAll_0 rfl (lv_at hl 0 rfl) ?_
  obtain ⟨a1, e2, h⟩ := ob_ h
  refine g_RX10_39 C T e2 dX10_nameAll_1 ?_
  refine lv_iconst (v := 0) hx hb dX10_nameAll_4 (by decide) ?_
  refine lv_iconst (v := 0) hx hb dX10_nameAll_5 (by decide) ?_
  refine lv_iload_n hx hb dX10_nameAll_6 rfl (lv_at hl 2 rfl) ?_
  obtain ⟨v3, e4, h⟩ := ob_ h
  refine th_callS (As := [.int 0, .int x2]) (rest := [.int 0, .ref a1]) C T (c_X10_far e4) k_RX10_149 rfl hl.1 rfl (st1 := [.int v3, .int 0, .ref a1]) rfl (cells1 := 0) rfl (slots1 := 0) rfl (Nat.le_of_ble_eq_true rfl) ⟨Nat.le_of_ble_eq_true rfl, Nat.le_of_ble_eq_true rfl⟩ ⟨Nat.le_of_ble_eq_true rfl, Nat.le_of_ble_eq_true rfl⟩ dX10_nameAll_7 (fun H locs T => ?_)
  obtain ⟨μ5, e6, h⟩ := ob_ h
  refine th_iastn C T e6 (by decide) (by decide) dX10_nameAll_10 (fun H locs T => ?_)
  refine lv_aload_n hx hb dX10_nameAll_11 rfl (lv_at hl 0 rfl) ?_
  obtain ⟨a7, e8, h⟩ := ob_ h
  refine g_RX10_39 C T e8 dX10_nameAll_12 ?_
  refine lv_iconst (v := 1) hx hb dX10_nameAll_15 (by decide) ?_
  refine lv_iload hx hb dX10_nameAll_16 (lv_at hl 4 rfl) ?_
  obtain ⟨μ9, e10, h⟩ := ob_ h
  refine th_iastn C T e10 (by decide) (by decide) dX10_nameAll_18 (fun H locs T => ?_)
  refine lv_aload_n hx hb dX10_nameAll_19 rfl (lv_at hl 0 rfl) ?_
  obtain ⟨a11, e12, h⟩ := ob_ h
  refine g_RX10_39 C T e12 dX10_nameAll_20 ?_
  refine lv_iconst (v := 2) hx hb dX10_nameAll_23 (by decide) ?_
  refine lv_iload_n hx hb dX10_nameAll_24 rfl (lv_at hl 3 rfl) ?_
  refine lv_aload_n hx hb dX10_nameAll_25 rfl (lv_at hl 0 rfl) ?_
  obtain ⟨a13, e14, h⟩ := ob_ h
  refine g_RX10_11 C T e14 dX10_nameAll_26 ?_
  refine lv_iload_n hx hb dX10_nameAll_29 rfl (lv_at hl 1 rfl) ?_
  obtain ⟨a15, e16, h⟩ := ob_ h
  refine th_aald C T 13 e16 (by decide) rfl dX10_nameAll_30 ?_
  obtain ⟨v17, e18, h⟩ := ob_ h
  refine vc_RX10_152 (rest := [.int x3, .int 2, .ref a11]) C T e18 hl.1 (st1 := [.int v17, .int x3, .int 2, .ref a11]) rfl (Nat.le_of_ble_eq_true rfl) ⟨Nat.le_of_ble_eq_true rfl, Nat.le_of_ble_eq_true rfl⟩ ⟨Nat.le_of_ble_eq_true rfl, Nat.le_of_ble_eq_true rfl⟩ dX10_nameAll_31 (fun H locs T => ?_)
  refine lv_isub hx hb dX10_nameAll_34 ?_
  obtain ⟨μ19, e20, h⟩ := ob_ h
  refine th_iastn C T e20 (by decide) (by decide) dX10_nameAll_35 (fun H locs T => ?_)
  refine lv_aload_n hx hb dX10_nameAll_36 rfl (lv_at hl 0 rfl) ?_
  obtain ⟨a21, e22, h⟩ := ob_ h
  refine g_RX10_39 C T e22 dX10_nameAll_37 ?_
  refine lv_iconst (v := 3) hx hb dX10_nameAll_40 (by decide) ?_
  refine lv_aload_n hx hb dX10_nameAll_41 rfl (lv_at hl 0 rfl) ?_
  refine lv_iload_n hx hb dX10_nameAll_42 rfl (lv_at hl 2 rfl) ?_
  obtain ⟨k23, h⟩ := oc_ h
  obtain ⟨v24, e25, h⟩ := ob_ h
  refine th_callV (As := [.int x2]) (rest := [.int 3, .ref a21]) C T (c_X10_isHidden e25) k_RX10_155 10 rfl rfl (by decide) k23 rfl hl.1 rfl (st1 := [.int v24, .int 3, .ref a21]) rfl (cells1 := 0) rfl (slots1 := 0) rfl (Nat.le_of_ble_eq_true rfl) ⟨Nat.le_of_ble_eq_true rfl, Nat.le_of_ble_eq_true rfl⟩ ⟨Nat.le_of_ble_eq_true rfl, Nat.le_of_ble_eq_true rfl⟩ dX10_nameAll_43 (fun H locs T => ?_)
  refine lv_if_eq (tgt := 53) hx hb dX10_nameAll_46 (by decide) (fun c26 => ?_) (fun c26 => ?_)
  · replace h := ot_ c26 h
    refine lv_iconst (v := 0) hx hb dX10_nameAll_53 (by decide) ?_
    exact J54 _ _ _ _ _ _ _ _ _ _ T (lv_sub hl [0, 1, 3] rfl) h
  · replace h := of_ c26 h
    refine lv_iconst (v := 1) hx hb dX10_nameAll_49 (by decide) ?_
    refine lv_goto (tgt := 54) hx hb dX10_nameAll_50 (by decide) ?_
    exact J54 _ _ _ _ _ _ _ _ _ _ T (lv_sub hl [0, 1, 3] rfl) h
set_option maxRecDepth 100000 in
set_option maxHeartbeats 4000000 in
theorem c_X10_rule {l : Launch} {G : th_G} {σ : th_S} {μ : th_M} {t : Nat} {r : Nat} (h : f_X10_rule σ μ t = some r) : th_Met l G yX10_rule cX10_rule 1 (some (FieldType.object "BoatsCalledIn$Rule")) { frames := 0, cells := 0, slots := 0, locals := 0 } [.ref t] σ μ (some (.ref r)) σ μ := by
  refine th_ofW (by decide +kernel) (Nat.le_of_ble_eq_true rfl) ?_
  intro p e s m args below meth c ls Q hQ C hr hk hnm T hl
  have hx := C.1
  have hb := C.2.1
  have C : CallFix p m c cX10_rule 1 s args th_ws RX10 := C
  have hl : lv_has ls 1 [(0, .ref t)] := hl
  unfold f_X10_rule at h
  refine lv_aload_n hx hb dX10_rule_0 rfl (lv_at hl 0 rfl) ?_
  obtain ⟨a1, e2, h⟩ := ob_ h
  refine g_RX10_35 C T e2 dX10_rule_1 ?_
  refine lv_aload_n hx hb dX10_rule_4 rfl (lv_at hl 0 rfl) ?_
  obtain ⟨a3, e4, h⟩ := ob_ h
  refine g_RX10_15 C T e4 dX10_rule_5 ?_
  refine lv_bipush (v := 11) hx hb dX10_rule_8 (by decide) ?_
  obtain ⟨v5, e6, h⟩ := ob_ h
  refine th_ialdn C T e6 (by decide) (by decide) dX10_rule_10 ?_
  obtain ⟨a7, e8, h⟩ := ob_ h
  refine th_aald C T 14 e8 (by decide) rfl dX10_rule_11 ?_
  obtain rfl := os1 h
  exact th_aret hQ C hr hk T (Nat.le_of_ble_eq_true rfl) (Nat.le_of_ble_eq_true rfl) dX10_rule_12 (Or.inl ⟨_, rfl⟩)
set_option maxRecDepth 100000 in
set_option maxHeartbeats 4000000 in
theorem c_X10_wouldCome {l : Launch} {G : th_G} {σ : th_S} {μ : th_M} {t : Nat} {x1 : Int32} {x2 : Int32} {x3 : Int32} {x4 : Int32} {r : Int32} {μ' : th_M} (h : f_X10_wouldCome σ μ t x1 x2 x3 x4 = some (r, μ')) : th_Met l G yX10_wouldCome cX10_wouldCome 5 (some FieldType.boolean) { frames := 4, cells := 0, slots := 0, locals := 125 } [.ref t, .int x1, .int x2, .int x3, .int x4] σ μ (some (.int r)) σ μ' := by
  refine th_ofW (by decide +kernel) (Nat.le_of_ble_eq_true rfl) ?_
  intro p e s m args below meth c ls Q hQ C hr hk hnm T hl
  have hx := C.1
  have hb := C.2.1
  have C : CallFix p m c cX10_wouldCome 5 s args th_ws RX10 := C
  have hl : lv_has ls 5 [(0, .ref t), (1, .int x1), (2, .int x2), (3, .int x3), (4, .int x4)] := hl
  unfold f_X10_wouldCome at h
  refine lv_iconst (v := 0) hx hb dX10_wouldCome_0 (by decide) ?_
  refine lv_iload_n hx hb dX10_wouldCome_1 rfl (lv_at hl 2 rfl) ?_
  obtain ⟨v1, e2, h⟩ := ob_ h
  refine th_callS (As := [.int 0, .int x2]) (rest := []) C T (c_X10_far e2) k_RX10_149 rfl hl.1 rfl (st1 := [.int v1]) rfl (cells1 := 0) rfl (slots1 := 0) rfl (Nat.le_of_ble_eq_true rfl) ⟨Nat.le_of_ble_eq_true rfl, Nat.le_of_ble_eq_true rfl⟩ ⟨Nat.le_of_ble_eq_true rfl, Nat.le_of_ble_eq_true rfl⟩ dX10_wouldCome_2 (fun H locs T => ?_)
  refine lv_aload_n hx hb dX10_wouldCome_5 rfl (lv_at hl 0 rfl) ?_
  obtain ⟨a3, e4, h⟩ := ob_ h
  refine g_RX10_11 C T e4 dX10_wouldCome_6 ?_
  refine lv_iload_n hx hb dX10_wouldCome_9 rfl (lv_at hl 1 rfl) ?_
  obtain ⟨a5, e6, h⟩ := ob_ h
  refine th_aald C T 13 e6 (by decide) rfl dX10_wouldCome_10 ?_
  refine lv_iload hx hb dX10_wouldCome_11 (lv_at hl 4 rfl) ?_
  obtain ⟨v7, e8, h⟩ := ob_ h
  refine vc_RX10_112 (rest := [.int v1]) C T e8 hl.1 (st1 := [.int v7, .int v1]) rfl (Nat.le_of_ble_eq_true rfl) ⟨Nat.le_of_ble_eq_true rfl, Nat.le_of_ble_eq_true rfl⟩ ⟨Nat.le_of_ble_eq_true rfl, Nat.le_of_ble_eq_true rfl⟩ dX10_wouldCome_13 (fun H locs T => ?_)
  refine lv_icmp_le (tgt := 21) hx hb dX10_wouldCome_16 (by decide) (fun c9 => ?_) (fun c9 => ?_)
  · replace h := ot_ c9 h
    refine lv_aload_n hx hb dX10_wouldCome_21 rfl (lv_at hl 0 rfl) ?_
    refine lv_iload_n hx hb dX10_wouldCome_22 rfl (lv_at hl 1 rfl) ?_
    refine lv_iload_n hx hb dX10_wouldCome_23 rfl (lv_at hl 2 rfl) ?_
    refine lv_iload_n hx hb dX10_wouldCome_24 rfl (lv_at hl 3 rfl) ?_
    refine lv_iload hx hb dX10_wouldCome_25 (lv_at hl 4 rfl) ?_
    obtain ⟨k10, h⟩ := oc_ h
    obtain ⟨μ11, e12, h⟩ := ob_ h
    refine th_callV (As := [.int x1, .int x2, .int x3, .int x4]) (rest := []) C T (c_X10_nameAll e12) k_RX10_182 10 rfl rfl (by decide) k10 rfl hl.1 rfl (st1 := []) rfl (cells1 := 0) rfl (slots1 := 0) rfl (Nat.le_of_ble_eq_true rfl) ⟨Nat.le_of_ble_eq_true rfl, Nat.le_of_ble_eq_true rfl⟩ ⟨Nat.le_of_ble_eq_true rfl, Nat.le_of_ble_eq_true rfl⟩ dX10_wouldCome_27 (fun H locs T => ?_)
    refine lv_aload_n hx hb dX10_wouldCome_30 rfl (lv_at hl 0 rfl) ?_
    obtain ⟨a13, e14, h⟩ := ob_ h
    refine th_callV (As := []) (rest := []) C T (c_X10_rule e14) k_RX10_186 10 rfl rfl (by decide) k10 rfl hl.1 rfl (st1 := [.ref a13]) rfl (cells1 := 0) rfl (slots1 := 0) rfl (Nat.le_of_ble_eq_true rfl) ⟨Nat.le_of_ble_eq_true rfl, Nat.le_of_ble_eq_true rfl⟩ ⟨Nat.le_of_ble_eq_true rfl, Nat.le_of_ble_eq_true rfl⟩ dX10_wouldCome_31 (fun H locs T => ?_)
    refine lv_iconst (v := 1) hx hb dX10_wouldCome_34 (by decide) ?_
    refine lv_aload_n hx hb dX10_wouldCome_35 rfl (lv_at hl 0 rfl) ?_
    obtain ⟨a15, e16, h⟩ := ob_ h
    refine g_RX10_39 C T e16 dX10_wouldCome_36 ?_
    obtain ⟨k17, h⟩ := oc_ h
    obtain ⟨v18, μ19, e20, h⟩ := ob2 h
    refine th_callV (As := [.int 1, .ref a15]) (rest := []) C T (c_X5_value e20) k_RX10_189 5 rfl rfl (by decide) k17 rfl hl.1 rfl (st1 := [.int v18]) rfl (cells1 := 0) rfl (slots1 := 0) rfl (Nat.le_of_ble_eq_true rfl) ⟨Nat.le_of_ble_eq_true rfl, Nat.le_of_ble_eq_true rfl⟩ ⟨Nat.le_of_ble_eq_true rfl, Nat.le_of_ble_eq_true rfl⟩ dX10_wouldCome_39 (fun H locs T => ?_)
    refine lv_if_eq (tgt := 64) hx hb dX10_wouldCome_42 (by decide) (fun c21 => ?_) (fun c21 => ?_)
    · replace h := ot_ c21 h
      refine lv_iconst (v := 0) hx hb dX10_wouldCome_64 (by decide) ?_
      obtain ⟨rfl, rfl⟩ := os2 h
      exact th_zret hQ C hr hk T (Nat.le_of_ble_eq_true rfl) (Nat.le_of_ble_eq_true rfl) dX10_wouldCome_65 rfl
    · replace h := of_ c21 h
      refine lv_aload_n hx hb dX10_wouldCome_45 rfl (lv_at hl 0 rfl) ?_
      obtain ⟨a22, e23, h⟩ := ob_ h
      refine th_callV (As := []) (rest := []) C T (c_X10_rule e23) k_RX10_186 10 rfl rfl (by decide) k10 rfl hl.1 rfl (st1 := [.ref a22]) rfl (cells1 := 0) rfl (slots1 := 0) rfl (Nat.le_of_ble_eq_true rfl) ⟨Nat.le_of_ble_eq_true rfl, Nat.le_of_ble_eq_true rfl⟩ ⟨Nat.le_of_ble_eq_true rfl, Nat.le_of_ble_eq_true rfl⟩ dX10_wouldCome_46 (fun H locs T => ?_)
      refine lv_iconst (v := 2) hx hb dX10_wouldCome_49 (by decide) ?_
      refine lv_aload_n hx hb dX10_wouldCome_50 rfl (lv_at hl 0 rfl) ?_
      obtain ⟨a24, e25, h⟩ := ob_ h
      refine g_RX10_39 C T e25 dX10_wouldCome_51 ?_
      obtain ⟨k26, h⟩ := oc_ h
      obtain ⟨v27, μ28, e29, h⟩ := ob2 h
      refine th_callV (As := [.int 2, .ref a24]) (rest := []) C T (c_X5_value e29) k_RX10_189 5 rfl rfl (by decide) k26 rfl hl.1 rfl (st1 := [.int v27]) rfl (cells1 := 0) rfl (slots1 := 0) rfl (Nat.le_of_ble_eq_true rfl) ⟨Nat.le_of_ble_eq_true rfl, Nat.le_of_ble_eq_true rfl⟩ ⟨Nat.le_of_ble_eq_true rfl, Nat.le_of_ble_eq_true rfl⟩ dX10_wouldCome_54 (fun H locs T => ?_)
      refine lv_if_eq (tgt := 64) hx hb dX10_wouldCome_57 (by decide) (fun c30 => ?_) (fun c30 => ?_)
      · replace h := ot_ c30 h
        refine lv_iconst (v := 0) hx hb dX10_wouldCome_64 (by decide) ?_
        obtain ⟨rfl, rfl⟩ := os2 h
        exact th_zret hQ C hr hk T (Nat.le_of_ble_eq_true rfl) (Nat.le_of_ble_eq_true rfl) dX10_wouldCome_65 rfl
      · replace h := of_ c30 h
        refine lv_iconst (v := 1) hx hb dX10_wouldCome_60 (by decide) ?_
        refine lv_goto (tgt := 65) hx hb dX10_wouldCome_61 (by decide) ?_
        obtain ⟨rfl, rfl⟩ := os2 h
        exact th_zret hQ C hr hk T (Nat.le_of_ble_eq_true rfl) (Nat.le_of_ble_eq_true rfl) dX10_wouldCome_65 rfl
  · replace h := of_ c9 h
    refine lv_iconst (v := 0) hx hb dX10_wouldCome_19 (by decide) ?_
    obtain ⟨rfl, rfl⟩ := os2 h
    exact th_zret hQ C hr hk T (Nat.le_of_ble_eq_true rfl) (Nat.le_of_ble_eq_true rfl) dX10_wouldCome_20 rfl
set_option maxRecDepth 100000 in
set_option maxHeartbeats 4000000 in
theorem c_X10_wouldComeNow {l : Launch} {G : th_G} {σ : th_S} {μ : th_M} {t : Nat} {x1 : Int32} {r : Int32} {μ' : th_M} (h : f_X10_wouldComeNow σ μ t x1 = some (r, μ')) : th_Met l G yX10_wouldComeNow cX10_wouldComeNow 2 (some FieldType.boolean) { frames := 5, cells := 0, slots := 0, locals := 149 } [.ref t, .int x1] σ μ (some (.int r)) σ μ' := by
  refine th_ofW (by decide +kernel) (Nat.le_of_ble_eq_true rfl) ?_
  intro p e s m args below meth c ls Q hQ C hr hk hnm T hl
  have hx := C.1
  have hb := C.2.1
  have C : CallFix p m c cX10_wouldComeNow 2 s args th_ws RX10 := C
  have hl : lv_has ls 2 [(0, .ref t), (1, .int x1)] := hl
  unfold f_X10_wouldComeNow at h
  refine lv_aload_n hx hb dX10_wouldComeNow_0 rfl (lv_at hl 0 rfl) ?_
  refine lv_iload_n hx hb dX10_wouldComeNow_1 rfl (lv_at hl 1 rfl) ?_
  refine lv_aload_n hx hb dX10_wouldComeNow_2 rfl (lv_at hl 0 rfl) ?_
  obtain ⟨a1, e2, h⟩ := ob_ h
  refine g_RX10_11 C T e2 dX10_wouldComeNow_3 ?_
  refine lv_iload_n hx hb dX10_wouldComeNow_6 rfl (lv_at hl 1 rfl) ?_
  obtain ⟨a3, e4, h⟩ := ob_ h
  refine th_aald C T 13 e4 (by decide) rfl dX10_wouldComeNow_7 ?_
  obtain ⟨a5, e6, h⟩ := ob_ h
  refine g_RX10_102 C T e6 dX10_wouldComeNow_8 ?_
  refine lv_iconst (v := 0) hx hb dX10_wouldComeNow_11 (by decide) ?_
  obtain ⟨v7, e8, h⟩ := ob_ h
  refine th_ialdn C T e8 (by decide) (by decide) dX10_wouldComeNow_12 ?_
  refine lv_aload_n hx hb dX10_wouldComeNow_13 rfl (lv_at hl 0 rfl) ?_
  obtain ⟨a9, e10, h⟩ := ob_ h
  refine g_RX10_15 C T e10 dX10_wouldComeNow_14 ?_
  refine lv_bipush (v := 9) hx hb dX10_wouldComeNow_17 (by decide) ?_
  obtain ⟨v11, e12, h⟩ := ob_ h
  refine th_ialdn C T e12 (by decide) (by decide) dX10_wouldComeNow_19 ?_
  refine lv_aload_n hx hb dX10_wouldComeNow_20 rfl (lv_at hl 0 rfl) ?_
  obtain ⟨a13, e14, h⟩ := ob_ h
  refine g_RX10_15 C T e14 dX10_wouldComeNow_21 ?_
  refine lv_iconst (v := 5) hx hb dX10_wouldComeNow_24 (by decide) ?_
  obtain ⟨v15, e16, h⟩ := ob_ h
  refine th_ialdn C T e16 (by decide) (by decide) dX10_wouldComeNow_25 ?_
  obtain ⟨k17, h⟩ := oc_ h
  obtain ⟨v18, μ19, e20, h⟩ := ob2 h
  refine th_callV (As := [.int x1, .int v7, .int v11, .int v15]) (rest := []) C T (c_X10_wouldCome e20) k_RX10_172 10 rfl rfl (by decide) k17 rfl hl.1 rfl (st1 := [.int v18]) rfl (cells1 := 0) rfl (slots1 := 0) rfl (Nat.le_of_ble_eq_true rfl) ⟨Nat.le_of_ble_eq_true rfl, Nat.le_of_ble_eq_true rfl⟩ ⟨Nat.le_of_ble_eq_true rfl, Nat.le_of_ble_eq_true rfl⟩ dX10_wouldComeNow_26 (fun H locs T => ?_)
  obtain ⟨g21, h⟩ := ogg h
  obtain ⟨rfl, rfl⟩ := os2 h
  exact th_zret hQ C hr hk T (Nat.le_of_ble_eq_true rfl) (Nat.le_of_ble_eq_true rfl) dX10_wouldComeNow_29 (by show Value.int _ = _; rw [g21])
set_option maxRecDepth 100000 in
set_option maxHeartbeats 4000000 in
theorem c_X10_owed {l : Launch} {G : th_G} {σ : th_S} {μ : th_M} {t : Nat} {x1 : Int32} {x2 : Int32} {r : Int32} {μ' : th_M} (h : f_X10_owed σ μ t x1 x2 = some (r, μ')) : th_Met l G yX10_owed cX10_owed 4 (some FieldType.int) { frames := 4, cells := 0, slots := 0, locals := 125 } [.ref t, .int x1, .int x2] σ μ (some (.int r)) σ μ' := by
  refine th_ofW (by decide +kernel) (Nat.le_of_ble_eq_true rfl) ?_
  intro p e s m args below meth c ls Q hQ C hr hk hnm T hl
  have hx := C.1
  have hb := C.2.1
  have C : CallFix p m c cX10_owed 4 s args th_ws RX10 := C
  have hl : lv_has ls 4 [(0, .ref t), (1, .int x1), (2, .int x2)] := hl
  unfold f_X10_owed at h
  refine lv_aload_n hx hb dX10_owed_0 rfl (lv_at hl 0 rfl) ?_
  refine lv_iload_n hx hb dX10_owed_1 rfl (lv_at hl 1 rfl) ?_
  refine lv_aload_n hx hb dX10_owed_2 rfl (lv_at hl 0 rfl) ?_
  obtain ⟨a1, e2, h⟩ := ob_ h
  refine g_RX10_11 C T e2 dX10_owed_3 ?_
  refine lv_iload_n hx hb dX10_owed_6 rfl (lv_at hl 1 rfl) ?_
  obtain ⟨a3, e4, h⟩ := ob_ h
  refine th_aald C T 13 e4 (by decide) rfl dX10_owed_7 ?_
  obtain ⟨a5, e6, h⟩ := ob_ h
  refine g_RX10_102 C T e6 dX10_owed_8 ?_
  refine lv_iconst (v := 0) hx hb dX10_owed_11 (by decide) ?_
  obtain ⟨v7, e8, h⟩ := ob_ h
  refine th_ialdn C T e8 (by decide) (by decide) dX10_owed_12 ?_
  refine lv_iload_n hx hb dX10_owed_13 rfl (lv_at hl 2 rfl) ?_
  refine lv_aload_n hx hb dX10_owed_14 rfl (lv_at hl 0 rfl) ?_
  obtain ⟨a9, e10, h⟩ := ob_ h
  refine g_RX10_15 C T e10 dX10_owed_15 ?_
  refine lv_iconst (v := 5) hx hb dX10_owed_18 (by decide) ?_
  obtain ⟨v11, e12, h⟩ := ob_ h
  refine th_ialdn C T e12 (by decide) (by decide) dX10_owed_19 ?_
  obtain ⟨k13, h⟩ := oc_ h
  obtain ⟨μ14, e15, h⟩ := ob_ h
  refine th_callV (As := [.int x1, .int v7, .int x2, .int v11]) (rest := []) C T (c_X10_nameAll e15) k_RX10_182 10 rfl rfl (by decide) k13 rfl hl.1 rfl (st1 := []) rfl (cells1 := 0) rfl (slots1 := 0) rfl (Nat.le_of_ble_eq_true rfl) ⟨Nat.le_of_ble_eq_true rfl, Nat.le_of_ble_eq_true rfl⟩ ⟨Nat.le_of_ble_eq_true rfl, Nat.le_of_ble_eq_true rfl⟩ dX10_owed_20 (fun H locs T => ?_)
  refine lv_iconst (v := 0) hx hb dX10_owed_23 (by decide) ?_
  refine lv_bipush (v := 99) hx hb dX10_owed_24 (by decide) ?_
  refine lv_aload_n hx hb dX10_owed_26 rfl (lv_at hl 0 rfl) ?_
  obtain ⟨a16, e17, h⟩ := ob_ h
  refine th_callV (As := []) (rest := [.int 99, .int 0]) C T (c_X10_rule e17) k_RX10_186 10 rfl rfl (by decide) k13 rfl hl.1 rfl (st1 := [.ref a16, .int 99, .int 0]) rfl (cells1 := 0) rfl (slots1 := 0) rfl (Nat.le_of_ble_eq_true rfl) ⟨Nat.le_of_ble_eq_true rfl, Nat.le_of_ble_eq_true rfl⟩ ⟨Nat.le_of_ble_eq_true rfl, Nat.le_of_ble_eq_true rfl⟩ dX10_owed_27 (fun H locs T => ?_)
  refine lv_iconst (v := 0) hx hb dX10_owed_30 (by decide) ?_
  refine lv_aload_n hx hb dX10_owed_31 rfl (lv_at hl 0 rfl) ?_
  obtain ⟨a18, e19, h⟩ := ob_ h
  refine g_RX10_39 C T e19 dX10_owed_32 ?_
  obtain ⟨k20, h⟩ := oc_ h
  obtain ⟨v21, μ22, e23, h⟩ := ob2 h
  refine th_callV (As := [.int 0, .ref a18]) (rest := [.int 99, .int 0]) C T (c_X5_value e23) k_RX10_189 5 rfl rfl (by decide) k20 rfl hl.1 rfl (st1 := [.int v21, .int 99, .int 0]) rfl (cells1 := 0) rfl (slots1 := 0) rfl (Nat.le_of_ble_eq_true rfl) ⟨Nat.le_of_ble_eq_true rfl, Nat.le_of_ble_eq_true rfl⟩ ⟨Nat.le_of_ble_eq_true rfl, Nat.le_of_ble_eq_true rfl⟩ dX10_owed_35 (fun H locs T => ?_)
  refine th_min C hl.1 w_567 w_271 w_11 w_272 (Nat.le_of_ble_eq_true rfl) (Nat.le_of_ble_eq_true rfl) (Nat.zero_le _) (Nat.zero_le _) dX10_owed_38 ?_
  refine th_max C hl.1 w_568 w_478 w_11 w_479 (Nat.le_of_ble_eq_true rfl) (Nat.le_of_ble_eq_true rfl) (Nat.zero_le _) (Nat.zero_le _) dX10_owed_41 ?_
  refine lv_istore_n (lv' := [(3, .int (jmax 0 (jmin 99 v21))), (0, .ref t), (1, .int x1), (2, .int x2)]) hx hb dX10_owed_44 rfl hl (by decide) rfl (fun ls hl => ?_)
  refine lv_aload_n hx hb dX10_owed_45 rfl (lv_at hl 1 rfl) ?_
  obtain ⟨a24, e25, h⟩ := ob_ h
  refine g_RX10_11 C T e25 dX10_owed_46 ?_
  refine lv_iload_n hx hb dX10_owed_49 rfl (lv_at hl 2 rfl) ?_
  obtain ⟨a26, e27, h⟩ := ob_ h
  refine th_aald C T 13 e27 (by decide) rfl dX10_owed_50 ?_
  refine lv_iconst (v := 0) hx hb dX10_owed_51 (by decide) ?_
  refine lv_iload_n hx hb dX10_owed_52 rfl (lv_at hl 3 rfl) ?_
  refine lv_aload_n hx hb dX10_owed_53 rfl (lv_at hl 1 rfl) ?_
  obtain ⟨a28, e29, h⟩ := ob_ h
  refine g_RX10_11 C T e29 dX10_owed_54 ?_
  refine lv_iload_n hx hb dX10_owed_57 rfl (lv_at hl 2 rfl) ?_
  obtain ⟨a30, e31, h⟩ := ob_ h
  refine th_aald C T 13 e31 (by decide) rfl dX10_owed_58 ?_
  obtain ⟨v32, e33, h⟩ := ob_ h
  refine vc_RX10_152 (rest := [.int x2, .int 0, .ref a26]) C T e33 hl.1 (st1 := [.int v32, .int x2, .int 0, .ref a26]) rfl (Nat.le_of_ble_eq_true rfl) ⟨Nat.le_of_ble_eq_true rfl, Nat.le_of_ble_eq_true rfl⟩ ⟨Nat.le_of_ble_eq_true rfl, Nat.le_of_ble_eq_true rfl⟩ dX10_owed_59 (fun H locs T => ?_)
  refine lv_isub hx hb dX10_owed_62 ?_
  refine th_max C hl.1 w_568 w_478 w_11 w_479 (Nat.le_of_ble_eq_true rfl) (Nat.le_of_ble_eq_true rfl) (Nat.zero_le _) (Nat.zero_le _) dX10_owed_63 ?_
  refine lv_iload_n hx hb dX10_owed_66 rfl (lv_at hl 0 rfl) ?_
  obtain ⟨v34, e35, h⟩ := ob_ h
  refine vc_RX10_199 (rest := []) C T e35 hl.1 (st1 := [.int v34]) rfl (Nat.le_of_ble_eq_true rfl) ⟨Nat.le_of_ble_eq_true rfl, Nat.le_of_ble_eq_true rfl⟩ ⟨Nat.le_of_ble_eq_true rfl, Nat.le_of_ble_eq_true rfl⟩ dX10_owed_67 (fun H locs T => ?_)
  obtain ⟨rfl, rfl⟩ := os2 h
  exact th_iret hQ C hr hk T (Nat.le_of_ble_eq_true rfl) (Nat.le_of_ble_eq_true rfl) dX10_owed_70
set_option maxRecDepth 100000 in
set_option maxHeartbeats 4000000 in
theorem c_X10_told {l : Launch} {G : th_G} {σ : th_S} {μ : th_M} {t : Nat} {x1 : Int32} {x2 : Int32} {r : Int32} {μ' : th_M} (h : f_X10_told σ μ t x1 x2 = some (r, μ')) : th_Met l G yX10_told cX10_told 4 (some FieldType.int) { frames := 6, cells := 0, slots := 0, locals := 170 } [.ref t, .int x1, .int x2] σ μ (some (.int r)) σ μ' := by
  refine th_ofW (by decide +kernel) (Nat.le_of_ble_eq_true rfl) ?_
  intro p e s m args below meth c ls Q hQ C hr hk hnm T hl
  have hx := C.1
  have hb := C.2.1
  have C : CallFix p m c cX10_told 4 s args th_ws RX10 := C
  have hl : lv_has ls 4 [(0, .ref t), (1, .int x1), (2, .int x2)] := hl
  unfold f_X10_told at h
  refine lv_aload_n hx hb dX10_told_0 rfl (lv_at hl 0 rfl) ?_
  refine lv_iload_n hx hb dX10_told_1 rfl (lv_at hl 1 rfl) ?_
  obtain ⟨k1, h⟩ := oc_ h
  obtain ⟨v2, e3, h⟩ := ob_ h
  refine th_callV (As := [.int x1]) (rest := []) C T (c_X10_isBoat e3) k_RX10_99 10 rfl rfl (by decide) k1 rfl hl.1 rfl (st1 := [.int v2]) rfl (cells1 := 0) rfl (slots1 := 0) rfl (Nat.le_of_ble_eq_true rfl) ⟨Nat.le_of_ble_eq_true rfl, Nat.le_of_ble_eq_true rfl⟩ ⟨Nat.le_of_ble_eq_true rfl, Nat.le_of_ble_eq_true rfl⟩ dX10_told_2 (fun H locs T => ?_)
  refine lv_if_ne (tgt := 11) hx hb dX10_told_5 (by decide) (fun c4 => ?_) (fun c4 => ?_)
  · replace h := of_ c4 h
    refine lv_aload_n hx hb dX10_told_11 rfl (lv_at hl 0 rfl) ?_
    obtain ⟨a5, e6, h⟩ := ob_ h
    refine g_RX10_11 C T e6 dX10_told_12 ?_
    refine lv_iload_n hx hb dX10_told_15 rfl (lv_at hl 1 rfl) ?_
    obtain ⟨a7, e8, h⟩ := ob_ h
    refine th_aald C T 13 e8 (by decide) rfl dX10_told_16 ?_
    refine lv_astore_n (lv' := [(3, .ref a7), (0, .ref t), (1, .int x1), (2, .int x2)]) hx hb dX10_told_17 rfl hl (by decide) rfl (fun ls hl => ?_)
    refine lv_iload_n hx hb dX10_told_18 rfl (lv_at hl 3 rfl) ?_
    by_cases c9 : x2 = 0
    · replace h := ot_ c9 h
      refine th_tabIn (off := 57) (tgt := 76) C 0 c9 dX10_told_19 (by decide) (by decide) (by decide) (by decide) ?_
      refine lv_aload_n hx hb dX10_told_76 rfl (lv_at hl 0 rfl) ?_
      obtain ⟨a10, e11, h⟩ := ob_ h
      refine g_RX10_102 C T e11 dX10_told_77 ?_
      refine lv_iconst (v := 0) hx hb dX10_told_80 (by decide) ?_
      obtain ⟨v12, e13, h⟩ := ob_ h
      refine th_ialdn C T e13 (by decide) (by decide) dX10_told_81 ?_
      obtain ⟨rfl, rfl⟩ := os2 h
      exact th_iret hQ C hr hk T (Nat.le_of_ble_eq_true rfl) (Nat.le_of_ble_eq_true rfl) dX10_told_82
    replace h := of_ c9 h
    by_cases c14 : x2 = 1
    · replace h := ot_ c14 h
      refine th_tabIn (off := 64) (tgt := 83) C 1 c14 dX10_told_19 (by decide) (by decide) (by decide) (by decide) ?_
      refine lv_aload_n hx hb dX10_told_83 rfl (lv_at hl 0 rfl) ?_
      obtain ⟨a15, e16, h⟩ := ob_ h
      refine g_RX10_102 C T e16 dX10_told_84 ?_
      refine lv_iconst (v := 1) hx hb dX10_told_87 (by decide) ?_
      obtain ⟨v17, e18, h⟩ := ob_ h
      refine th_ialdn C T e18 (by decide) (by decide) dX10_told_88 ?_
      obtain ⟨rfl, rfl⟩ := os2 h
      exact th_iret hQ C hr hk T (Nat.le_of_ble_eq_true rfl) (Nat.le_of_ble_eq_true rfl) dX10_told_89
    replace h := of_ c14 h
    by_cases c19 : x2 = 2
    · replace h := ot_ c19 h
      refine th_tabIn (off := 71) (tgt := 90) C 2 c19 dX10_told_19 (by decide) (by decide) (by decide) (by decide) ?_
      refine lv_aload_n hx hb dX10_told_90 rfl (lv_at hl 0 rfl) ?_
      obtain ⟨a20, e21, h⟩ := ob_ h
      refine g_RX10_102 C T e21 dX10_told_91 ?_
      refine lv_iconst (v := 2) hx hb dX10_told_94 (by decide) ?_
      obtain ⟨v22, e23, h⟩ := ob_ h
      refine th_ialdn C T e23 (by decide) (by decide) dX10_told_95 ?_
      obtain ⟨rfl, rfl⟩ := os2 h
      exact th_iret hQ C hr hk T (Nat.le_of_ble_eq_true rfl) (Nat.le_of_ble_eq_true rfl) dX10_told_96
    replace h := of_ c19 h
    by_cases c24 : x2 = 3
    · replace h := ot_ c24 h
      refine th_tabIn (off := 78) (tgt := 97) C 3 c24 dX10_told_19 (by decide) (by decide) (by decide) (by decide) ?_
      refine lv_aload_n hx hb dX10_told_97 rfl (lv_at hl 0 rfl) ?_
      obtain ⟨a25, e26, h⟩ := ob_ h
      refine g_RX10_102 C T e26 dX10_told_98 ?_
      refine lv_iconst (v := 3) hx hb dX10_told_101 (by decide) ?_
      obtain ⟨v27, e28, h⟩ := ob_ h
      refine th_ialdn C T e28 (by decide) (by decide) dX10_told_102 ?_
      obtain ⟨rfl, rfl⟩ := os2 h
      exact th_iret hQ C hr hk T (Nat.le_of_ble_eq_true rfl) (Nat.le_of_ble_eq_true rfl) dX10_told_103
    replace h := of_ c24 h
    by_cases c29 : x2 = 4
    · replace h := ot_ c29 h
      refine th_tabIn (off := 85) (tgt := 104) C 4 c29 dX10_told_19 (by decide) (by decide) (by decide) (by decide) ?_
      refine lv_aload_n hx hb dX10_told_104 rfl (lv_at hl 0 rfl) ?_
      obtain ⟨v30, e31, h⟩ := ob_ h
      refine vc_RX10_105 (rest := []) C T e31 hl.1 (st1 := [.int v30]) rfl (Nat.le_of_ble_eq_true rfl) ⟨Nat.le_of_ble_eq_true rfl, Nat.le_of_ble_eq_true rfl⟩ ⟨Nat.le_of_ble_eq_true rfl, Nat.le_of_ble_eq_true rfl⟩ dX10_told_105 (fun H locs T => ?_)
      obtain ⟨rfl, rfl⟩ := os2 h
      exact th_iret hQ C hr hk T (Nat.le_of_ble_eq_true rfl) (Nat.le_of_ble_eq_true rfl) dX10_told_108
    replace h := of_ c29 h
    by_cases c32 : x2 = 5
    · replace h := ot_ c32 h
      refine th_tabIn (off := 90) (tgt := 109) C 5 c32 dX10_told_19 (by decide) (by decide) (by decide) (by decide) ?_
      refine lv_aload_n hx hb dX10_told_109 rfl (lv_at hl 0 rfl) ?_
      obtain ⟨a33, e34, h⟩ := ob_ h
      refine g_RX10_102 C T e34 dX10_told_110 ?_
      refine lv_iconst (v := 4) hx hb dX10_told_113 (by decide) ?_
      obtain ⟨v35, e36, h⟩ := ob_ h
      refine th_ialdn C T e36 (by decide) (by decide) dX10_told_114 ?_
      obtain ⟨rfl, rfl⟩ := os2 h
      exact th_iret hQ C hr hk T (Nat.le_of_ble_eq_true rfl) (Nat.le_of_ble_eq_true rfl) dX10_told_115
    replace h := of_ c32 h
    by_cases c37 : x2 = 6
    · replace h := ot_ c37 h
      refine th_tabIn (off := 97) (tgt := 116) C 6 c37 dX10_told_19 (by decide) (by decide) (by decide) (by decide) ?_
      refine lv_aload_n hx hb dX10_told_116 rfl (lv_at hl 0 rfl) ?_
      obtain ⟨a38, e39, h⟩ := ob_ h
      refine g_RX10_102 C T e39 dX10_told_117 ?_
      refine lv_iconst (v := 5) hx hb dX10_told_120 (by decide) ?_
      obtain ⟨v40, e41, h⟩ := ob_ h
      refine th_ialdn C T e41 (by decide) (by decide) dX10_told_121 ?_
      obtain ⟨rfl, rfl⟩ := os2 h
      exact th_iret hQ C hr hk T (Nat.le_of_ble_eq_true rfl) (Nat.le_of_ble_eq_true rfl) dX10_told_122
    replace h := of_ c37 h
    by_cases c42 : x2 = 7
    · replace h := ot_ c42 h
      refine th_tabIn (off := 104) (tgt := 123) C 7 c42 dX10_told_19 (by decide) (by decide) (by decide) (by decide) ?_
      refine lv_aload_n hx hb dX10_told_123 rfl (lv_at hl 0 rfl) ?_
      refine lv_aload_n hx hb dX10_told_124 rfl (lv_at hl 1 rfl) ?_
      obtain ⟨a43, e44, h⟩ := ob_ h
      refine g_RX10_15 C T e44 dX10_told_125 ?_
      refine lv_iconst (v := 5) hx hb dX10_told_128 (by decide) ?_
      obtain ⟨v45, e46, h⟩ := ob_ h
      refine th_ialdn C T e46 (by decide) (by decide) dX10_told_129 ?_
      obtain ⟨v47, e48, h⟩ := ob_ h
      refine vc_RX10_108 (rest := []) C T e48 hl.1 (st1 := [.int v47]) rfl (Nat.le_of_ble_eq_true rfl) ⟨Nat.le_of_ble_eq_true rfl, Nat.le_of_ble_eq_true rfl⟩ ⟨Nat.le_of_ble_eq_true rfl, Nat.le_of_ble_eq_true rfl⟩ dX10_told_130 (fun H locs T => ?_)
      obtain ⟨rfl, rfl⟩ := os2 h
      exact th_iret hQ C hr hk T (Nat.le_of_ble_eq_true rfl) (Nat.le_of_ble_eq_true rfl) dX10_told_133
    replace h := of_ c42 h
    by_cases c49 : x2 = 8
    · replace h := ot_ c49 h
      refine th_tabIn (off := 115) (tgt := 134) C 8 c49 dX10_told_19 (by decide) (by decide) (by decide) (by decide) ?_
      refine lv_aload_n hx hb dX10_told_134 rfl (lv_at hl 0 rfl) ?_
      refine lv_aload_n hx hb dX10_told_135 rfl (lv_at hl 1 rfl) ?_
      obtain ⟨a50, e51, h⟩ := ob_ h
      refine g_RX10_15 C T e51 dX10_told_136 ?_
      refine lv_iconst (v := 5) hx hb dX10_told_139 (by decide) ?_
      obtain ⟨v52, e53, h⟩ := ob_ h
      refine th_ialdn C T e53 (by decide) (by decide) dX10_told_140 ?_
      obtain ⟨v54, e55, h⟩ := ob_ h
      refine vc_RX10_112 (rest := []) C T e55 hl.1 (st1 := [.int v54]) rfl (Nat.le_of_ble_eq_true rfl) ⟨Nat.le_of_ble_eq_true rfl, Nat.le_of_ble_eq_true rfl⟩ ⟨Nat.le_of_ble_eq_true rfl, Nat.le_of_ble_eq_true rfl⟩ dX10_told_141 (fun H locs T => ?_)
      obtain ⟨rfl, rfl⟩ := os2 h
      exact th_iret hQ C hr hk T (Nat.le_of_ble_eq_true rfl) (Nat.le_of_ble_eq_true rfl) dX10_told_144
    replace h := of_ c49 h
    by_cases c56 : x2 = 9
    · replace h := ot_ c56 h
      refine th_tabIn (off := 126) (tgt := 145) C 9 c56 dX10_told_19 (by decide) (by decide) (by decide) (by decide) ?_
      refine lv_aload_n hx hb dX10_told_145 rfl (lv_at hl 1 rfl) ?_
      refine lv_iload_n hx hb dX10_told_146 rfl (lv_at hl 2 rfl) ?_
      obtain ⟨v57, μ58, e59, h⟩ := ob2 h
      refine th_callV (As := [.int x1]) (rest := []) C T (c_X10_wouldComeNow e59) k_RX10_115 10 rfl rfl (by decide) k1 rfl hl.1 rfl (st1 := [.int v57]) rfl (cells1 := 0) rfl (slots1 := 0) rfl (Nat.le_of_ble_eq_true rfl) ⟨Nat.le_of_ble_eq_true rfl, Nat.le_of_ble_eq_true rfl⟩ ⟨Nat.le_of_ble_eq_true rfl, Nat.le_of_ble_eq_true rfl⟩ dX10_told_147 (fun H locs T => ?_)
      refine lv_if_eq (tgt := 157) hx hb dX10_told_150 (by decide) (fun c60 => ?_) (fun c60 => ?_)
      · replace h := ot_ c60 h
        refine lv_iconst (v := 0) hx hb dX10_told_157 (by decide) ?_
        obtain ⟨rfl, rfl⟩ := os2 h
        exact th_iret hQ C hr hk T (Nat.le_of_ble_eq_true rfl) (Nat.le_of_ble_eq_true rfl) dX10_told_158
      · replace h := of_ c60 h
        refine lv_iconst (v := 1) hx hb dX10_told_153 (by decide) ?_
        refine lv_goto (tgt := 158) hx hb dX10_told_154 (by decide) ?_
        obtain ⟨rfl, rfl⟩ := os2 h
        exact th_iret hQ C hr hk T (Nat.le_of_ble_eq_true rfl) (Nat.le_of_ble_eq_true rfl) dX10_told_158
    replace h := of_ c56 h
    by_cases c61 : x2 = 10
    · replace h := ot_ c61 h
      refine th_tabIn (off := 140) (tgt := 159) C 10 c61 dX10_told_19 (by decide) (by decide) (by decide) (by decide) ?_
      refine lv_aload_n hx hb dX10_told_159 rfl (lv_at hl 1 rfl) ?_
      refine lv_iload_n hx hb dX10_told_160 rfl (lv_at hl 2 rfl) ?_
      refine lv_aload_n hx hb dX10_told_161 rfl (lv_at hl 1 rfl) ?_
      obtain ⟨a62, e63, h⟩ := ob_ h
      refine g_RX10_15 C T e63 dX10_told_162 ?_
      refine lv_bipush (v := 9) hx hb dX10_told_165 (by decide) ?_
      obtain ⟨v64, e65, h⟩ := ob_ h
      refine th_ialdn C T e65 (by decide) (by decide) dX10_told_167 ?_
      obtain ⟨v66, μ67, e68, h⟩ := ob2 h
      refine th_callV (As := [.int x1, .int v64]) (rest := []) C T (c_X10_owed e68) k_RX10_118 10 rfl rfl (by decide) k1 rfl hl.1 rfl (st1 := [.int v66]) rfl (cells1 := 0) rfl (slots1 := 0) rfl (Nat.le_of_ble_eq_true rfl) ⟨Nat.le_of_ble_eq_true rfl, Nat.le_of_ble_eq_true rfl⟩ ⟨Nat.le_of_ble_eq_true rfl, Nat.le_of_ble_eq_true rfl⟩ dX10_told_168 (fun H locs T => ?_)
      obtain ⟨rfl, rfl⟩ := os2 h
      exact th_iret hQ C hr hk T (Nat.le_of_ble_eq_true rfl) (Nat.le_of_ble_eq_true rfl) dX10_told_171
    replace h := of_ c61 h
    have n69 := th_ne (n := 0) c9 (by decide)
    have n70 := th_ne (n := 1) c14 (by decide)
    have n71 := th_ne (n := 2) c19 (by decide)
    have n72 := th_ne (n := 3) c24 (by decide)
    have n73 := th_ne (n := 4) c29 (by decide)
    have n74 := th_ne (n := 5) c32 (by decide)
    have n75 := th_ne (n := 6) c37 (by decide)
    have n76 := th_ne (n := 7) c42 (by decide)
    have n77 := th_ne (n := 8) c49 (by decide)
    have n78 := th_ne (n := 9) c56 (by decide)
    have n79 := th_ne (n := 10) c61 (by decide)
    refine lv_tableOut (tgt := 172) hx hb dX10_told_19 (by omega) (by decide) ?_
    refine lv_bipush (v := -2) hx hb dX10_told_172 (by decide) ?_
    obtain ⟨rfl, rfl⟩ := os2 h
    exact th_iret hQ C hr hk T (Nat.le_of_ble_eq_true rfl) (Nat.le_of_ble_eq_true rfl) dX10_told_174
  · replace h := ot_ c4 h
    refine lv_bipush (v := -2) hx hb dX10_told_8 (by decide) ?_
    obtain ⟨rfl, rfl⟩ := os2 h
    exact th_iret hQ C hr hk T (Nat.le_of_ble_eq_true rfl) (Nat.le_of_ble_eq_true rfl) dX10_told_10
set_option maxRecDepth 100000 in
set_option maxHeartbeats 4000000 in
theorem c_X10_feed {l : Launch} {G : th_G} {σ : th_S} {μ : th_M} {t : Nat} {x1 : Int32} {r : Int32} {μ' : th_M} (h : f_X10_feed σ μ t x1 = some (r, μ')) : th_Met l G yX10_feed cX10_feed 2 (some FieldType.int) { frames := 1, cells := 0, slots := 0, locals := 21 } [.ref t, .int x1] σ μ (some (.int r)) σ μ' := by
  refine th_ofW (by decide +kernel) (Nat.le_of_ble_eq_true rfl) ?_
  intro p e s m args below meth c ls Q hQ C hr hk hnm T hl
  have hx := C.1
  have hb := C.2.1
  have C : CallFix p m c cX10_feed 2 s args th_ws RX10 := C
  have hl : lv_has ls 2 [(0, .ref t), (1, .int x1)] := hl
  unfold f_X10_feed at h
  refine lv_iload_n hx hb dX10_feed_0 rfl (lv_at hl 1 rfl) ?_
  refine lv_if_lt (tgt := 11) hx hb dX10_feed_1 (by decide) (fun c1 => ?_) (fun c1 => ?_)
  · replace h := ot_ c1 h
    refine lv_bipush (v := -2) hx hb dX10_feed_11 (by decide) ?_
    obtain ⟨rfl, rfl⟩ := os2 h
    exact th_iret hQ C hr hk T (Nat.le_of_ble_eq_true rfl) (Nat.le_of_ble_eq_true rfl) dX10_feed_13
  · replace h := of_ c1 h
    refine lv_iload_n hx hb dX10_feed_4 rfl (lv_at hl 1 rfl) ?_
    refine lv_sipush (v := 255) hx hb dX10_feed_5 (by decide) ?_
    refine lv_icmp_le (tgt := 14) hx hb dX10_feed_8 (by decide) (fun c2 => ?_) (fun c2 => ?_)
    · replace h := ot_ c2 h
      refine lv_aload_n hx hb dX10_feed_14 rfl (lv_at hl 0 rfl) ?_
      obtain ⟨a3, e4, h⟩ := ob_ h
      refine g_RX10_29 C T e4 dX10_feed_15 ?_
      refine lv_iload_n hx hb dX10_feed_18 rfl (lv_at hl 1 rfl) ?_
      obtain ⟨k5, h⟩ := oc_ h
      obtain ⟨v6, μ7, e8, h⟩ := ob2 h
      refine th_callV (As := [.int x1]) (rest := []) C T (c_X8_add e8) k_RX10_71 8 rfl rfl (by decide) k5 rfl hl.1 rfl (st1 := [.int v6]) rfl (cells1 := 0) rfl (slots1 := 0) rfl (Nat.le_of_ble_eq_true rfl) ⟨Nat.le_of_ble_eq_true rfl, Nat.le_of_ble_eq_true rfl⟩ ⟨Nat.le_of_ble_eq_true rfl, Nat.le_of_ble_eq_true rfl⟩ dX10_feed_19 (fun H locs T => ?_)
      refine lv_if_eq (tgt := 35) hx hb dX10_feed_22 (by decide) (fun c9 => ?_) (fun c9 => ?_)
      · replace h := ot_ c9 h
        refine lv_bipush (v := -4) hx hb dX10_feed_35 (by decide) ?_
        obtain ⟨rfl, rfl⟩ := os2 h
        exact th_iret hQ C hr hk T (Nat.le_of_ble_eq_true rfl) (Nat.le_of_ble_eq_true rfl) dX10_feed_37
      · replace h := of_ c9 h
        refine lv_aload_n hx hb dX10_feed_25 rfl (lv_at hl 0 rfl) ?_
        obtain ⟨a10, e11, h⟩ := ob_ h
        refine g_RX10_29 C T e11 dX10_feed_26 ?_
        obtain ⟨v12, e13, h⟩ := ob_ h
        refine g_RX10_146 C T e13 dX10_feed_29 ?_
        refine lv_goto (tgt := 37) hx hb dX10_feed_32 (by decide) ?_
        obtain ⟨rfl, rfl⟩ := os2 h
        exact th_iret hQ C hr hk T (Nat.le_of_ble_eq_true rfl) (Nat.le_of_ble_eq_true rfl) dX10_feed_37
    · replace h := of_ c2 h
      refine lv_bipush (v := -2) hx hb dX10_feed_11 (by decide) ?_
      obtain ⟨rfl, rfl⟩ := os2 h
      exact th_iret hQ C hr hk T (Nat.le_of_ble_eq_true rfl) (Nat.le_of_ble_eq_true rfl) dX10_feed_13
set_option maxRecDepth 100000 in
set_option maxHeartbeats 4000000 in
theorem c_X10_text {l : Launch} {G : th_G} {σ : th_S} {μ : th_M} {t : Nat} {r : Int32} {σ' : th_S} {μ' : th_M} (h : f_X10_text σ μ t = some (r, σ', μ')) : th_Met l G yX10_text cX10_text 2 (some FieldType.int) { frames := 76, cells := 4, slots := 435, locals := 1881 } [.ref t] σ μ (some (.int r)) σ' μ' := by
  refine th_ofW (by decide +kernel) (Nat.le_of_ble_eq_true rfl) ?_
  intro p e s m args below meth c ls Q hQ C hr hk hnm T hl
  have hx := C.1
  have hb := C.2.1
  have C : CallFix p m c cX10_text 2 s args th_ws RX10 := C
  have hl : lv_has ls 2 [(0, .ref t)] := hl
  have J51 : ∀ (cN sN : Nat), cN ≤ 4 → sN ≤ 435 → ∀ (σ : th_S) (μ : th_M) (t : Nat) (x1 : Int32) (H : Heap) (locs : List Loc) (ls : Array Slot), th_R G s H locs σ μ → lv_has ls 2 [(0, .ref t), (1, .int x1)] → f_X10_text_b51 σ μ t x1 = some (r, σ', μ') → W p l e { frames := 76, cells := 4, slots := 435, locals := 1881 } s m args below meth c H locs cN sN Q (F0 m 51 ls []) := by
    intro cN sN hcN hsN σ μ t x1 H locs ls T hl h
    unfold f_X10_text_b51 at h
    refine lv_aload_n hx hb dX10_text_51 rfl (lv_at hl 0 rfl) ?_
    obtain ⟨a1, e2, h⟩ := ob_ h
    refine g_RX10_29 C T e2 dX10_text_52 ?_
    obtain ⟨k3, h⟩ := oc_ h
    obtain ⟨μ4, e5, h⟩ := ob_ h
    refine th_callV (As := []) (rest := []) C T (c_X8_empty e5) k_RX10_85 8 rfl rfl (by decide) k3 rfl hl.1 rfl (st1 := []) rfl (cells1 := cN) rfl (slots1 := sN) rfl (Nat.le_of_ble_eq_true rfl) ⟨Nat.le_of_ble_eq_true rfl, Nat.le_of_ble_eq_true rfl⟩ ⟨show cN + 0 ≤ 4 by omega, show sN + 0 ≤ 435 by omega⟩ dX10_text_55 (fun H locs T => ?_)
    refine lv_iload_n hx hb dX10_text_58 rfl (lv_at hl 1 rfl) ?_
    refine lv_iconst (v := -1) hx hb dX10_text_59 (by decide) ?_
    refine lv_icmp_ne (tgt := 72) hx hb dX10_text_60 (by decide) (fun c6 => ?_) (fun c6 => ?_)
    · replace h := of_ c6 h
      refine lv_bipush (v := -100) hx hb dX10_text_72 (by decide) ?_
      refine lv_iload_n hx hb dX10_text_74 rfl (lv_at hl 1 rfl) ?_
      refine lv_isub hx hb dX10_text_75 ?_
      obtain ⟨rfl, rfl, rfl⟩ := os3 h
      exact th_iret hQ C hr hk T (show cN ≤ 4 by omega) (show sN ≤ 435 by omega) dX10_text_76
    · replace h := ot_ c6 h
      refine lv_aload_n hx hb dX10_text_63 rfl (lv_at hl 0 rfl) ?_
      obtain ⟨v7, e8, h⟩ := ob_ h
      refine g_RX10_82 C T e8 dX10_text_64 ?_
      refine lv_iconst (v := 1) hx hb dX10_text_67 (by decide) ?_
      refine lv_isub hx hb dX10_text_68 ?_
      refine lv_goto (tgt := 76) hx hb dX10_text_69 (by decide) ?_
      obtain ⟨rfl, rfl, rfl⟩ := os3 h
      exact th_iret hQ C hr hk T (show cN ≤ 4 by omega) (show sN ≤ 435 by omega) dX10_text_76
  unfold f_X10_text at h
  refine lv_aload_n hx hb dX10_text_0 rfl (lv_at hl 0 rfl) ?_
  obtain ⟨v1, e2, h⟩ := ob_ h
  refine g_RX10_82 C T e2 dX10_text_1 ?_
  refine lv_bipush (v := 6) hx hb dX10_text_4 (by decide) ?_
  refine lv_icmp_lt (tgt := 12) hx hb dX10_text_6 (by decide) (fun c3 => ?_) (fun c3 => ?_)
  · replace h := ot_ c3 h
    refine lv_aload_n hx hb dX10_text_12 rfl (lv_at hl 0 rfl) ?_
    obtain ⟨a4, e5, h⟩ := ob_ h
    refine g_RX10_29 C T e5 dX10_text_13 ?_
    obtain ⟨k6, h⟩ := oc_ h
    obtain ⟨v7, μ8, e9, h⟩ := ob2 h
    refine th_callV (As := []) (rest := []) C T (c_X8_read e9) k_RX10_75 8 rfl rfl (by decide) k6 rfl hl.1 rfl (st1 := [.int v7]) rfl (cells1 := 0) rfl (slots1 := 0) rfl (Nat.le_of_ble_eq_true rfl) ⟨Nat.le_of_ble_eq_true rfl, Nat.le_of_ble_eq_true rfl⟩ ⟨Nat.le_of_ble_eq_true rfl, Nat.le_of_ble_eq_true rfl⟩ dX10_text_16 (fun H locs T => ?_)
    refine lv_istore_n (lv' := [(1, .int v7), (0, .ref t)]) hx hb dX10_text_19 rfl hl (by decide) rfl (fun ls hl => ?_)
    refine lv_iload_n hx hb dX10_text_20 rfl (lv_at hl 0 rfl) ?_
    refine lv_iconst (v := -1) hx hb dX10_text_21 (by decide) ?_
    refine lv_icmp_ne (tgt := 51) hx hb dX10_text_22 (by decide) (fun c10 => ?_) (fun c10 => ?_)
    · replace h := of_ c10 h
      exact J51 0 0 (by omega) (by omega) _ _ _ _ _ _ _ T (lv_sub hl [1, 0] rfl) h
    · replace h := ot_ c10 h
      refine lv_aload_n hx hb dX10_text_25 rfl (lv_at hl 1 rfl) ?_
      obtain ⟨a11, e12, h⟩ := ob_ h
      refine g_RX10_35 C T e12 dX10_text_26 ?_
      refine lv_aload_n hx hb dX10_text_29 rfl (lv_at hl 1 rfl) ?_
      obtain ⟨v13, e14, h⟩ := ob_ h
      refine g_RX10_82 C T e14 dX10_text_30 ?_
      refine lv_aload_n hx hb dX10_text_33 rfl (lv_at hl 1 rfl) ?_
      obtain ⟨a15, e16, h⟩ := ob_ h
      refine g_RX10_29 C T e16 dX10_text_34 ?_
      obtain ⟨k17, h⟩ := oc_ h
      obtain ⟨a18, σ19, μ20, e21, h⟩ := ob3 h
      refine th_callV (As := []) (rest := [.int v13, .ref a11]) C T (c_X8_ruleRead e21) k_RX10_78 8 rfl rfl (by decide) k17 rfl hl.1 rfl (st1 := [.ref a18, .int v13, .ref a11]) rfl (cells1 := 4) rfl (slots1 := 435) rfl (Nat.le_of_ble_eq_true rfl) ⟨Nat.le_of_ble_eq_true rfl, Nat.le_of_ble_eq_true rfl⟩ ⟨Nat.le_of_ble_eq_true rfl, Nat.le_of_ble_eq_true rfl⟩ dX10_text_37 (fun H locs T => ?_)
      obtain ⟨σ22, e23, h⟩ := ob_ h
      refine th_aast C T 14 e23 (by decide) rfl th_cast14 dX10_text_40 (fun H locs T => ?_)
      refine lv_aload_n hx hb dX10_text_41 rfl (lv_at hl 1 rfl) ?_
      refine lv_dup hx hb dX10_text_42 rfl ?_
      obtain ⟨v24, e25, h⟩ := ob_ h
      refine g_RX10_82 C T e25 dX10_text_43 ?_
      refine lv_iconst (v := 1) hx hb dX10_text_46 (by decide) ?_
      refine lv_iadd hx hb dX10_text_47 ?_
      obtain ⟨μ26, e27, h⟩ := ob_ h
      refine p_RX10_82 C T e27 dX10_text_48 (fun H locs T => ?_)
      exact J51 4 435 (by omega) (by omega) _ _ _ _ _ _ _ T (lv_sub hl [1, 0] rfl) h
  · replace h := of_ c3 h
    refine lv_bipush (v := -4) hx hb dX10_text_9 (by decide) ?_
    obtain ⟨rfl, rfl, rfl⟩ := os3 h
    exact th_iret hQ C hr hk T (Nat.le_of_ble_eq_true rfl) (Nat.le_of_ble_eq_true rfl) dX10_text_11
set_option maxRecDepth 100000 in
set_option maxHeartbeats 4000000 in
theorem c_X10_force {l : Launch} {G : th_G} {σ : th_S} {μ : th_M} {t : Nat} {x1 : Int32} {r : Int32} {μ' : th_M} (h : f_X10_force σ μ t x1 = some (r, μ')) : th_Met l G yX10_force cX10_force 3 (some FieldType.int) { frames := 0, cells := 0, slots := 0, locals := 0 } [.ref t, .int x1] σ μ (some (.int r)) σ μ' := by
  refine th_ofW (by decide +kernel) (Nat.le_of_ble_eq_true rfl) ?_
  intro p e s m args below meth c ls Q hQ C hr hk hnm T hl
  have hx := C.1
  have hb := C.2.1
  have C : CallFix p m c cX10_force 3 s args th_ws RX10 := C
  have hl : lv_has ls 3 [(0, .ref t), (1, .int x1)] := hl
  unfold f_X10_force at h
  refine lv_iload_n hx hb dX10_force_0 rfl (lv_at hl 1 rfl) ?_
  refine lv_if_lt (tgt := 12) hx hb dX10_force_1 (by decide) (fun c1 => ?_) (fun c1 => ?_)
  · replace h := ot_ c1 h
    refine lv_bipush (v := -2) hx hb dX10_force_12 (by decide) ?_
    obtain ⟨rfl, rfl⟩ := os2 h
    exact th_iret hQ C hr hk T (Nat.le_of_ble_eq_true rfl) (Nat.le_of_ble_eq_true rfl) dX10_force_14
  · replace h := of_ c1 h
    refine lv_iload_n hx hb dX10_force_4 rfl (lv_at hl 1 rfl) ?_
    refine lv_aload_n hx hb dX10_force_5 rfl (lv_at hl 0 rfl) ?_
    obtain ⟨v2, e3, h⟩ := ob_ h
    refine g_RX10_82 C T e3 dX10_force_6 ?_
    refine lv_icmp_lt (tgt := 15) hx hb dX10_force_9 (by decide) (fun c4 => ?_) (fun c4 => ?_)
    · replace h := ot_ c4 h
      refine lv_aload_n hx hb dX10_force_15 rfl (lv_at hl 0 rfl) ?_
      obtain ⟨a5, e6, h⟩ := ob_ h
      refine g_RX10_15 C T e6 dX10_force_16 ?_
      refine lv_bipush (v := 11) hx hb dX10_force_19 (by decide) ?_
      obtain ⟨v7, e8, h⟩ := ob_ h
      refine th_ialdn C T e8 (by decide) (by decide) dX10_force_21 ?_
      refine lv_istore_n (lv' := [(2, .int v7), (0, .ref t), (1, .int x1)]) hx hb dX10_force_22 rfl hl (by decide) rfl (fun ls hl => ?_)
      refine lv_aload_n hx hb dX10_force_23 rfl (lv_at hl 1 rfl) ?_
      obtain ⟨a9, e10, h⟩ := ob_ h
      refine g_RX10_15 C T e10 dX10_force_24 ?_
      refine lv_bipush (v := 11) hx hb dX10_force_27 (by decide) ?_
      refine lv_iload_n hx hb dX10_force_29 rfl (lv_at hl 2 rfl) ?_
      obtain ⟨μ11, e12, h⟩ := ob_ h
      refine th_iastn C T e12 (by decide) (by decide) dX10_force_30 (fun H locs T => ?_)
      refine lv_iload_n hx hb dX10_force_31 rfl (lv_at hl 0 rfl) ?_
      obtain ⟨rfl, rfl⟩ := os2 h
      exact th_iret hQ C hr hk T (Nat.le_of_ble_eq_true rfl) (Nat.le_of_ble_eq_true rfl) dX10_force_32
    · replace h := of_ c4 h
      refine lv_bipush (v := -2) hx hb dX10_force_12 (by decide) ?_
      obtain ⟨rfl, rfl⟩ := os2 h
      exact th_iret hQ C hr hk T (Nat.le_of_ble_eq_true rfl) (Nat.le_of_ble_eq_true rfl) dX10_force_14
