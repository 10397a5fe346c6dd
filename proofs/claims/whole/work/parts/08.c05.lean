set_option maxRecDepth 100000 in
set_option maxHeartbeats 4000000 in
theorem c_X10_isOnTheLake {l : Launch} {G : th_G} {σ : th_S} {μ : th_M} {t : Nat} {x1 : Int32} {r : Int32} (h : f_X10_isOnTheLake σ μ t x1 = some r) : th_Met l G yX10_isOnTheLake cX10_isOnTheLake 2 (some FieldType.boolean) { frames := 0, cells := 0, slots := 0, locals := 0 } [.ref t, .int x1] σ μ (some (.int r)) σ μ := by
  refine th_ofW (by decide +kernel) (Nat.le_of_ble_eq_true rfl) ?_
  intro p e s m args below meth c ls Q hQ C hr hk hnm T hl
  have hx := C.1
  have hb := C.2.1
  have C : CallFix p m c cX10_isOnTheLake 2 s args th_ws RX10 := C
  have hl : lv_has ls 2 [(0, .ref t), (1, .int x1)] := hl
  unfold f_X10_isOnTheLake at h
  refine lv_aload_n hx hb dX10_isOnTheLake_0 rfl (lv_at hl 0 rfl) ?_
  obtain ⟨a1, e2, h⟩ := ob_ h
  refine g_RX10_11 C T e2 dX10_isOnTheLake_1 ?_
  refine lv_iload_n hx hb dX10_isOnTheLake_4 rfl (lv_at hl 1 rfl) ?_
  obtain ⟨a3, e4, h⟩ := ob_ h
  refine th_aald C T 13 e4 (by decide) rfl dX10_isOnTheLake_5 ?_
  obtain ⟨a5, e6, h⟩ := ob_ h
  refine g_RX10_102 C T e6 dX10_isOnTheLake_6 ?_
  refine lv_iconst (v := 4) hx hb dX10_isOnTheLake_9 (by decide) ?_
  obtain ⟨v7, e8, h⟩ := ob_ h
  refine th_ialdn C T e8 (by decide) (by decide) dX10_isOnTheLake_10 ?_
  refine lv_if_ne (tgt := 18) hx hb dX10_isOnTheLake_11 (by decide) (fun c9 => ?_) (fun c9 => ?_)
  · replace h := of_ c9 h
    refine lv_iconst (v := 0) hx hb dX10_isOnTheLake_18 (by decide) ?_
    obtain rfl := os1 h
    exact th_zret hQ C hr hk T (Nat.le_of_ble_eq_true rfl) (Nat.le_of_ble_eq_true rfl) dX10_isOnTheLake_19 rfl
  · replace h := ot_ c9 h
    refine lv_iconst (v := 1) hx hb dX10_isOnTheLake_14 (by decide) ?_
    refine lv_goto (tgt := 19) hx hb dX10_isOnTheLake_15 (by decide) ?_
    obtain rfl := os1 h
    exact th_zret hQ C hr hk T (Nat.le_of_ble_eq_true rfl) (Nat.le_of_ble_eq_true rfl) dX10_isOnTheLake_19 rfl
set_option maxRecDepth 100000 in
set_option maxHeartbeats 4000000 in
theorem c_X10_needs {l : Launch} {G : th_G} {σ : th_S} {μ : th_M} {t : Nat} {x1 : Int32} {r : Int32} (h : f_X10_needs σ μ t x1 = some r) : th_Met l G yX10_needs cX10_needs 2 (some FieldType.int) { frames := 4, cells := 0, slots := 0, locals := 101 } [.ref t, .int x1] σ μ (some (.int r)) σ μ := by
  refine th_ofW (by decide +kernel) (Nat.le_of_ble_eq_true rfl) ?_
  intro p e s m args below meth c ls Q hQ C hr hk hnm T hl
  have hx := C.1
  have hb := C.2.1
  have C : CallFix p m c cX10_needs 2 s args th_ws RX10 := C
  have hl : lv_has ls 2 [(0, .ref t), (1, .int x1)] := hl
  unfold f_X10_needs at h
  refine lv_iconst (v := 0) hx hb dX10_needs_0 (by decide) ?_
  refine lv_aload_n hx hb dX10_needs_1 rfl (lv_at hl 0 rfl) ?_
  obtain ⟨a1, e2, h⟩ := ob_ h
  refine g_RX10_11 C T e2 dX10_needs_2 ?_
  refine lv_iload_n hx hb dX10_needs_5 rfl (lv_at hl 1 rfl) ?_
  obtain ⟨a3, e4, h⟩ := ob_ h
  refine th_aald C T 13 e4 (by decide) rfl dX10_needs_6 ?_
  obtain ⟨a5, e6, h⟩ := ob_ h
  refine g_RX10_102 C T e6 dX10_needs_7 ?_
  refine lv_iconst (v := 0) hx hb dX10_needs_10 (by decide) ?_
  obtain ⟨v7, e8, h⟩ := ob_ h
  refine th_ialdn C T e8 (by decide) (by decide) dX10_needs_11 ?_
  obtain ⟨v9, e10, h⟩ := ob_ h
  refine th_callS (As := [.int 0, .int v7]) (rest := []) C T (c_X10_far e10) k_RX10_149 rfl hl.1 rfl (st1 := [.int v9]) rfl (cells1 := 0) rfl (slots1 := 0) rfl (Nat.le_of_ble_eq_true rfl) ⟨Nat.le_of_ble_eq_true rfl, Nat.le_of_ble_eq_true rfl⟩ ⟨Nat.le_of_ble_eq_true rfl, Nat.le_of_ble_eq_true rfl⟩ dX10_needs_12 (fun H locs T => ?_)
  refine lv_aload_n hx hb dX10_needs_15 rfl (lv_at hl 0 rfl) ?_
  obtain ⟨a11, e12, h⟩ := ob_ h
  refine g_RX10_11 C T e12 dX10_needs_16 ?_
  refine lv_iload_n hx hb dX10_needs_19 rfl (lv_at hl 1 rfl) ?_
  obtain ⟨a13, e14, h⟩ := ob_ h
  refine th_aald C T 13 e14 (by decide) rfl dX10_needs_20 ?_
  refine lv_aload_n hx hb dX10_needs_21 rfl (lv_at hl 0 rfl) ?_
  obtain ⟨a15, e16, h⟩ := ob_ h
  refine g_RX10_15 C T e16 dX10_needs_22 ?_
  refine lv_iconst (v := 5) hx hb dX10_needs_25 (by decide) ?_
  obtain ⟨v17, e18, h⟩ := ob_ h
  refine th_ialdn C T e18 (by decide) (by decide) dX10_needs_26 ?_
  obtain ⟨v19, e20, h⟩ := ob_ h
  refine vc_RX10_108 (rest := [.int v9]) C T e20 hl.1 (st1 := [.int v19, .int v9]) rfl (Nat.le_of_ble_eq_true rfl) ⟨Nat.le_of_ble_eq_true rfl, Nat.le_of_ble_eq_true rfl⟩ ⟨Nat.le_of_ble_eq_true rfl, Nat.le_of_ble_eq_true rfl⟩ dX10_needs_27 (fun H locs T => ?_)
  refine lv_imul hx hb dX10_needs_30 ?_
  obtain rfl := os1 h
  exact th_iret hQ C hr hk T (Nat.le_of_ble_eq_true rfl) (Nat.le_of_ble_eq_true rfl) dX10_needs_31
set_option maxRecDepth 100000 in
set_option maxHeartbeats 4000000 in
theorem c_X10_call {l : Launch} {G : th_G} {σ : th_S} {μ : th_M} {t : Nat} {x1 : Int32} {r : Int32} {μ' : th_M} (h : f_X10_call σ μ t x1 = some (r, μ')) : th_Met l G yX10_call cX10_call 2 (some FieldType.int) { frames := 6, cells := 0, slots := 0, locals := 170 } [.ref t, .int x1] σ μ (some (.int r)) σ μ' := by
  refine th_ofW (by decide +kernel) (Nat.le_of_ble_eq_true rfl) ?_
  intro p e s m args below meth c ls Q hQ C hr hk hnm T hl
  have hx := C.1
  have hb := C.2.1
  have C : CallFix p m c cX10_call 2 s args th_ws RX10 := C
  have hl : lv_has ls 2 [(0, .ref t), (1, .int x1)] := hl
  unfold f_X10_call at h
  refine lv_aload_n hx hb dX10_call_0 rfl (lv_at hl 0 rfl) ?_
  refine lv_iload_n hx hb dX10_call_1 rfl (lv_at hl 1 rfl) ?_
  obtain ⟨k1, h⟩ := oc_ h
  obtain ⟨v2, e3, h⟩ := ob_ h
  refine th_callV (As := [.int x1]) (rest := []) C T (c_X10_isBoat e3) k_RX10_99 10 rfl rfl (by decide) k1 rfl hl.1 rfl (st1 := [.int v2]) rfl (cells1 := 0) rfl (slots1 := 0) rfl (Nat.le_of_ble_eq_true rfl) ⟨Nat.le_of_ble_eq_true rfl, Nat.le_of_ble_eq_true rfl⟩ ⟨Nat.le_of_ble_eq_true rfl, Nat.le_of_ble_eq_true rfl⟩ dX10_call_2 (fun H locs T => ?_)
  refine lv_if_ne (tgt := 11) hx hb dX10_call_5 (by decide) (fun c4 => ?_) (fun c4 => ?_)
  · replace h := of_ c4 h
    refine lv_aload_n hx hb dX10_call_11 rfl (lv_at hl 0 rfl) ?_
    refine lv_iload_n hx hb dX10_call_12 rfl (lv_at hl 1 rfl) ?_
    obtain ⟨v5, e6, h⟩ := ob_ h
    refine th_callV (As := [.int x1]) (rest := []) C T (c_X10_isOnTheLake e6) k_RX10_163 10 rfl rfl (by decide) k1 rfl hl.1 rfl (st1 := [.int v5]) rfl (cells1 := 0) rfl (slots1 := 0) rfl (Nat.le_of_ble_eq_true rfl) ⟨Nat.le_of_ble_eq_true rfl, Nat.le_of_ble_eq_true rfl⟩ ⟨Nat.le_of_ble_eq_true rfl, Nat.le_of_ble_eq_true rfl⟩ dX10_call_13 (fun H locs T => ?_)
    refine lv_if_ne (tgt := 22) hx hb dX10_call_16 (by decide) (fun c7 => ?_) (fun c7 => ?_)
    · replace h := of_ c7 h
      refine lv_aload_n hx hb dX10_call_22 rfl (lv_at hl 0 rfl) ?_
      refine lv_iload_n hx hb dX10_call_23 rfl (lv_at hl 1 rfl) ?_
      obtain ⟨v8, μ9, e10, h⟩ := ob2 h
      refine th_callV (As := [.int x1]) (rest := []) C T (c_X10_wouldComeNow e10) k_RX10_115 10 rfl rfl (by decide) k1 rfl hl.1 rfl (st1 := [.int v8]) rfl (cells1 := 0) rfl (slots1 := 0) rfl (Nat.le_of_ble_eq_true rfl) ⟨Nat.le_of_ble_eq_true rfl, Nat.le_of_ble_eq_true rfl⟩ ⟨Nat.le_of_ble_eq_true rfl, Nat.le_of_ble_eq_true rfl⟩ dX10_call_24 (fun H locs T => ?_)
      refine lv_if_ne (tgt := 32) hx hb dX10_call_27 (by decide) (fun c11 => ?_) (fun c11 => ?_)
      · replace h := of_ c11 h
        refine lv_aload_n hx hb dX10_call_32 rfl (lv_at hl 0 rfl) ?_
        obtain ⟨a12, e13, h⟩ := ob_ h
        refine g_RX10_11 C T e13 dX10_call_33 ?_
        refine lv_iload_n hx hb dX10_call_36 rfl (lv_at hl 1 rfl) ?_
        obtain ⟨a14, e15, h⟩ := ob_ h
        refine th_aald C T 13 e15 (by decide) rfl dX10_call_37 ?_
        obtain ⟨a16, e17, h⟩ := ob_ h
        refine g_RX10_102 C T e17 dX10_call_38 ?_
        refine lv_iconst (v := 4) hx hb dX10_call_41 (by decide) ?_
        refine lv_iconst (v := 1) hx hb dX10_call_42 (by decide) ?_
        obtain ⟨μ18, e19, h⟩ := ob_ h
        refine th_iastn C T e19 (by decide) (by decide) dX10_call_43 (fun H locs T => ?_)
        refine lv_aload_n hx hb dX10_call_44 rfl (lv_at hl 0 rfl) ?_
        obtain ⟨a20, e21, h⟩ := ob_ h
        refine g_RX10_11 C T e21 dX10_call_45 ?_
        refine lv_iload_n hx hb dX10_call_48 rfl (lv_at hl 1 rfl) ?_
        obtain ⟨a22, e23, h⟩ := ob_ h
        refine th_aald C T 13 e23 (by decide) rfl dX10_call_49 ?_
        obtain ⟨a24, e25, h⟩ := ob_ h
        refine g_RX10_102 C T e25 dX10_call_50 ?_
        refine lv_iconst (v := 5) hx hb dX10_call_53 (by decide) ?_
        refine lv_aload_n hx hb dX10_call_54 rfl (lv_at hl 0 rfl) ?_
        obtain ⟨a26, e27, h⟩ := ob_ h
        refine g_RX10_15 C T e27 dX10_call_55 ?_
        refine lv_bipush (v := 9) hx hb dX10_call_58 (by decide) ?_
        obtain ⟨v28, e29, h⟩ := ob_ h
        refine th_ialdn C T e29 (by decide) (by decide) dX10_call_60 ?_
        refine lv_aload_n hx hb dX10_call_61 rfl (lv_at hl 0 rfl) ?_
        refine lv_iload_n hx hb dX10_call_62 rfl (lv_at hl 1 rfl) ?_
        obtain ⟨v30, e31, h⟩ := ob_ h
        refine th_callV (As := [.int x1]) (rest := [.int v28, .int 5, .ref a24]) C T (c_X10_needs e31) k_RX10_166 10 rfl rfl (by decide) k1 rfl hl.1 rfl (st1 := [.int v30, .int v28, .int 5, .ref a24]) rfl (cells1 := 0) rfl (slots1 := 0) rfl (Nat.le_of_ble_eq_true rfl) ⟨Nat.le_of_ble_eq_true rfl, Nat.le_of_ble_eq_true rfl⟩ ⟨Nat.le_of_ble_eq_true rfl, Nat.le_of_ble_eq_true rfl⟩ dX10_call_63 (fun H locs T => ?_)
        refine lv_iadd hx hb dX10_call_66 ?_
        obtain ⟨μ32, e33, h⟩ := ob_ h
        refine th_iastn C T e33 (by decide) (by decide) dX10_call_67 (fun H locs T => ?_)
        refine lv_iconst (v := 1) hx hb dX10_call_68 (by decide) ?_
        obtain ⟨rfl, rfl⟩ := os2 h
        exact th_iret hQ C hr hk T (Nat.le_of_ble_eq_true rfl) (Nat.le_of_ble_eq_true rfl) dX10_call_69
      · replace h := ot_ c11 h
        refine lv_iconst (v := 0) hx hb dX10_call_30 (by decide) ?_
        obtain ⟨rfl, rfl⟩ := os2 h
        exact th_iret hQ C hr hk T (Nat.le_of_ble_eq_true rfl) (Nat.le_of_ble_eq_true rfl) dX10_call_31
    · replace h := ot_ c7 h
      refine lv_bipush (v := -3) hx hb dX10_call_19 (by decide) ?_
      obtain ⟨rfl, rfl⟩ := os2 h
      exact th_iret hQ C hr hk T (Nat.le_of_ble_eq_true rfl) (Nat.le_of_ble_eq_true rfl) dX10_call_21
  · replace h := ot_ c4 h
    refine lv_bipush (v := -2) hx hb dX10_call_8 (by decide) ?_
    obtain ⟨rfl, rfl⟩ := os2 h
    exact th_iret hQ C hr hk T (Nat.le_of_ble_eq_true rfl) (Nat.le_of_ble_eq_true rfl) dX10_call_10
set_option maxRecDepth 100000 in
set_option maxHeartbeats 4000000 in
theorem c_X10_comeIn {l : Launch} {G : th_G} {σ : th_S} {μ : th_M} {t : Nat} {x1 : Int32} {x2 : Int32}  {μ' : th_M} (h : f_X10_comeIn σ μ t x1 x2 = some μ') : th_Met l G yX10_comeIn cX10_comeIn 3 none { frames := 5, cells := 0, slots := 0, locals := 148 } [.ref t, .int x1, .int x2] σ μ none σ μ' := by
  refine th_ofW (by decide +kernel) (Nat.le_of_ble_eq_true rfl) ?_
  intro p e s m args below meth c ls Q hQ C hr hk hnm T hl
  have hx := C.1
  have hb := C.2.1
  have C : CallFix p m c cX10_comeIn 3 s args th_ws RX10 := C
  have hl : lv_has ls 3 [(0, .ref t), (1, .int x1), (2, .int x2)] := hl
  unfold f_X10_comeIn at h
  refine lv_aload_n hx hb dX10_comeIn_0 rfl (lv_at hl 0 rfl) ?_
  obtain ⟨a1, e2, h⟩ := ob_ h
  refine g_RX10_15 C T e2 dX10_comeIn_1 ?_
  refine lv_bipush (v := 10) hx hb dX10_comeIn_4 (by decide) ?_
  refine lv_dup2_11 hx hb dX10_comeIn_6 rfl rfl ?_
  obtain ⟨v3, e4, h⟩ := ob_ h
  refine th_ialdn C T e4 (by decide) (by decide) dX10_comeIn_7 ?_
  refine lv_aload_n hx hb dX10_comeIn_8 rfl (lv_at hl 0 rfl) ?_
  refine lv_iload_n hx hb dX10_comeIn_9 rfl (lv_at hl 1 rfl) ?_
  refine lv_iload_n hx hb dX10_comeIn_10 rfl (lv_at hl 2 rfl) ?_
  obtain ⟨k5, h⟩ := oc_ h
  obtain ⟨v6, μ7, e8, h⟩ := ob2 h
  refine th_callV (As := [.int x1, .int x2]) (rest := [.int v3, .int 10, .ref a1]) C T (c_X10_owed e8) k_RX10_118 10 rfl rfl (by decide) k5 rfl hl.1 rfl (st1 := [.int v6, .int v3, .int 10, .ref a1]) rfl (cells1 := 0) rfl (slots1 := 0) rfl (Nat.le_of_ble_eq_true rfl) ⟨Nat.le_of_ble_eq_true rfl, Nat.le_of_ble_eq_true rfl⟩ ⟨Nat.le_of_ble_eq_true rfl, Nat.le_of_ble_eq_true rfl⟩ dX10_comeIn_11 (fun H locs T => ?_)
  refine lv_iadd hx hb dX10_comeIn_14 ?_
  obtain ⟨μ9, e10, h⟩ := ob_ h
  refine th_iastn C T e10 (by decide) (by decide) dX10_comeIn_15 (fun H locs T => ?_)
  refine lv_aload_n hx hb dX10_comeIn_16 rfl (lv_at hl 0 rfl) ?_
  obtain ⟨a11, e12, h⟩ := ob_ h
  refine g_RX10_15 C T e12 dX10_comeIn_17 ?_
  refine lv_bipush (v := 8) hx hb dX10_comeIn_20 (by decide) ?_
  refine lv_iconst (v := 0) hx hb dX10_comeIn_22 (by decide) ?_
  refine lv_aload_n hx hb dX10_comeIn_23 rfl (lv_at hl 0 rfl) ?_
  obtain ⟨a13, e14, h⟩ := ob_ h
  refine g_RX10_15 C T e14 dX10_comeIn_24 ?_
  refine lv_bipush (v := 8) hx hb dX10_comeIn_27 (by decide) ?_
  obtain ⟨v15, e16, h⟩ := ob_ h
  refine th_ialdn C T e16 (by decide) (by decide) dX10_comeIn_29 ?_
  refine lv_iconst (v := 1) hx hb dX10_comeIn_30 (by decide) ?_
  refine lv_isub hx hb dX10_comeIn_31 ?_
  refine th_max C hl.1 w_568 w_478 w_11 w_479 (Nat.le_of_ble_eq_true rfl) (Nat.le_of_ble_eq_true rfl) (Nat.zero_le _) (Nat.zero_le _) dX10_comeIn_32 ?_
  obtain ⟨μ17, e18, h⟩ := ob_ h
  refine th_iastn C T e18 (by decide) (by decide) dX10_comeIn_35 (fun H locs T => ?_)
  refine lv_aload_n hx hb dX10_comeIn_36 rfl (lv_at hl 0 rfl) ?_
  obtain ⟨a19, e20, h⟩ := ob_ h
  refine g_RX10_11 C T e20 dX10_comeIn_37 ?_
  refine lv_iload_n hx hb dX10_comeIn_40 rfl (lv_at hl 1 rfl) ?_
  obtain ⟨a21, e22, h⟩ := ob_ h
  refine th_aald C T 13 e22 (by decide) rfl dX10_comeIn_41 ?_
  obtain ⟨a23, e24, h⟩ := ob_ h
  refine g_RX10_102 C T e24 dX10_comeIn_42 ?_
  refine lv_iconst (v := 4) hx hb dX10_comeIn_45 (by decide) ?_
  refine lv_iconst (v := 2) hx hb dX10_comeIn_46 (by decide) ?_
  obtain ⟨μ25, e26, h⟩ := ob_ h
  refine th_iastn C T e26 (by decide) (by decide) dX10_comeIn_47 (fun H locs T => ?_)
  refine lv_aload_n hx hb dX10_comeIn_48 rfl (lv_at hl 0 rfl) ?_
  obtain ⟨a27, e28, h⟩ := ob_ h
  refine g_RX10_11 C T e28 dX10_comeIn_49 ?_
  refine lv_iload_n hx hb dX10_comeIn_52 rfl (lv_at hl 1 rfl) ?_
  obtain ⟨a29, e30, h⟩ := ob_ h
  refine th_aald C T 13 e30 (by decide) rfl dX10_comeIn_53 ?_
  obtain ⟨a31, e32, h⟩ := ob_ h
  refine g_RX10_102 C T e32 dX10_comeIn_54 ?_
  refine lv_iconst (v := 5) hx hb dX10_comeIn_57 (by decide) ?_
  refine lv_iload_n hx hb dX10_comeIn_58 rfl (lv_at hl 2 rfl) ?_
  obtain ⟨μ33, e34, h⟩ := ob_ h
  refine th_iastn C T e34 (by decide) (by decide) dX10_comeIn_59 (fun H locs T => ?_)
  obtain rfl := os1 h
  exact th_vret hQ C hr hk T (Nat.le_of_ble_eq_true rfl) (Nat.le_of_ble_eq_true rfl) dX10_comeIn_60
set_option maxRecDepth 100000 in
set_option maxHeartbeats 4000000 in
theorem c_X10_pass {l : Launch} {G : th_G} {σ : th_S} {μ : th_M} {t : Nat} {x1 : Int32} {r : Int32} {μ' : th_M} (h : f_X10_pass σ μ t x1 = some (r, μ')) : th_Met l G yX10_pass cX10_pass 4 (some FieldType.int) { frames := 6, cells := 0, slots := 0, locals := 170 } [.ref t, .int x1] σ μ (some (.int r)) σ μ' := by
  refine th_ofW (by decide +kernel) (Nat.le_of_ble_eq_true rfl) ?_
  intro p e s m args below meth c ls Q hQ C hr hk hnm T hl
  have hx := C.1
  have hb := C.2.1
  have C : CallFix p m c cX10_pass 4 s args th_ws RX10 := C
  have hl : lv_has ls 4 [(0, .ref t), (1, .int x1)] := hl
  have J26 : ∀ (n : Nat) (μ : th_M) (t : Nat) (x2 : Int32) (x3 : Int32) (H : Heap) (locs : List Loc) (ls : Array Slot), th_R G s H locs σ μ → lv_has ls 4 [(0, .ref t), (2, .int x2), (3, .int x3)] → f_X10_pass_b26  n σ μ t x2 x3 = some (r, μ') → W p l e { frames := 6, cells := 0, slots := 0, locals := 170 } s m args below meth c H locs 0 0 Q (F0 m 26 ls []) := by
    intro n
    induction n with
    | zero => intro μ t x2 x3 H locs ls T hl h; unfold f_X10_pass_b26 at h; cases h
    | succ n26 ih26 =>
      intro μ t x2 x3 H locs ls T hl h
      unfold f_X10_pass_b26 at h
      refine lv_iload_n hx hb dX10_pass_26 rfl (lv_at hl 2 rfl) ?_
      refine lv_aload_n hx hb dX10_pass_27 rfl (lv_at hl 0 rfl) ?_
      obtain ⟨v1, e2, h⟩ := ob_ h
      refine g_RX10_92 C T e2 dX10_pass_28 ?_
      refine lv_icmp_ge (tgt := 95) hx hb dX10_pass_31 (by decide) (fun c3 => ?_) (fun c3 => ?_)
      · replace h := ot_ c3 h
        refine lv_iload_n hx hb dX10_pass_95 rfl (lv_at hl 1 rfl) ?_
        obtain ⟨rfl, rfl⟩ := os2 h
        exact th_iret hQ C hr hk T (Nat.le_of_ble_eq_true rfl) (Nat.le_of_ble_eq_true rfl) dX10_pass_96
      · replace h := of_ c3 h
        refine lv_aload_n hx hb dX10_pass_34 rfl (lv_at hl 0 rfl) ?_
        obtain ⟨a4, e5, h⟩ := ob_ h
        refine g_RX10_11 C T e5 dX10_pass_35 ?_
        refine lv_iload_n hx hb dX10_pass_38 rfl (lv_at hl 2 rfl) ?_
        obtain ⟨a6, e7, h⟩ := ob_ h
        refine th_aald C T 13 e7 (by decide) rfl dX10_pass_39 ?_
        obtain ⟨a8, e9, h⟩ := ob_ h
        refine g_RX10_102 C T e9 dX10_pass_40 ?_
        refine lv_iconst (v := 4) hx hb dX10_pass_43 (by decide) ?_
        obtain ⟨v10, e11, h⟩ := ob_ h
        refine th_ialdn C T e11 (by decide) (by decide) dX10_pass_44 ?_
        refine lv_iconst (v := 1) hx hb dX10_pass_45 (by decide) ?_
        refine lv_icmp_ne (tgt := 89) hx hb dX10_pass_46 (by decide) (fun c12 => ?_) (fun c12 => ?_)
        · replace h := of_ c12 h
          refine lv_iinc (v := x3 + 1) (lv' := [(3, .int (x3 + 1)), (0, .ref t), (2, .int x2)]) hx hb dX10_pass_89 hl (k := 2) rfl rfl (by decide) rfl (fun ls hl => ?_)
          refine lv_goto (tgt := 26) hx hb dX10_pass_92 (by decide) ?_
          exact ih26 _ _ _ _ _ _ _ T (lv_sub hl [1, 2, 0] rfl) h
        · replace h := ot_ c12 h
          refine lv_aload_n hx hb dX10_pass_49 rfl (lv_at hl 0 rfl) ?_
          obtain ⟨a13, e14, h⟩ := ob_ h
          refine g_RX10_11 C T e14 dX10_pass_50 ?_
          refine lv_iload_n hx hb dX10_pass_53 rfl (lv_at hl 2 rfl) ?_
          obtain ⟨a15, e16, h⟩ := ob_ h
          refine th_aald C T 13 e16 (by decide) rfl dX10_pass_54 ?_
          obtain ⟨a17, e18, h⟩ := ob_ h
          refine g_RX10_102 C T e18 dX10_pass_55 ?_
          refine lv_iconst (v := 5) hx hb dX10_pass_58 (by decide) ?_
          obtain ⟨v19, e20, h⟩ := ob_ h
          refine th_ialdn C T e20 (by decide) (by decide) dX10_pass_59 ?_
          refine lv_aload_n hx hb dX10_pass_60 rfl (lv_at hl 0 rfl) ?_
          obtain ⟨a21, e22, h⟩ := ob_ h
          refine g_RX10_15 C T e22 dX10_pass_61 ?_
          refine lv_bipush (v := 9) hx hb dX10_pass_64 (by decide) ?_
          obtain ⟨v23, e24, h⟩ := ob_ h
          refine th_ialdn C T e24 (by decide) (by decide) dX10_pass_66 ?_
          refine lv_icmp_gt (tgt := 89) hx hb dX10_pass_67 (by decide) (fun c25 => ?_) (fun c25 => ?_)
          · replace h := ot_ c25 h
            refine lv_iinc (v := x3 + 1) (lv' := [(3, .int (x3 + 1)), (0, .ref t), (2, .int x2)]) hx hb dX10_pass_89 hl (k := 2) rfl rfl (by decide) rfl (fun ls hl => ?_)
            refine lv_goto (tgt := 26) hx hb dX10_pass_92 (by decide) ?_
            exact ih26 _ _ _ _ _ _ _ T (lv_sub hl [1, 2, 0] rfl) h
          · replace h := of_ c25 h
            refine lv_aload_n hx hb dX10_pass_70 rfl (lv_at hl 0 rfl) ?_
            refine lv_iload_n hx hb dX10_pass_71 rfl (lv_at hl 2 rfl) ?_
            refine lv_aload_n hx hb dX10_pass_72 rfl (lv_at hl 0 rfl) ?_
            obtain ⟨a26, e27, h⟩ := ob_ h
            refine g_RX10_11 C T e27 dX10_pass_73 ?_
            refine lv_iload_n hx hb dX10_pass_76 rfl (lv_at hl 2 rfl) ?_
            obtain ⟨a28, e29, h⟩ := ob_ h
            refine th_aald C T 13 e29 (by decide) rfl dX10_pass_77 ?_
            obtain ⟨a30, e31, h⟩ := ob_ h
            refine g_RX10_102 C T e31 dX10_pass_78 ?_
            refine lv_iconst (v := 5) hx hb dX10_pass_81 (by decide) ?_
            obtain ⟨v32, e33, h⟩ := ob_ h
            refine th_ialdn C T e33 (by decide) (by decide) dX10_pass_82 ?_
            obtain ⟨k34, h⟩ := oc_ h
            obtain ⟨μ35, e36, h⟩ := ob_ h
            refine th_callV (As := [.int x3, .int v32]) (rest := []) C T (c_X10_comeIn e36) k_RX10_196 10 rfl rfl (by decide) k34 rfl hl.1 rfl (st1 := []) rfl (cells1 := 0) rfl (slots1 := 0) rfl (Nat.le_of_ble_eq_true rfl) ⟨Nat.le_of_ble_eq_true rfl, Nat.le_of_ble_eq_true rfl⟩ ⟨Nat.le_of_ble_eq_true rfl, Nat.le_of_ble_eq_true rfl⟩ dX10_pass_83 (fun H locs T => ?_)
            refine lv_iinc (v := x2 + 1) (lv' := [(2, .int (x2 + 1)), (0, .ref t), (3, .int x3)]) hx hb dX10_pass_86 hl (k := 1) rfl rfl (by decide) rfl (fun ls hl => ?_)
            refine lv_iinc (v := x3 + 1) (lv' := [(3, .int (x3 + 1)), (2, .int (x2 + 1)), (0, .ref t)]) hx hb dX10_pass_89 hl (k := 2) rfl rfl (by decide) rfl (fun ls hl => ?_)
            refine lv_goto (tgt := 26) hx hb dX10_pass_92 (by decide) ?_
            exact ih26 _ _ _ _ _ _ _ T (lv_sub hl [2, 1, 0] rfl) h
  unfold f_X10_pass at h
  refine lv_aload_n hx hb dX10_pass_0 rfl (lv_at hl 0 rfl) ?_
  obtain ⟨a1, e2, h⟩ := ob_ h
  refine g_RX10_15 C T e2 dX10_pass_1 ?_
  refine lv_bipush (v := 9) hx hb dX10_pass_4 (by decide) ?_
  refine lv_sipush (v := 9999) hx hb dX10_pass_6 (by decide) ?_
  refine lv_aload_n hx hb dX10_pass_9 rfl (lv_at hl 0 rfl) ?_
  obtain ⟨a3, e4, h⟩ := ob_ h
  refine g_RX10_15 C T e4 dX10_pass_10 ?_
  refine lv_bipush (v := 9) hx hb dX10_pass_13 (by decide) ?_
  obtain ⟨v5, e6, h⟩ := ob_ h
  refine th_ialdn C T e6 (by decide) (by decide) dX10_pass_15 ?_
  refine lv_iload_n hx hb dX10_pass_16 rfl (lv_at hl 1 rfl) ?_
  refine lv_iadd hx hb dX10_pass_17 ?_
  refine th_min C hl.1 w_567 w_271 w_11 w_272 (Nat.le_of_ble_eq_true rfl) (Nat.le_of_ble_eq_true rfl) (Nat.zero_le _) (Nat.zero_le _) dX10_pass_18 ?_
  obtain ⟨μ7, e8, h⟩ := ob_ h
  refine th_iastn C T e8 (by decide) (by decide) dX10_pass_21 (fun H locs T => ?_)
  refine lv_iconst (v := 0) hx hb dX10_pass_22 (by decide) ?_
  refine lv_istore_n (lv' := [(2, .int 0), (0, .ref t), (1, .int x1)]) hx hb dX10_pass_23 rfl hl (by decide) rfl (fun ls hl => ?_)
  refine lv_iconst (v := 0) hx hb dX10_pass_24 (by decide) ?_
  refine lv_istore_n (lv' := [(3, .int 0), (2, .int 0), (0, .ref t), (1, .int x1)]) hx hb dX10_pass_25 rfl hl (by decide) rfl (fun ls hl => ?_)
  exact J26 fu _ _ _ _ _ _ _ T (lv_sub hl [2, 1, 0] rfl) h
set_option maxRecDepth 100000 in
set_option maxHeartbeats 4000000 in
theorem c_X10_time {l : Launch} {G : th_G} {σ : th_S} {μ : th_M} {t : Nat} {x1 : Int32} {r : Int32} {μ' : th_M} (h : f_X10_time σ μ t x1 = some (r, μ')) : th_Met l G yX10_time cX10_time 2 (some FieldType.int) { frames := 7, cells := 0, slots := 0, locals := 193 } [.ref t, .int x1] σ μ (some (.int r)) σ μ' := by
  refine th_ofW (by decide +kernel) (Nat.le_of_ble_eq_true rfl) ?_
  intro p e s m args below meth c ls Q hQ C hr hk hnm T hl
  have hx := C.1
  have hb := C.2.1
  have C : CallFix p m c cX10_time 2 s args th_ws RX10 := C
  have hl : lv_has ls 2 [(0, .ref t), (1, .int x1)] := hl
  unfold f_X10_time at h
  refine lv_iload_n hx hb dX10_time_0 rfl (lv_at hl 1 rfl) ?_
  refine lv_if_lt (tgt := 11) hx hb dX10_time_1 (by decide) (fun c1 => ?_) (fun c1 => ?_)
  · replace h := ot_ c1 h
    refine lv_bipush (v := -2) hx hb dX10_time_11 (by decide) ?_
    refine lv_goto (tgt := 21) hx hb dX10_time_13 (by decide) ?_
    obtain ⟨rfl, rfl⟩ := os2 h
    exact th_iret hQ C hr hk T (Nat.le_of_ble_eq_true rfl) (Nat.le_of_ble_eq_true rfl) dX10_time_21
  · replace h := of_ c1 h
    refine lv_iload_n hx hb dX10_time_4 rfl (lv_at hl 1 rfl) ?_
    refine lv_sipush (v := 240) hx hb dX10_time_5 (by decide) ?_
    refine lv_icmp_le (tgt := 16) hx hb dX10_time_8 (by decide) (fun c2 => ?_) (fun c2 => ?_)
    · replace h := ot_ c2 h
      refine lv_aload_n hx hb dX10_time_16 rfl (lv_at hl 0 rfl) ?_
      refine lv_iload_n hx hb dX10_time_17 rfl (lv_at hl 1 rfl) ?_
      obtain ⟨k3, h⟩ := oc_ h
      obtain ⟨v4, μ5, e6, h⟩ := ob2 h
      refine th_callV (As := [.int x1]) (rest := []) C T (c_X10_pass e6) k_RX10_169 10 rfl rfl (by decide) k3 rfl hl.1 rfl (st1 := [.int v4]) rfl (cells1 := 0) rfl (slots1 := 0) rfl (Nat.le_of_ble_eq_true rfl) ⟨Nat.le_of_ble_eq_true rfl, Nat.le_of_ble_eq_true rfl⟩ ⟨Nat.le_of_ble_eq_true rfl, Nat.le_of_ble_eq_true rfl⟩ dX10_time_18 (fun H locs T => ?_)
      obtain ⟨rfl, rfl⟩ := os2 h
      exact th_iret hQ C hr hk T (Nat.le_of_ble_eq_true rfl) (Nat.le_of_ble_eq_true rfl) dX10_time_21
    · replace h := of_ c2 h
      refine lv_bipush (v := -2) hx hb dX10_time_11 (by decide) ?_
      refine lv_goto (tgt := 21) hx hb dX10_time_13 (by decide) ?_
      obtain ⟨rfl, rfl⟩ := os2 h
      exact th_iret hQ C hr hk T (Nat.le_of_ble_eq_true rfl) (Nat.le_of_ble_eq_true rfl) dX10_time_21
set_option maxRecDepth 100000 in
set_option maxHeartbeats 4000000 in
theorem c_X10_nobody {l : Launch} {G : th_G} {σ : th_S} {μ : th_M} {t : Nat} {r : Int32} {μ' : th_M} (h : f_X10_nobody σ μ t = some (r, μ')) : th_Met l G yX10_nobody cX10_nobody 3 (some FieldType.int) { frames := 6, cells := 0, slots := 0, locals := 170 } [.ref t] σ μ (some (.int r)) σ μ' := by
  refine th_ofW (by decide +kernel) (Nat.le_of_ble_eq_true rfl) ?_
  intro p e s m args below meth c ls Q hQ C hr hk hnm T hl
  have hx := C.1
  have hb := C.2.1
  have C : CallFix p m c cX10_nobody 3 s args th_ws RX10 := C
  have hl : lv_has ls 3 [(0, .ref t)] := hl
  have J4 : ∀ (n : Nat) (μ : th_M) (t : Nat) (x1 : Int32) (x2 : Int32) (H : Heap) (locs : List Loc) (ls : Array Slot), th_R G s H locs σ μ → lv_has ls 3 [(0, .ref t), (1, .int x1), (2, .int x2)] → f_X10_nobody_b4  n σ μ t x1 x2 = some (r, μ') → W p l e { frames := 6, cells := 0, slots := 0, locals := 170 } s m args below meth c H locs 0 0 Q (F0 m 4 ls []) := by
    intro n
    induction n with
    | zero => intro μ t x1 x2 H locs ls T hl h; unfold f_X10_nobody_b4 at h; cases h
    | succ n4 ih4 =>
      intro μ t x1 x2 H locs ls T hl h
      unfold f_X10_nobody_b4 at h
      refine lv_iload_n hx hb dX10_nobody_4 rfl (lv_at hl 2 rfl) ?_
      refine lv_aload_n hx hb dX10_nobody_5 rfl (lv_at hl 0 rfl) ?_
      obtain ⟨v1, e2, h⟩ := ob_ h
      refine g_RX10_92 C T e2 dX10_nobody_6 ?_
      refine lv_icmp_ge (tgt := 40) hx hb dX10_nobody_9 (by decide) (fun c3 => ?_) (fun c3 => ?_)
      · replace h := ot_ c3 h
        refine lv_iload_n hx hb dX10_nobody_40 rfl (lv_at hl 1 rfl) ?_
        obtain ⟨rfl, rfl⟩ := os2 h
        exact th_iret hQ C hr hk T (Nat.le_of_ble_eq_true rfl) (Nat.le_of_ble_eq_true rfl) dX10_nobody_41
      · replace h := of_ c3 h
        refine lv_aload_n hx hb dX10_nobody_12 rfl (lv_at hl 0 rfl) ?_
        refine lv_iload_n hx hb dX10_nobody_13 rfl (lv_at hl 2 rfl) ?_
        obtain ⟨k4, h⟩ := oc_ h
        obtain ⟨v5, e6, h⟩ := ob_ h
        refine th_callV (As := [.int x2]) (rest := []) C T (c_X10_isOnTheLake e6) k_RX10_163 10 rfl rfl (by decide) k4 rfl hl.1 rfl (st1 := [.int v5]) rfl (cells1 := 0) rfl (slots1 := 0) rfl (Nat.le_of_ble_eq_true rfl) ⟨Nat.le_of_ble_eq_true rfl, Nat.le_of_ble_eq_true rfl⟩ ⟨Nat.le_of_ble_eq_true rfl, Nat.le_of_ble_eq_true rfl⟩ dX10_nobody_14 (fun H locs T => ?_)
        refine lv_if_eq (tgt := 34) hx hb dX10_nobody_17 (by decide) (fun c7 => ?_) (fun c7 => ?_)
        · replace h := ot_ c7 h
          refine lv_iinc (v := x2 + 1) (lv' := [(2, .int (x2 + 1)), (0, .ref t), (1, .int x1)]) hx hb dX10_nobody_34 hl (k := 2) rfl rfl (by decide) rfl (fun ls hl => ?_)
          refine lv_goto (tgt := 4) hx hb dX10_nobody_37 (by decide) ?_
          exact ih4 _ _ _ _ _ _ _ T (lv_sub hl [1, 2, 0] rfl) h
        · replace h := of_ c7 h
          refine lv_aload_n hx hb dX10_nobody_20 rfl (lv_at hl 0 rfl) ?_
          refine lv_iload_n hx hb dX10_nobody_21 rfl (lv_at hl 2 rfl) ?_
          obtain ⟨v8, μ9, e10, h⟩ := ob2 h
          refine th_callV (As := [.int x2]) (rest := []) C T (c_X10_wouldComeNow e10) k_RX10_115 10 rfl rfl (by decide) k4 rfl hl.1 rfl (st1 := [.int v8]) rfl (cells1 := 0) rfl (slots1 := 0) rfl (Nat.le_of_ble_eq_true rfl) ⟨Nat.le_of_ble_eq_true rfl, Nat.le_of_ble_eq_true rfl⟩ ⟨Nat.le_of_ble_eq_true rfl, Nat.le_of_ble_eq_true rfl⟩ dX10_nobody_22 (fun H locs T => ?_)
          refine lv_if_ne (tgt := 34) hx hb dX10_nobody_25 (by decide) (fun c11 => ?_) (fun c11 => ?_)
          · replace h := of_ c11 h
            refine lv_iinc (v := x2 + 1) (lv' := [(2, .int (x2 + 1)), (0, .ref t), (1, .int x1)]) hx hb dX10_nobody_34 hl (k := 2) rfl rfl (by decide) rfl (fun ls hl => ?_)
            refine lv_goto (tgt := 4) hx hb dX10_nobody_37 (by decide) ?_
            exact ih4 _ _ _ _ _ _ _ T (lv_sub hl [1, 2, 0] rfl) h
          · replace h := ot_ c11 h
            refine lv_iload_n hx hb dX10_nobody_28 rfl (lv_at hl 1 rfl) ?_
            refine lv_iconst (v := 1) hx hb dX10_nobody_29 (by decide) ?_
            refine lv_iload_n hx hb dX10_nobody_30 rfl (lv_at hl 2 rfl) ?_
            refine th_ishl C dX10_nobody_31 ?_
            refine lv_ior hx hb dX10_nobody_32 ?_
            refine lv_istore_n (lv' := [(1, .int (x1 ||| (jshl 1 x2))), (0, .ref t), (2, .int x2)]) hx hb dX10_nobody_33 rfl hl (by decide) rfl (fun ls hl => ?_)
            refine lv_iinc (v := x2 + 1) (lv' := [(2, .int (x2 + 1)), (1, .int (x1 ||| (jshl 1 x2))), (0, .ref t)]) hx hb dX10_nobody_34 hl (k := 2) rfl rfl (by decide) rfl (fun ls hl => ?_)
            refine lv_goto (tgt := 4) hx hb dX10_nobody_37 (by decide) ?_
            exact ih4 _ _ _ _ _ _ _ T (lv_sub hl [2, 1, 0] rfl) h
  unfold f_X10_nobody at h
  refine lv_iconst (v := 0) hx hb dX10_nobody_0 (by decide) ?_
  refine lv_istore_n (lv' := [(1, .int 0), (0, .ref t)]) hx hb dX10_nobody_1 rfl hl (by decide) rfl (fun ls hl => ?_)
  refine lv_iconst (v := 0) hx hb dX10_nobody_2 (by decide) ?_
  refine lv_istore_n (lv' := [(2, .int 0), (1, .int 0), (0, .ref t)]) hx hb dX10_nobody_3 rfl hl (by decide) rfl (fun ls hl => ?_)
  exact J4 fu _ _ _ _ _ _ _ T (lv_sub hl [2, 1, 0] rfl) h
set_option maxRecDepth 100000 in
set_option maxHeartbeats 4000000 in
theorem c_X10_callAt {l : Launch} {G : th_G} {σ : th_S} {μ : th_M} {t : Nat} {x1 : Int32} {r : Int32} {μ' : th_M} (h : f_X10_callAt σ μ t x1 = some (r, μ')) : th_Met l G yX10_callAt cX10_callAt 5 (some FieldType.int) { frames := 5, cells := 0, slots := 0, locals := 149 } [.ref t, .int x1] σ μ (some (.int r)) σ μ' := by
  refine th_ofW (by decide +kernel) (Nat.le_of_ble_eq_true rfl) ?_
  intro p e s m args below meth c ls Q hQ C hr hk hnm T hl
  have hx := C.1
  have hb := C.2.1
  have C : CallFix p m c cX10_callAt 5 s args th_ws RX10 := C
  have hl : lv_has ls 5 [(0, .ref t), (1, .int x1)] := hl
  have J40 : ∀ (n : Nat) (μ : th_M) (t : Nat) (x1 : Int32) (x2 : Int32) (x3 : Int32) (H : Heap) (locs : List Loc) (ls : Array Slot), th_R G s H locs σ μ → lv_has ls 5 [(0, .ref t), (1, .int x1), (2, .int x2), (3, .int x3)] → f_X10_callAt_b40  n σ μ t x1 x2 x3 = some (r, μ') → W p l e { frames := 5, cells := 0, slots := 0, locals := 149 } s m args below meth c H locs 0 0 Q (F0 m 40 ls []) := by
    intro n
    induction n with
    | zero => intro μ t x1 x2 x3 H locs ls T hl h; unfold f_X10_callAt_b40 at h; cases h
    | succ n40 ih40 =>
      intro μ t x1 x2 x3 H locs ls T hl h
      unfold f_X10_callAt_b40 at h
      refine lv_iload_n hx hb dX10_callAt_40 rfl (lv_at hl 3 rfl) ?_
      refine lv_sipush (v := 240) hx hb dX10_callAt_41 (by decide) ?_
      refine lv_icmp_gt (tgt := 99) hx hb dX10_callAt_44 (by decide) (fun c1 => ?_) (fun c1 => ?_)
      · replace h := ot_ c1 h
        refine lv_iconst (v := -1) hx hb dX10_callAt_99 (by decide) ?_
        obtain ⟨rfl, rfl⟩ := os2 h
        exact th_iret hQ C hr hk T (Nat.le_of_ble_eq_true rfl) (Nat.le_of_ble_eq_true rfl) dX10_callAt_100
      · replace h := of_ c1 h
        refine lv_aload_n hx hb dX10_callAt_47 rfl (lv_at hl 0 rfl) ?_
        obtain ⟨a2, e3, h⟩ := ob_ h
        refine g_RX10_15 C T e3 dX10_callAt_48 ?_
        refine lv_bipush (v := 9) hx hb dX10_callAt_51 (by decide) ?_
        obtain ⟨v4, e5, h⟩ := ob_ h
        refine th_ialdn C T e5 (by decide) (by decide) dX10_callAt_53 ?_
        refine lv_iload_n hx hb dX10_callAt_54 rfl (lv_at hl 3 rfl) ?_
        refine lv_iadd hx hb dX10_callAt_55 ?_
        refine lv_istore (lv' := [(4, .int (v4 + x3)), (0, .ref t), (1, .int x1), (2, .int x2), (3, .int x3)]) hx hb dX10_callAt_56 hl (by decide) rfl (fun ls hl => ?_)
        refine lv_iload hx hb dX10_callAt_58 (lv_at hl 0 rfl) ?_
        refine lv_iload_n hx hb dX10_callAt_60 rfl (lv_at hl 3 rfl) ?_
        refine lv_icmp_lt (tgt := 93) hx hb dX10_callAt_61 (by decide) (fun c6 => ?_) (fun c6 => ?_)
        · replace h := ot_ c6 h
          refine lv_iinc (v := x3 + 1) (lv' := [(3, .int (x3 + 1)), (4, .int (v4 + x3)), (0, .ref t), (1, .int x1), (2, .int x2)]) hx hb dX10_callAt_93 hl (k := 4) rfl rfl (by decide) rfl (fun ls hl => ?_)
          refine lv_goto (tgt := 40) hx hb dX10_callAt_96 (by decide) ?_
          exact ih40 _ _ _ _ _ _ _ _ T (lv_sub hl [2, 3, 4, 0] rfl) h
        · replace h := of_ c6 h
          refine lv_aload_n hx hb dX10_callAt_64 rfl (lv_at hl 1 rfl) ?_
          refine lv_iload_n hx hb dX10_callAt_65 rfl (lv_at hl 2 rfl) ?_
          refine lv_aload_n hx hb dX10_callAt_66 rfl (lv_at hl 1 rfl) ?_
          obtain ⟨a7, e8, h⟩ := ob_ h
          refine g_RX10_11 C T e8 dX10_callAt_67 ?_
          refine lv_iload_n hx hb dX10_callAt_70 rfl (lv_at hl 2 rfl) ?_
          obtain ⟨a9, e10, h⟩ := ob_ h
          refine th_aald C T 13 e10 (by decide) rfl dX10_callAt_71 ?_
          obtain ⟨a11, e12, h⟩ := ob_ h
          refine g_RX10_102 C T e12 dX10_callAt_72 ?_
          refine lv_iconst (v := 0) hx hb dX10_callAt_75 (by decide) ?_
          obtain ⟨v13, e14, h⟩ := ob_ h
          refine th_ialdn C T e14 (by decide) (by decide) dX10_callAt_76 ?_
          refine lv_iload hx hb dX10_callAt_77 (lv_at hl 0 rfl) ?_
          refine lv_aload_n hx hb dX10_callAt_79 rfl (lv_at hl 1 rfl) ?_
          obtain ⟨a15, e16, h⟩ := ob_ h
          refine g_RX10_15 C T e16 dX10_callAt_80 ?_
          refine lv_iconst (v := 5) hx hb dX10_callAt_83 (by decide) ?_
          obtain ⟨v17, e18, h⟩ := ob_ h
          refine th_ialdn C T e18 (by decide) (by decide) dX10_callAt_84 ?_
          obtain ⟨k19, h⟩ := oc_ h
          obtain ⟨v20, μ21, e22, h⟩ := ob2 h
          refine th_callV (As := [.int x1, .int v13, .int (v4 + x3), .int v17]) (rest := []) C T (c_X10_wouldCome e22) k_RX10_172 10 rfl rfl (by decide) k19 rfl hl.1 rfl (st1 := [.int v20]) rfl (cells1 := 0) rfl (slots1 := 0) rfl (Nat.le_of_ble_eq_true rfl) ⟨Nat.le_of_ble_eq_true rfl, Nat.le_of_ble_eq_true rfl⟩ ⟨Nat.le_of_ble_eq_true rfl, Nat.le_of_ble_eq_true rfl⟩ dX10_callAt_85 (fun H locs T => ?_)
          refine lv_if_eq (tgt := 93) hx hb dX10_callAt_88 (by decide) (fun c23 => ?_) (fun c23 => ?_)
          · replace h := ot_ c23 h
            refine lv_iinc (v := x3 + 1) (lv' := [(3, .int (x3 + 1)), (4, .int (v4 + x3)), (0, .ref t), (1, .int x1), (2, .int x2)]) hx hb dX10_callAt_93 hl (k := 4) rfl rfl (by decide) rfl (fun ls hl => ?_)
            refine lv_goto (tgt := 40) hx hb dX10_callAt_96 (by decide) ?_
            exact ih40 _ _ _ _ _ _ _ _ T (lv_sub hl [2, 3, 4, 0] rfl) h
          · replace h := of_ c23 h
            refine lv_iload_n hx hb dX10_callAt_91 rfl (lv_at hl 4 rfl) ?_
            obtain ⟨rfl, rfl⟩ := os2 h
            exact th_iret hQ C hr hk T (Nat.le_of_ble_eq_true rfl) (Nat.le_of_ble_eq_true rfl) dX10_callAt_92
  unfold f_X10_callAt at h
  refine lv_aload_n hx hb dX10_callAt_0 rfl (lv_at hl 0 rfl) ?_
  refine lv_iload_n hx hb dX10_callAt_1 rfl (lv_at hl 1 rfl) ?_
  obtain ⟨k1, h⟩ := oc_ h
  obtain ⟨v2, e3, h⟩ := ob_ h
  refine th_callV (As := [.int x1]) (rest := []) C T (c_X10_isBoat e3) k_RX10_99 10 rfl rfl (by decide) k1 rfl hl.1 rfl (st1 := [.int v2]) rfl (cells1 := 0) rfl (slots1 := 0) rfl (Nat.le_of_ble_eq_true rfl) ⟨Nat.le_of_ble_eq_true rfl, Nat.le_of_ble_eq_true rfl⟩ ⟨Nat.le_of_ble_eq_true rfl, Nat.le_of_ble_eq_true rfl⟩ dX10_callAt_2 (fun H locs T => ?_)
  refine lv_if_ne (tgt := 11) hx hb dX10_callAt_5 (by decide) (fun c4 => ?_) (fun c4 => ?_)
  · replace h := of_ c4 h
    refine lv_aload_n hx hb dX10_callAt_11 rfl (lv_at hl 0 rfl) ?_
    refine lv_iload_n hx hb dX10_callAt_12 rfl (lv_at hl 1 rfl) ?_
    obtain ⟨v5, e6, h⟩ := ob_ h
    refine th_callV (As := [.int x1]) (rest := []) C T (c_X10_isOnTheLake e6) k_RX10_163 10 rfl rfl (by decide) k1 rfl hl.1 rfl (st1 := [.int v5]) rfl (cells1 := 0) rfl (slots1 := 0) rfl (Nat.le_of_ble_eq_true rfl) ⟨Nat.le_of_ble_eq_true rfl, Nat.le_of_ble_eq_true rfl⟩ ⟨Nat.le_of_ble_eq_true rfl, Nat.le_of_ble_eq_true rfl⟩ dX10_callAt_13 (fun H locs T => ?_)
    refine lv_if_ne (tgt := 22) hx hb dX10_callAt_16 (by decide) (fun c7 => ?_) (fun c7 => ?_)
    · replace h := of_ c7 h
      refine lv_aload_n hx hb dX10_callAt_22 rfl (lv_at hl 0 rfl) ?_
      obtain ⟨a8, e9, h⟩ := ob_ h
      refine g_RX10_11 C T e9 dX10_callAt_23 ?_
      refine lv_iload_n hx hb dX10_callAt_26 rfl (lv_at hl 1 rfl) ?_
      obtain ⟨a10, e11, h⟩ := ob_ h
      refine th_aald C T 13 e11 (by decide) rfl dX10_callAt_27 ?_
      obtain ⟨v12, e13, h⟩ := ob_ h
      refine vc_RX10_152 (rest := []) C T e13 hl.1 (st1 := [.int v12]) rfl (Nat.le_of_ble_eq_true rfl) ⟨Nat.le_of_ble_eq_true rfl, Nat.le_of_ble_eq_true rfl⟩ ⟨Nat.le_of_ble_eq_true rfl, Nat.le_of_ble_eq_true rfl⟩ dX10_callAt_28 (fun H locs T => ?_)
      refine lv_aload_n hx hb dX10_callAt_31 rfl (lv_at hl 0 rfl) ?_
      refine lv_iload_n hx hb dX10_callAt_32 rfl (lv_at hl 1 rfl) ?_
      obtain ⟨v14, e15, h⟩ := ob_ h
      refine th_callV (As := [.int x1]) (rest := [.int v12]) C T (c_X10_needs e15) k_RX10_166 10 rfl rfl (by decide) k1 rfl hl.1 rfl (st1 := [.int v14, .int v12]) rfl (cells1 := 0) rfl (slots1 := 0) rfl (Nat.le_of_ble_eq_true rfl) ⟨Nat.le_of_ble_eq_true rfl, Nat.le_of_ble_eq_true rfl⟩ ⟨Nat.le_of_ble_eq_true rfl, Nat.le_of_ble_eq_true rfl⟩ dX10_callAt_33 (fun H locs T => ?_)
      refine lv_isub hx hb dX10_callAt_36 ?_
      refine lv_istore_n (lv' := [(2, .int (v12 - v14)), (0, .ref t), (1, .int x1)]) hx hb dX10_callAt_37 rfl hl (by decide) rfl (fun ls hl => ?_)
      refine lv_iconst (v := 0) hx hb dX10_callAt_38 (by decide) ?_
      refine lv_istore_n (lv' := [(3, .int 0), (2, .int (v12 - v14)), (0, .ref t), (1, .int x1)]) hx hb dX10_callAt_39 rfl hl (by decide) rfl (fun ls hl => ?_)
      exact J40 fu _ _ _ _ _ _ _ _ T (lv_sub hl [2, 3, 1, 0] rfl) h
    · replace h := ot_ c7 h
      refine lv_bipush (v := -3) hx hb dX10_callAt_19 (by decide) ?_
      obtain ⟨rfl, rfl⟩ := os2 h
      exact th_iret hQ C hr hk T (Nat.le_of_ble_eq_true rfl) (Nat.le_of_ble_eq_true rfl) dX10_callAt_21
  · replace h := ot_ c4 h
    refine lv_bipush (v := -2) hx hb dX10_callAt_8 (by decide) ?_
    obtain ⟨rfl, rfl⟩ := os2 h
    exact th_iret hQ C hr hk T (Nat.le_of_ble_eq_true rfl) (Nat.le_of_ble_eq_true rfl) dX10_callAt_10
set_option maxRecDepth 100000 in
set_option maxHeartbeats 4000000 in
theorem c_X10_comingAt {l : Launch} {G : th_G} {σ : th_S} {μ : th_M} {t : Nat} {x1 : Int32} {r : Int32} {μ' : th_M} (h : f_X10_comingAt σ μ t x1 = some (r, μ')) : th_Met l G yX10_comingAt cX10_comingAt 2 (some FieldType.int) { frames := 6, cells := 0, slots := 0, locals := 170 } [.ref t, .int x1] σ μ (some (.int r)) σ μ' := by
  refine th_ofW (by decide +kernel) (Nat.le_of_ble_eq_true rfl) ?_
  intro p e s m args below meth c ls Q hQ C hr hk hnm T hl
  have hx := C.1
  have hb := C.2.1
  have C : CallFix p m c cX10_comingAt 2 s args th_ws RX10 := C
  have hl : lv_has ls 2 [(0, .ref t), (1, .int x1)] := hl
  unfold f_X10_comingAt at h
  refine lv_aload_n hx hb dX10_comingAt_0 rfl (lv_at hl 0 rfl) ?_
  obtain ⟨a1, e2, h⟩ := ob_ h
  refine g_RX10_11 C T e2 dX10_comingAt_1 ?_
  refine lv_iload_n hx hb dX10_comingAt_4 rfl (lv_at hl 1 rfl) ?_
  obtain ⟨a3, e4, h⟩ := ob_ h
  refine th_aald C T 13 e4 (by decide) rfl dX10_comingAt_5 ?_
  obtain ⟨a5, e6, h⟩ := ob_ h
  refine g_RX10_102 C T e6 dX10_comingAt_6 ?_
  refine lv_iconst (v := 4) hx hb dX10_comingAt_9 (by decide) ?_
  obtain ⟨v7, e8, h⟩ := ob_ h
  refine th_ialdn C T e8 (by decide) (by decide) dX10_comingAt_10 ?_
  refine lv_iconst (v := 1) hx hb dX10_comingAt_11 (by decide) ?_
  refine lv_icmp_ne (tgt := 27) hx hb dX10_comingAt_12 (by decide) (fun c9 => ?_) (fun c9 => ?_)
  · replace h := of_ c9 h
    refine lv_aload_n hx hb dX10_comingAt_27 rfl (lv_at hl 0 rfl) ?_
    refine lv_iload_n hx hb dX10_comingAt_28 rfl (lv_at hl 1 rfl) ?_
    obtain ⟨k10, h⟩ := oc_ h
    obtain ⟨v11, e12, h⟩ := ob_ h
    refine th_callV (As := [.int x1]) (rest := []) C T (c_X10_isOnTheLake e12) k_RX10_163 10 rfl rfl (by decide) k10 rfl hl.1 rfl (st1 := [.int v11]) rfl (cells1 := 0) rfl (slots1 := 0) rfl (Nat.le_of_ble_eq_true rfl) ⟨Nat.le_of_ble_eq_true rfl, Nat.le_of_ble_eq_true rfl⟩ ⟨Nat.le_of_ble_eq_true rfl, Nat.le_of_ble_eq_true rfl⟩ dX10_comingAt_29 (fun H locs T => ?_)
    refine lv_if_eq (tgt := 59) hx hb dX10_comingAt_32 (by decide) (fun c13 => ?_) (fun c13 => ?_)
    · replace h := ot_ c13 h
      refine lv_iconst (v := -1) hx hb dX10_comingAt_59 (by decide) ?_
      obtain ⟨rfl, rfl⟩ := os2 h
      exact th_iret hQ C hr hk T (Nat.le_of_ble_eq_true rfl) (Nat.le_of_ble_eq_true rfl) dX10_comingAt_60
    · replace h := of_ c13 h
      refine lv_aload_n hx hb dX10_comingAt_35 rfl (lv_at hl 0 rfl) ?_
      refine lv_iload_n hx hb dX10_comingAt_36 rfl (lv_at hl 1 rfl) ?_
      obtain ⟨v14, μ15, e16, h⟩ := ob2 h
      refine th_callV (As := [.int x1]) (rest := []) C T (c_X10_wouldComeNow e16) k_RX10_115 10 rfl rfl (by decide) k10 rfl hl.1 rfl (st1 := [.int v14]) rfl (cells1 := 0) rfl (slots1 := 0) rfl (Nat.le_of_ble_eq_true rfl) ⟨Nat.le_of_ble_eq_true rfl, Nat.le_of_ble_eq_true rfl⟩ ⟨Nat.le_of_ble_eq_true rfl, Nat.le_of_ble_eq_true rfl⟩ dX10_comingAt_37 (fun H locs T => ?_)
      refine lv_if_eq (tgt := 59) hx hb dX10_comingAt_40 (by decide) (fun c17 => ?_) (fun c17 => ?_)
      · replace h := ot_ c17 h
        refine lv_iconst (v := -1) hx hb dX10_comingAt_59 (by decide) ?_
        obtain ⟨rfl, rfl⟩ := os2 h
        exact th_iret hQ C hr hk T (Nat.le_of_ble_eq_true rfl) (Nat.le_of_ble_eq_true rfl) dX10_comingAt_60
      · replace h := of_ c17 h
        refine lv_aload_n hx hb dX10_comingAt_43 rfl (lv_at hl 0 rfl) ?_
        obtain ⟨a18, e19, h⟩ := ob_ h
        refine g_RX10_15 C T e19 dX10_comingAt_44 ?_
        refine lv_bipush (v := 9) hx hb dX10_comingAt_47 (by decide) ?_
        obtain ⟨v20, e21, h⟩ := ob_ h
        refine th_ialdn C T e21 (by decide) (by decide) dX10_comingAt_49 ?_
        refine lv_aload_n hx hb dX10_comingAt_50 rfl (lv_at hl 0 rfl) ?_
        refine lv_iload_n hx hb dX10_comingAt_51 rfl (lv_at hl 1 rfl) ?_
        obtain ⟨v22, e23, h⟩ := ob_ h
        refine th_callV (As := [.int x1]) (rest := [.int v20]) C T (c_X10_needs e23) k_RX10_166 10 rfl rfl (by decide) k10 rfl hl.1 rfl (st1 := [.int v22, .int v20]) rfl (cells1 := 0) rfl (slots1 := 0) rfl (Nat.le_of_ble_eq_true rfl) ⟨Nat.le_of_ble_eq_true rfl, Nat.le_of_ble_eq_true rfl⟩ ⟨Nat.le_of_ble_eq_true rfl, Nat.le_of_ble_eq_true rfl⟩ dX10_comingAt_52 (fun H locs T => ?_)
        refine lv_iadd hx hb dX10_comingAt_55 ?_
        refine lv_goto (tgt := 60) hx hb dX10_comingAt_56 (by decide) ?_
        obtain ⟨rfl, rfl⟩ := os2 h
        exact th_iret hQ C hr hk T (Nat.le_of_ble_eq_true rfl) (Nat.le_of_ble_eq_true rfl) dX10_comingAt_60
  · replace h := ot_ c9 h
    refine lv_aload_n hx hb dX10_comingAt_15 rfl (lv_at hl 0 rfl) ?_
    obtain ⟨a24, e25, h⟩ := ob_ h
    refine g_RX10_11 C T e25 dX10_comingAt_16 ?_
    refine lv_iload_n hx hb dX10_comingAt_19 rfl (lv_at hl 1 rfl) ?_
    obtain ⟨a26, e27, h⟩ := ob_ h
    refine th_aald C T 13 e27 (by decide) rfl dX10_comingAt_20 ?_
    obtain ⟨a28, e29, h⟩ := ob_ h
    refine g_RX10_102 C T e29 dX10_comingAt_21 ?_
    refine lv_iconst (v := 5) hx hb dX10_comingAt_24 (by decide) ?_
    obtain ⟨v30, e31, h⟩ := ob_ h
    refine th_ialdn C T e31 (by decide) (by decide) dX10_comingAt_25 ?_
    obtain ⟨rfl, rfl⟩ := os2 h
    exact th_iret hQ C hr hk T (Nat.le_of_ble_eq_true rfl) (Nat.le_of_ble_eq_true rfl) dX10_comingAt_26
set_option maxRecDepth 100000 in
set_option maxHeartbeats 4000000 in
theorem c_X10_allIn {l : Launch} {G : th_G} {σ : th_S} {μ : th_M} {t : Nat} {r : Int32} {μ' : th_M} (h : f_X10_allIn σ μ t = some (r, μ')) : th_Met l G yX10_allIn cX10_allIn 3 (some FieldType.int) { frames := 7, cells := 0, slots := 0, locals := 191 } [.ref t] σ μ (some (.int r)) σ μ' := by
  refine th_ofW (by decide +kernel) (Nat.le_of_ble_eq_true rfl) ?_
  intro p e s m args below meth c ls Q hQ C hr hk hnm T hl
  have hx := C.1
  have hb := C.2.1
  have C : CallFix p m c cX10_allIn 3 s args th_ws RX10 := C
  have hl : lv_has ls 3 [(0, .ref t)] := hl
  have J10 : ∀ (n : Nat) (μ : th_M) (t : Nat) (x1 : Int32) (x2 : Int32) (H : Heap) (locs : List Loc) (ls : Array Slot), th_R G s H locs σ μ → lv_has ls 3 [(0, .ref t), (1, .int x1), (2, .int x2)] → f_X10_allIn_b10  n σ μ t x1 x2 = some (r, μ') → W p l e { frames := 7, cells := 0, slots := 0, locals := 191 } s m args below meth c H locs 0 0 Q (F0 m 10 ls []) := by
    intro n
    induction n with
    | zero => intro μ t x1 x2 H locs ls T hl h; unfold f_X10_allIn_b10 at h; cases h
    | succ n10 ih10 =>
      intro μ t x1 x2 H locs ls T hl h
      unfold f_X10_allIn_b10 at h
      refine lv_iload_n hx hb dX10_allIn_10 rfl (lv_at hl 2 rfl) ?_
      refine lv_aload_n hx hb dX10_allIn_11 rfl (lv_at hl 0 rfl) ?_
      obtain ⟨v1, e2, h⟩ := ob_ h
      refine g_RX10_92 C T e2 dX10_allIn_12 ?_
      refine lv_icmp_ge (tgt := 34) hx hb dX10_allIn_15 (by decide) (fun c3 => ?_) (fun c3 => ?_)
      · replace h := ot_ c3 h
        refine lv_iload_n hx hb dX10_allIn_34 rfl (lv_at hl 1 rfl) ?_
        obtain ⟨rfl, rfl⟩ := os2 h
        exact th_iret hQ C hr hk T (Nat.le_of_ble_eq_true rfl) (Nat.le_of_ble_eq_true rfl) dX10_allIn_35
      · replace h := of_ c3 h
        refine lv_iload_n hx hb dX10_allIn_18 rfl (lv_at hl 1 rfl) ?_
        refine lv_aload_n hx hb dX10_allIn_19 rfl (lv_at hl 0 rfl) ?_
        refine lv_iload_n hx hb dX10_allIn_20 rfl (lv_at hl 2 rfl) ?_
        obtain ⟨k4, h⟩ := oc_ h
        obtain ⟨v5, μ6, e7, h⟩ := ob2 h
        refine th_callV (As := [.int x2]) (rest := [.int x1]) C T (c_X10_comingAt e7) k_RX10_176 10 rfl rfl (by decide) k4 rfl hl.1 rfl (st1 := [.int v5, .int x1]) rfl (cells1 := 0) rfl (slots1 := 0) rfl (Nat.le_of_ble_eq_true rfl) ⟨Nat.le_of_ble_eq_true rfl, Nat.le_of_ble_eq_true rfl⟩ ⟨Nat.le_of_ble_eq_true rfl, Nat.le_of_ble_eq_true rfl⟩ dX10_allIn_21 (fun H locs T => ?_)
        refine th_max C hl.1 w_568 w_478 w_11 w_479 (Nat.le_of_ble_eq_true rfl) (Nat.le_of_ble_eq_true rfl) (Nat.zero_le _) (Nat.zero_le _) dX10_allIn_24 ?_
        refine lv_istore_n (lv' := [(1, .int (jmax x1 v5)), (0, .ref t), (2, .int x2)]) hx hb dX10_allIn_27 rfl hl (by decide) rfl (fun ls hl => ?_)
        refine lv_iinc (v := x2 + 1) (lv' := [(2, .int (x2 + 1)), (1, .int (jmax x1 v5)), (0, .ref t)]) hx hb dX10_allIn_28 hl (k := 2) rfl rfl (by decide) rfl (fun ls hl => ?_)
        refine lv_goto (tgt := 10) hx hb dX10_allIn_31 (by decide) ?_
        exact ih10 _ _ _ _ _ _ _ T (lv_sub hl [2, 1, 0] rfl) h
  unfold f_X10_allIn at h
  refine lv_aload_n hx hb dX10_allIn_0 rfl (lv_at hl 0 rfl) ?_
  obtain ⟨a1, e2, h⟩ := ob_ h
  refine g_RX10_15 C T e2 dX10_allIn_1 ?_
  refine lv_bipush (v := 9) hx hb dX10_allIn_4 (by decide) ?_
  obtain ⟨v3, e4, h⟩ := ob_ h
  refine th_ialdn C T e4 (by decide) (by decide) dX10_allIn_6 ?_
  refine lv_istore_n (lv' := [(1, .int v3), (0, .ref t)]) hx hb dX10_allIn_7 rfl hl (by decide) rfl (fun ls hl => ?_)
  refine lv_iconst (v := 0) hx hb dX10_allIn_8 (by decide) ?_
  refine lv_istore_n (lv' := [(2, .int 0), (1, .int v3), (0, .ref t)]) hx hb dX10_allIn_9 rfl hl (by decide) rfl (fun ls hl => ?_)
  exact J10 fu _ _ _ _ _ _ _ T (lv_sub hl [2, 1, 0] rfl) h
set_option maxRecDepth 100000 in
set_option maxHeartbeats 4000000 in
theorem c_X10_those {l : Launch} {G : th_G} {σ : th_S} {μ : th_M} {t : Nat} {x1 : Int32} {r : Int32} (h : f_X10_those σ μ t x1 = some r) : th_Met l G yX10_those cX10_those 4 (some FieldType.int) { frames := 0, cells := 0, slots := 0, locals := 0 } [.ref t, .int x1] σ μ (some (.int r)) σ μ := by
  refine th_ofW (by decide +kernel) (Nat.le_of_ble_eq_true rfl) ?_
  intro p e s m args below meth c ls Q hQ C hr hk hnm T hl
  have hx := C.1
  have hb := C.2.1
  have C : CallFix p m c cX10_those 4 s args th_ws RX10 := C
  have hl : lv_has ls 4 [(0, .ref t), (1, .int x1)] := hl
  have J4 : ∀ (n : Nat) (t : Nat) (x1 : Int32) (x2 : Int32) (x3 : Int32) (H : Heap) (locs : List Loc) (ls : Array Slot), th_R G s H locs σ μ → lv_has ls 4 [(0, .ref t), (1, .int x1), (2, .int x2), (3, .int x3)] → f_X10_those_b4  n σ μ t x1 x2 x3 = some r → W p l e { frames := 0, cells := 0, slots := 0, locals := 0 } s m args below meth c H locs 0 0 Q (F0 m 4 ls []) := by
    intro n
    induction n with
    | zero => intro t x1 x2 x3 H locs ls T hl h; unfold f_X10_those_b4 at h; cases h
    | succ n4 ih4 =>
      intro t x1 x2 x3 H locs ls T hl h
      unfold f_X10_those_b4 at h
      refine lv_iload_n hx hb dX10_those_4 rfl (lv_at hl 3 rfl) ?_
      refine lv_aload_n hx hb dX10_those_5 rfl (lv_at hl 0 rfl) ?_
      obtain ⟨v1, e2, h⟩ := ob_ h
      refine g_RX10_92 C T e2 dX10_those_6 ?_
      refine lv_icmp_ge (tgt := 39) hx hb dX10_those_9 (by decide) (fun c3 => ?_) (fun c3 => ?_)
      · replace h := ot_ c3 h
        refine lv_iload_n hx hb dX10_those_39 rfl (lv_at hl 2 rfl) ?_
        obtain rfl := os1 h
        exact th_iret hQ C hr hk T (Nat.le_of_ble_eq_true rfl) (Nat.le_of_ble_eq_true rfl) dX10_those_40
      · replace h := of_ c3 h
        refine lv_aload_n hx hb dX10_those_12 rfl (lv_at hl 0 rfl) ?_
        obtain ⟨a4, e5, h⟩ := ob_ h
        refine g_RX10_11 C T e5 dX10_those_13 ?_
        refine lv_iload_n hx hb dX10_those_16 rfl (lv_at hl 3 rfl) ?_
        obtain ⟨a6, e7, h⟩ := ob_ h
        refine th_aald C T 13 e7 (by decide) rfl dX10_those_17 ?_
        obtain ⟨a8, e9, h⟩ := ob_ h
        refine g_RX10_102 C T e9 dX10_those_18 ?_
        refine lv_iconst (v := 4) hx hb dX10_those_21 (by decide) ?_
        obtain ⟨v10, e11, h⟩ := ob_ h
        refine th_ialdn C T e11 (by decide) (by decide) dX10_those_22 ?_
        refine lv_iload_n hx hb dX10_those_23 rfl (lv_at hl 1 rfl) ?_
        refine lv_icmp_ne (tgt := 33) hx hb dX10_those_24 (by decide) (fun c12 => ?_) (fun c12 => ?_)
        · replace h := of_ c12 h
          refine lv_iinc (v := x3 + 1) (lv' := [(3, .int (x3 + 1)), (0, .ref t), (1, .int x1), (2, .int x2)]) hx hb dX10_those_33 hl (k := 3) rfl rfl (by decide) rfl (fun ls hl => ?_)
          refine lv_goto (tgt := 4) hx hb dX10_those_36 (by decide) ?_
          exact ih4 _ _ _ _ _ _ _ T (lv_sub hl [1, 2, 3, 0] rfl) h
        · replace h := ot_ c12 h
          refine lv_iload_n hx hb dX10_those_27 rfl (lv_at hl 2 rfl) ?_
          refine lv_iconst (v := 1) hx hb dX10_those_28 (by decide) ?_
          refine lv_iload_n hx hb dX10_those_29 rfl (lv_at hl 3 rfl) ?_
          refine th_ishl C dX10_those_30 ?_
          refine lv_ior hx hb dX10_those_31 ?_
          refine lv_istore_n (lv' := [(2, .int (x2 ||| (jshl 1 x3))), (0, .ref t), (1, .int x1), (3, .int x3)]) hx hb dX10_those_32 rfl hl (by decide) rfl (fun ls hl => ?_)
          refine lv_iinc (v := x3 + 1) (lv' := [(3, .int (x3 + 1)), (2, .int (x2 ||| (jshl 1 x3))), (0, .ref t), (1, .int x1)]) hx hb dX10_those_33 hl (k := 3) rfl rfl (by decide) rfl (fun ls hl => ?_)
          refine lv_goto (tgt := 4) hx hb dX10_those_36 (by decide) ?_
          exact ih4 _ _ _ _ _ _ _ T (lv_sub hl [2, 3, 1, 0] rfl) h
  unfold f_X10_those at h
  refine lv_iconst (v := 0) hx hb dX10_those_0 (by decide) ?_
  refine lv_istore_n (lv' := [(2, .int 0), (0, .ref t), (1, .int x1)]) hx hb dX10_those_1 rfl hl (by decide) rfl (fun ls hl => ?_)
  refine lv_iconst (v := 0) hx hb dX10_those_2 (by decide) ?_
  refine lv_istore_n (lv' := [(3, .int 0), (2, .int 0), (0, .ref t), (1, .int x1)]) hx hb dX10_those_3 rfl hl (by decide) rfl (fun ls hl => ?_)
  exact J4 fu _ _ _ _ _ _ _ T (lv_sub hl [2, 3, 1, 0] rfl) h
set_option maxRecDepth 100000 in
set_option maxHeartbeats 4000000 in
theorem c_X10_areOnTheLake {l : Launch} {G : th_G} {σ : th_S} {μ : th_M} {t : Nat} {x1 : Int32} {r : Int32} (h : f_X10_areOnTheLake σ μ t x1 = some r) : th_Met l G yX10_areOnTheLake cX10_areOnTheLake 2 (some FieldType.boolean) { frames := 1, cells := 0, slots := 0, locals := 23 } [.ref t, .int x1] σ μ (some (.int r)) σ μ := by
  refine th_ofW (by decide +kernel) (Nat.le_of_ble_eq_true rfl) ?_
  intro p e s m args below meth c ls Q hQ C hr hk hnm T hl
  have hx := C.1
  have hb := C.2.1
  have C : CallFix p m c cX10_areOnTheLake 2 s args th_ws RX10 := C
  have hl : lv_has ls 2 [(0, .ref t), (1, .int x1)] := hl
  unfold f_X10_areOnTheLake at h
  refine lv_iload_n hx hb dX10_areOnTheLake_0 rfl (lv_at hl 1 rfl) ?_
  refine lv_aload_n hx hb dX10_areOnTheLake_1 rfl (lv_at hl 0 rfl) ?_
  refine lv_iconst (v := 0) hx hb dX10_areOnTheLake_2 (by decide) ?_
  obtain ⟨k1, h⟩ := oc_ h
  obtain ⟨v2, e3, h⟩ := ob_ h
  refine th_callV (As := [.int 0]) (rest := [.int x1]) C T (c_X10_those e3) k_RX10_245 10 rfl rfl (by decide) k1 rfl hl.1 rfl (st1 := [.int v2, .int x1]) rfl (cells1 := 0) rfl (slots1 := 0) rfl (Nat.le_of_ble_eq_true rfl) ⟨Nat.le_of_ble_eq_true rfl, Nat.le_of_ble_eq_true rfl⟩ ⟨Nat.le_of_ble_eq_true rfl, Nat.le_of_ble_eq_true rfl⟩ dX10_areOnTheLake_3 (fun H locs T => ?_)
  refine lv_iconst (v := -1) hx hb dX10_areOnTheLake_6 (by decide) ?_
  refine lv_ixor hx hb dX10_areOnTheLake_7 ?_
  refine lv_iand hx hb dX10_areOnTheLake_8 ?_
  refine lv_if_ne (tgt := 16) hx hb dX10_areOnTheLake_9 (by decide) (fun c4 => ?_) (fun c4 => ?_)
  · replace h := of_ c4 h
    refine lv_iconst (v := 0) hx hb dX10_areOnTheLake_16 (by decide) ?_
    obtain rfl := os1 h
    exact th_zret hQ C hr hk T (Nat.le_of_ble_eq_true rfl) (Nat.le_of_ble_eq_true rfl) dX10_areOnTheLake_17 rfl
  · replace h := ot_ c4 h
    refine lv_iconst (v := 1) hx hb dX10_areOnTheLake_12 (by decide) ?_
    refine lv_goto (tgt := 17) hx hb dX10_areOnTheLake_13 (by decide) ?_
    obtain rfl := os1 h
    exact th_zret hQ C hr hk T (Nat.le_of_ble_eq_true rfl) (Nat.le_of_ble_eq_true rfl) dX10_areOnTheLake_17 rfl
set_option maxRecDepth 100000 in
set_option maxHeartbeats 4000000 in
theorem c_X10_readyTug {l : Launch} {G : th_G} {σ : th_S} {μ : th_M} {t : Nat}  {μ' : th_M} (h : f_X10_readyTug σ μ t = some μ') : th_Met l G yX10_readyTug cX10_readyTug 2 none { frames := 0, cells := 0, slots := 0, locals := 0 } [.ref t] σ μ none σ μ' := by
  refine th_ofW (by decide +kernel) (Nat.le_of_ble_eq_true rfl) ?_
  intro p e s m args below meth c ls Q hQ C hr hk hnm T hl
  have hx := C.1
  have hb := C.2.1
  have C : CallFix p m c cX10_readyTug 2 s args th_ws RX10 := C
  have hl : lv_has ls 2 [(0, .ref t)] := hl
  have J2 : ∀ (n : Nat) (μ : th_M) (t : Nat) (x1 : Int32) (H : Heap) (locs : List Loc) (ls : Array Slot), th_R G s H locs σ μ → lv_has ls 2 [(0, .ref t), (1, .int x1)] → f_X10_readyTug_b2  n σ μ t x1 = some μ' → W p l e { frames := 0, cells := 0, slots := 0, locals := 0 } s m args below meth c H locs 0 0 Q (F0 m 2 ls []) := by
    intro n
    induction n with
    | zero => intro μ t x1 H locs ls T hl h; unfold f_X10_readyTug_b2 at h; cases h
    | succ n2 ih2 =>
      intro μ t x1 H locs ls T hl h
      unfold f_X10_readyTug_b2 at h
      refine lv_iload_n hx hb dX10_readyTug_2 rfl (lv_at hl 1 rfl) ?_
      refine lv_aload_n hx hb dX10_readyTug_3 rfl (lv_at hl 0 rfl) ?_
      obtain ⟨v1, e2, h⟩ := ob_ h
      refine g_RX10_92 C T e2 dX10_readyTug_4 ?_
      refine lv_icmp_ge (tgt := 36) hx hb dX10_readyTug_7 (by decide) (fun c3 => ?_) (fun c3 => ?_)
      · replace h := ot_ c3 h
        refine lv_aload_n hx hb dX10_readyTug_36 rfl (lv_at hl 0 rfl) ?_
        obtain ⟨a4, e5, h⟩ := ob_ h
        refine g_RX10_45 C T e5 dX10_readyTug_37 ?_
        refine lv_aload_n hx hb dX10_readyTug_40 rfl (lv_at hl 0 rfl) ?_
        obtain ⟨a6, e7, h⟩ := ob_ h
        refine g_RX10_15 C T e7 dX10_readyTug_41 ?_
        refine lv_bipush (v := 6) hx hb dX10_readyTug_44 (by decide) ?_
        obtain ⟨v8, e9, h⟩ := ob_ h
        refine th_ialdn C T e9 (by decide) (by decide) dX10_readyTug_46 ?_
        obtain ⟨μ10, e11, h⟩ := ob_ h
        refine p_RX10_274 C T e11 dX10_readyTug_47 (fun H locs T => ?_)
        refine lv_aload_n hx hb dX10_readyTug_50 rfl (lv_at hl 0 rfl) ?_
        obtain ⟨a12, e13, h⟩ := ob_ h
        refine g_RX10_45 C T e13 dX10_readyTug_51 ?_
        refine lv_aload_n hx hb dX10_readyTug_54 rfl (lv_at hl 0 rfl) ?_
        obtain ⟨a14, e15, h⟩ := ob_ h
        refine g_RX10_15 C T e15 dX10_readyTug_55 ?_
        refine lv_bipush (v := 7) hx hb dX10_readyTug_58 (by decide) ?_
        obtain ⟨v16, e17, h⟩ := ob_ h
        refine th_ialdn C T e17 (by decide) (by decide) dX10_readyTug_60 ?_
        obtain ⟨μ18, e19, h⟩ := ob_ h
        refine p_RX10_277 C T e19 dX10_readyTug_61 (fun H locs T => ?_)
        obtain rfl := os1 h
        exact th_vret hQ C hr hk T (Nat.le_of_ble_eq_true rfl) (Nat.le_of_ble_eq_true rfl) dX10_readyTug_64
      · replace h := of_ c3 h
        refine lv_aload_n hx hb dX10_readyTug_10 rfl (lv_at hl 0 rfl) ?_
        obtain ⟨a20, e21, h⟩ := ob_ h
        refine g_RX10_45 C T e21 dX10_readyTug_11 ?_
        obtain ⟨a22, e23, h⟩ := ob_ h
        refine g_RX10_271 C T e23 dX10_readyTug_14 ?_
        refine lv_iload_n hx hb dX10_readyTug_17 rfl (lv_at hl 1 rfl) ?_
        refine lv_aload_n hx hb dX10_readyTug_18 rfl (lv_at hl 0 rfl) ?_
        obtain ⟨a24, e25, h⟩ := ob_ h
        refine g_RX10_11 C T e25 dX10_readyTug_19 ?_
        refine lv_iload_n hx hb dX10_readyTug_22 rfl (lv_at hl 1 rfl) ?_
        obtain ⟨a26, e27, h⟩ := ob_ h
        refine th_aald C T 13 e27 (by decide) rfl dX10_readyTug_23 ?_
        obtain ⟨a28, e29, h⟩ := ob_ h
        refine g_RX10_102 C T e29 dX10_readyTug_24 ?_
        refine lv_iconst (v := 0) hx hb dX10_readyTug_27 (by decide) ?_
        obtain ⟨v30, e31, h⟩ := ob_ h
        refine th_ialdn C T e31 (by decide) (by decide) dX10_readyTug_28 ?_
        obtain ⟨μ32, e33, h⟩ := ob_ h
        refine th_iast C T e33 dX10_readyTug_29 (fun H locs T => ?_)
        refine lv_iinc (v := x1 + 1) (lv' := [(1, .int (x1 + 1)), (0, .ref t)]) hx hb dX10_readyTug_30 hl (k := 1) rfl rfl (by decide) rfl (fun ls hl => ?_)
        refine lv_goto (tgt := 2) hx hb dX10_readyTug_33 (by decide) ?_
        exact ih2 _ _ _ _ _ _ T (lv_sub hl [1, 0] rfl) h
  unfold f_X10_readyTug at h
  refine lv_iconst (v := 0) hx hb dX10_readyTug_0 (by decide) ?_
  refine lv_istore_n (lv' := [(1, .int 0), (0, .ref t)]) hx hb dX10_readyTug_1 rfl hl (by decide) rfl (fun ls hl => ?_)
  exact J2 fu _ _ _ _ _ _ T (lv_sub hl [1, 0] rfl) h
set_option maxRecDepth 100000 in
set_option maxHeartbeats 4000000 in
theorem c_X10_fetch {l : Launch} {G : th_G} {σ : th_S} {μ : th_M} {t : Nat} {x1 : Int32} {x2 : Int32} {r : Int32} {μ' : th_M} (h : f_X10_fetch σ μ t x1 x2 = some (r, μ')) : th_Met l G yX10_fetch cX10_fetch 3 (some FieldType.int) { frames := 6, cells := 0, slots := 0, locals := 204 } [.ref t, .int x1, .int x2] σ μ (some (.int r)) σ μ' := by
  refine th_ofW (by decide +kernel) (Nat.le_of_ble_eq_true rfl) ?_
  intro p e s m args below meth c ls Q hQ C hr hk hnm T hl
  have hx := C.1
  have hb := C.2.1
  have C : CallFix p m c cX10_fetch 3 s args th_ws RX10 := C
  have hl : lv_has ls 3 [(0, .ref t), (1, .int x1), (2, .int x2)] := hl
  unfold f_X10_fetch at h
  refine lv_aload_n hx hb dX10_fetch_0 rfl (lv_at hl 0 rfl) ?_
  refine lv_iload_n hx hb dX10_fetch_1 rfl (lv_at hl 1 rfl) ?_
  obtain ⟨k1, h⟩ := oc_ h
  obtain ⟨v2, e3, h⟩ := ob_ h
  refine th_callV (As := [.int x1]) (rest := []) C T (c_X10_areOnTheLake e3) k_RX10_202 10 rfl rfl (by decide) k1 rfl hl.1 rfl (st1 := [.int v2]) rfl (cells1 := 0) rfl (slots1 := 0) rfl (Nat.le_of_ble_eq_true rfl) ⟨Nat.le_of_ble_eq_true rfl, Nat.le_of_ble_eq_true rfl⟩ ⟨Nat.le_of_ble_eq_true rfl, Nat.le_of_ble_eq_true rfl⟩ dX10_fetch_2 (fun H locs T => ?_)
  refine lv_if_eq (tgt := 18) hx hb dX10_fetch_5 (by decide) (fun c4 => ?_) (fun c4 => ?_)
  · replace h := ot_ c4 h
    refine lv_bipush (v := -2) hx hb dX10_fetch_18 (by decide) ?_
    obtain ⟨rfl, rfl⟩ := os2 h
    exact th_iret hQ C hr hk T (Nat.le_of_ble_eq_true rfl) (Nat.le_of_ble_eq_true rfl) dX10_fetch_20
  · replace h := of_ c4 h
    refine lv_iload_n hx hb dX10_fetch_8 rfl (lv_at hl 2 rfl) ?_
    refine lv_if_lt (tgt := 18) hx hb dX10_fetch_9 (by decide) (fun c5 => ?_) (fun c5 => ?_)
    · replace h := ot_ c5 h
      refine lv_bipush (v := -2) hx hb dX10_fetch_18 (by decide) ?_
      obtain ⟨rfl, rfl⟩ := os2 h
      exact th_iret hQ C hr hk T (Nat.le_of_ble_eq_true rfl) (Nat.le_of_ble_eq_true rfl) dX10_fetch_20
    · replace h := of_ c5 h
      refine lv_iload_n hx hb dX10_fetch_12 rfl (lv_at hl 2 rfl) ?_
      refine lv_bipush (v := 7) hx hb dX10_fetch_13 (by decide) ?_
      refine lv_icmp_le (tgt := 21) hx hb dX10_fetch_15 (by decide) (fun c6 => ?_) (fun c6 => ?_)
      · replace h := ot_ c6 h
        refine lv_aload_n hx hb dX10_fetch_21 rfl (lv_at hl 0 rfl) ?_
        obtain ⟨μ7, e8, h⟩ := ob_ h
        refine th_callV (As := []) (rest := []) C T (c_X10_readyTug e8) k_RX10_205 10 rfl rfl (by decide) k1 rfl hl.1 rfl (st1 := []) rfl (cells1 := 0) rfl (slots1 := 0) rfl (Nat.le_of_ble_eq_true rfl) ⟨Nat.le_of_ble_eq_true rfl, Nat.le_of_ble_eq_true rfl⟩ ⟨Nat.le_of_ble_eq_true rfl, Nat.le_of_ble_eq_true rfl⟩ dX10_fetch_22 (fun H locs T => ?_)
        refine lv_iload_n hx hb dX10_fetch_25 rfl (lv_at hl 2 rfl) ?_
        refine lv_if_ne (tgt := 40) hx hb dX10_fetch_26 (by decide) (fun c9 => ?_) (fun c9 => ?_)
        · replace h := of_ c9 h
          refine lv_aload_n hx hb dX10_fetch_40 rfl (lv_at hl 0 rfl) ?_
          obtain ⟨a10, e11, h⟩ := ob_ h
          refine g_RX10_45 C T e11 dX10_fetch_41 ?_
          refine lv_iload_n hx hb dX10_fetch_44 rfl (lv_at hl 1 rfl) ?_
          refine lv_iload_n hx hb dX10_fetch_45 rfl (lv_at hl 2 rfl) ?_
          obtain ⟨k12, h⟩ := oc_ h
          obtain ⟨v13, μ14, e15, h⟩ := ob2 h
          refine th_callV (As := [.int x1, .int x2]) (rest := []) C T (c_X9_fetchedAs e15) k_RX10_211 9 rfl rfl (by decide) k12 rfl hl.1 rfl (st1 := [.int v13]) rfl (cells1 := 0) rfl (slots1 := 0) rfl (Nat.le_of_ble_eq_true rfl) ⟨Nat.le_of_ble_eq_true rfl, Nat.le_of_ble_eq_true rfl⟩ ⟨Nat.le_of_ble_eq_true rfl, Nat.le_of_ble_eq_true rfl⟩ dX10_fetch_46 (fun H locs T => ?_)
          obtain ⟨rfl, rfl⟩ := os2 h
          exact th_iret hQ C hr hk T (Nat.le_of_ble_eq_true rfl) (Nat.le_of_ble_eq_true rfl) dX10_fetch_49
        · replace h := ot_ c9 h
          refine lv_aload_n hx hb dX10_fetch_29 rfl (lv_at hl 0 rfl) ?_
          obtain ⟨a16, e17, h⟩ := ob_ h
          refine g_RX10_45 C T e17 dX10_fetch_30 ?_
          refine lv_iload_n hx hb dX10_fetch_33 rfl (lv_at hl 1 rfl) ?_
          obtain ⟨k18, h⟩ := oc_ h
          obtain ⟨v19, μ20, e21, h⟩ := ob2 h
          refine th_callV (As := [.int x1]) (rest := []) C T (c_X9_minutes e21) k_RX10_208 9 rfl rfl (by decide) k18 rfl hl.1 rfl (st1 := [.int v19]) rfl (cells1 := 0) rfl (slots1 := 0) rfl (Nat.le_of_ble_eq_true rfl) ⟨Nat.le_of_ble_eq_true rfl, Nat.le_of_ble_eq_true rfl⟩ ⟨Nat.le_of_ble_eq_true rfl, Nat.le_of_ble_eq_true rfl⟩ dX10_fetch_34 (fun H locs T => ?_)
          refine lv_goto (tgt := 49) hx hb dX10_fetch_37 (by decide) ?_
          obtain ⟨rfl, rfl⟩ := os2 h
          exact th_iret hQ C hr hk T (Nat.le_of_ble_eq_true rfl) (Nat.le_of_ble_eq_true rfl) dX10_fetch_49
      · replace h := of_ c6 h
        refine lv_bipush (v := -2) hx hb dX10_fetch_18 (by decide) ?_
        obtain ⟨rfl, rfl⟩ := os2 h
        exact th_iret hQ C hr hk T (Nat.le_of_ble_eq_true rfl) (Nat.le_of_ble_eq_true rfl) dX10_fetch_20
set_option maxRecDepth 100000 in
set_option maxHeartbeats 4000000 in
theorem c_X10_launch {l : Launch} {G : th_G} {σ : th_S} {μ : th_M} {t : Nat} {x1 : Int32} {r : Int32} {μ' : th_M} (h : f_X10_launch σ μ t x1 = some (r, μ')) : th_Met l G yX10_launch cX10_launch 4 (some FieldType.int) { frames := 7, cells := 0, slots := 0, locals := 193 } [.ref t, .int x1] σ μ (some (.int r)) σ μ' := by
  refine th_ofW (by decide +kernel) (Nat.le_of_ble_eq_true rfl) ?_
  intro p e s m args below meth c ls Q hQ C hr hk hnm T hl
  have hx := C.1
  have hb := C.2.1
  have C : CallFix p m c cX10_launch 4 s args th_ws RX10 := C
  have hl : lv_has ls 4 [(0, .ref t), (1, .int x1)] := hl
  have J32 : ∀ (n : Nat) (μ : th_M) (t : Nat) (x1 : Int32) (x2 : Int32) (x3 : Int32) (H : Heap) (locs : List Loc) (ls : Array Slot), th_R G s H locs σ μ → lv_has ls 4 [(0, .ref t), (1, .int x1), (2, .int x2), (3, .int x3)] → f_X10_launch_b32  n σ μ t x1 x2 x3 = some (r, μ') → W p l e { frames := 7, cells := 0, slots := 0, locals := 193 } s m args below meth c H locs 0 0 Q (F0 m 32 ls []) := by
    intro n
    induction n with
    | zero => intro μ t x1 x2 x3 H locs ls T hl h; unfold f_X10_launch_b32 at h; cases h
    | succ n32 ih32 =>
      intro μ t x1 x2 x3 H locs ls T hl h
      unfold f_X10_launch_b32 at h
      refine lv_iload_n hx hb dX10_launch_32 rfl (lv_at hl 3 rfl) ?_
      refine lv_aload_n hx hb dX10_launch_33 rfl (lv_at hl 0 rfl) ?_
      obtain ⟨v1, e2, h⟩ := ob_ h
      refine g_RX10_92 C T e2 dX10_launch_34 ?_
      refine lv_icmp_ge (tgt := 67) hx hb dX10_launch_37 (by decide) (fun c3 => ?_) (fun c3 => ?_)
      · replace h := ot_ c3 h
        refine lv_iload_n hx hb dX10_launch_67 rfl (lv_at hl 2 rfl) ?_
        obtain ⟨rfl, rfl⟩ := os2 h
        exact th_iret hQ C hr hk T (Nat.le_of_ble_eq_true rfl) (Nat.le_of_ble_eq_true rfl) dX10_launch_68
      · replace h := of_ c3 h
        refine lv_iload_n hx hb dX10_launch_40 rfl (lv_at hl 1 rfl) ?_
        refine lv_iload_n hx hb dX10_launch_41 rfl (lv_at hl 3 rfl) ?_
        refine th_ishr C dX10_launch_42 ?_
        refine lv_iconst (v := 1) hx hb dX10_launch_43 (by decide) ?_
        refine lv_iand hx hb dX10_launch_44 ?_
        refine lv_iconst (v := 1) hx hb dX10_launch_45 (by decide) ?_
        refine lv_icmp_ne (tgt := 61) hx hb dX10_launch_46 (by decide) (fun c4 => ?_) (fun c4 => ?_)
        · replace h := of_ c4 h
          refine lv_iinc (v := x3 + 1) (lv' := [(3, .int (x3 + 1)), (0, .ref t), (1, .int x1), (2, .int x2)]) hx hb dX10_launch_61 hl (k := 3) rfl rfl (by decide) rfl (fun ls hl => ?_)
          refine lv_goto (tgt := 32) hx hb dX10_launch_64 (by decide) ?_
          exact ih32 _ _ _ _ _ _ _ _ T (lv_sub hl [1, 2, 3, 0] rfl) h
        · replace h := ot_ c4 h
          refine lv_aload_n hx hb dX10_launch_49 rfl (lv_at hl 0 rfl) ?_
          refine lv_iload_n hx hb dX10_launch_50 rfl (lv_at hl 3 rfl) ?_
          refine lv_aload_n hx hb dX10_launch_51 rfl (lv_at hl 0 rfl) ?_
          obtain ⟨a5, e6, h⟩ := ob_ h
          refine g_RX10_15 C T e6 dX10_launch_52 ?_
          refine lv_bipush (v := 9) hx hb dX10_launch_55 (by decide) ?_
          obtain ⟨v7, e8, h⟩ := ob_ h
          refine th_ialdn C T e8 (by decide) (by decide) dX10_launch_57 ?_
          obtain ⟨k9, h⟩ := oc_ h
          obtain ⟨μ10, e11, h⟩ := ob_ h
          refine th_callV (As := [.int x3, .int v7]) (rest := []) C T (c_X10_comeIn e11) k_RX10_196 10 rfl rfl (by decide) k9 rfl hl.1 rfl (st1 := []) rfl (cells1 := 0) rfl (slots1 := 0) rfl (Nat.le_of_ble_eq_true rfl) ⟨Nat.le_of_ble_eq_true rfl, Nat.le_of_ble_eq_true rfl⟩ ⟨Nat.le_of_ble_eq_true rfl, Nat.le_of_ble_eq_true rfl⟩ dX10_launch_58 (fun H locs T => ?_)
          refine lv_iinc (v := x3 + 1) (lv' := [(3, .int (x3 + 1)), (0, .ref t), (1, .int x1), (2, .int x2)]) hx hb dX10_launch_61 hl (k := 3) rfl rfl (by decide) rfl (fun ls hl => ?_)
          refine lv_goto (tgt := 32) hx hb dX10_launch_64 (by decide) ?_
          exact ih32 _ _ _ _ _ _ _ _ T (lv_sub hl [1, 2, 3, 0] rfl) h
  unfold f_X10_launch at h
  refine lv_aload_n hx hb dX10_launch_0 rfl (lv_at hl 0 rfl) ?_
  refine lv_iload_n hx hb dX10_launch_1 rfl (lv_at hl 1 rfl) ?_
  obtain ⟨k1, h⟩ := oc_ h
  obtain ⟨v2, e3, h⟩ := ob_ h
  refine th_callV (As := [.int x1]) (rest := []) C T (c_X10_areOnTheLake e3) k_RX10_202 10 rfl rfl (by decide) k1 rfl hl.1 rfl (st1 := [.int v2]) rfl (cells1 := 0) rfl (slots1 := 0) rfl (Nat.le_of_ble_eq_true rfl) ⟨Nat.le_of_ble_eq_true rfl, Nat.le_of_ble_eq_true rfl⟩ ⟨Nat.le_of_ble_eq_true rfl, Nat.le_of_ble_eq_true rfl⟩ dX10_launch_2 (fun H locs T => ?_)
  refine lv_if_ne (tgt := 11) hx hb dX10_launch_5 (by decide) (fun c4 => ?_) (fun c4 => ?_)
  · replace h := of_ c4 h
    refine lv_aload_n hx hb dX10_launch_11 rfl (lv_at hl 0 rfl) ?_
    obtain ⟨μ5, e6, h⟩ := ob_ h
    refine th_callV (As := []) (rest := []) C T (c_X10_readyTug e6) k_RX10_205 10 rfl rfl (by decide) k1 rfl hl.1 rfl (st1 := []) rfl (cells1 := 0) rfl (slots1 := 0) rfl (Nat.le_of_ble_eq_true rfl) ⟨Nat.le_of_ble_eq_true rfl, Nat.le_of_ble_eq_true rfl⟩ ⟨Nat.le_of_ble_eq_true rfl, Nat.le_of_ble_eq_true rfl⟩ dX10_launch_12 (fun H locs T => ?_)
    refine lv_aload_n hx hb dX10_launch_15 rfl (lv_at hl 0 rfl) ?_
    obtain ⟨a7, e8, h⟩ := ob_ h
    refine g_RX10_45 C T e8 dX10_launch_16 ?_
    refine lv_iload_n hx hb dX10_launch_19 rfl (lv_at hl 1 rfl) ?_
    obtain ⟨k9, h⟩ := oc_ h
    obtain ⟨v10, μ11, e12, h⟩ := ob2 h
    refine th_callV (As := [.int x1]) (rest := []) C T (c_X9_minutes e12) k_RX10_208 9 rfl rfl (by decide) k9 rfl hl.1 rfl (st1 := [.int v10]) rfl (cells1 := 0) rfl (slots1 := 0) rfl (Nat.le_of_ble_eq_true rfl) ⟨Nat.le_of_ble_eq_true rfl, Nat.le_of_ble_eq_true rfl⟩ ⟨Nat.le_of_ble_eq_true rfl, Nat.le_of_ble_eq_true rfl⟩ dX10_launch_20 (fun H locs T => ?_)
    refine lv_istore_n (lv' := [(2, .int v10), (0, .ref t), (1, .int x1)]) hx hb dX10_launch_23 rfl hl (by decide) rfl (fun ls hl => ?_)
    refine lv_aload_n hx hb dX10_launch_24 rfl (lv_at hl 1 rfl) ?_
    refine lv_iload_n hx hb dX10_launch_25 rfl (lv_at hl 0 rfl) ?_
    obtain ⟨v13, μ14, e15, h⟩ := ob2 h
    refine th_callV (As := [.int v10]) (rest := []) C T (c_X10_pass e15) k_RX10_169 10 rfl rfl (by decide) k1 rfl hl.1 rfl (st1 := [.int v13]) rfl (cells1 := 0) rfl (slots1 := 0) rfl (Nat.le_of_ble_eq_true rfl) ⟨Nat.le_of_ble_eq_true rfl, Nat.le_of_ble_eq_true rfl⟩ ⟨Nat.le_of_ble_eq_true rfl, Nat.le_of_ble_eq_true rfl⟩ dX10_launch_26 (fun H locs T => ?_)
    refine lv_pop hx hb dX10_launch_29 rfl ?_
    refine lv_iconst (v := 0) hx hb dX10_launch_30 (by decide) ?_
    refine lv_istore_n (lv' := [(3, .int 0), (2, .int v10), (0, .ref t), (1, .int x1)]) hx hb dX10_launch_31 rfl hl (by decide) rfl (fun ls hl => ?_)
    exact J32 fu _ _ _ _ _ _ _ _ T (lv_sub hl [2, 3, 1, 0] rfl) h
  · replace h := ot_ c4 h
    refine lv_bipush (v := -2) hx hb dX10_launch_8 (by decide) ?_
    obtain ⟨rfl, rfl⟩ := os2 h
    exact th_iret hQ C hr hk T (Nat.le_of_ble_eq_true rfl) (Nat.le_of_ble_eq_true rfl) dX10_launch_10
