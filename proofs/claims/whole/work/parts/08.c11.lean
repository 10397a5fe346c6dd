set_option maxRecDepth 100000 in
set_option maxHeartbeats 4000000 in
theorem c_X11_force {l : Launch} {G : th_G} {σ : th_S} {μ : th_M} {t : Nat} {x1 : Int32} {r : Int32} {μ' : th_M} (h : f_X11_force σ μ t x1 = some (r, μ')) : th_Met l G yX11_force cX11_force 3 (some FieldType.int) { frames := 1, cells := 0, slots := 0, locals := 22 } [.ref t, .int x1] σ μ (some (.int r)) σ μ' := by
  refine th_ofW (by decide +kernel) (Nat.le_of_ble_eq_true rfl) ?_
  intro p e s m args below meth c ls Q hQ C hr hk hnm T hl
  have hx := C.1
  have hb := C.2.1
  have C : CallFix p m c cX11_force 3 s args th_ws RX11 := C
  have hl : lv_has ls 3 [(0, .ref t), (1, .int x1)] := hl
  unfold f_X11_force at h
  refine lv_iload_n hx hb dX11_force_0 rfl (lv_at hl 1 rfl) ?_
  refine lv_iconst (v := 0) hx hb dX11_force_1 (by decide) ?_
  refine lv_aload_n hx hb dX11_force_2 rfl (lv_at hl 0 rfl) ?_
  obtain ⟨v1, e2, h⟩ := ob_ h
  refine g_RX11_190 C T e2 dX11_force_3 ?_
  refine lv_iconst (v := 1) hx hb dX11_force_6 (by decide) ?_
  refine lv_isub hx hb dX11_force_7 ?_
  obtain ⟨v3, e4, h⟩ := ob_ h
  refine th_callS (As := [.int x1, .int 0, .int (v1 - 1)]) (rest := []) C T (c_X11_within e4) k_RX11_102 rfl hl.1 rfl (st1 := [.int v3]) rfl (cells1 := 0) rfl (slots1 := 0) rfl (Nat.le_of_ble_eq_true rfl) ⟨Nat.le_of_ble_eq_true rfl, Nat.le_of_ble_eq_true rfl⟩ ⟨Nat.le_of_ble_eq_true rfl, Nat.le_of_ble_eq_true rfl⟩ dX11_force_8 (fun H locs T => ?_)
  refine lv_if_ne (tgt := 17) hx hb dX11_force_11 (by decide) (fun c5 => ?_) (fun c5 => ?_)
  · replace h := of_ c5 h
    refine lv_aload_n hx hb dX11_force_17 rfl (lv_at hl 0 rfl) ?_
    obtain ⟨v6, e7, h⟩ := ob_ h
    refine g_RX11_129 C T e7 dX11_force_18 ?_
    refine lv_istore_n (lv' := [(2, .int v6), (0, .ref t), (1, .int x1)]) hx hb dX11_force_21 rfl hl (by decide) rfl (fun ls hl => ?_)
    refine lv_aload_n hx hb dX11_force_22 rfl (lv_at hl 1 rfl) ?_
    refine lv_iload_n hx hb dX11_force_23 rfl (lv_at hl 2 rfl) ?_
    obtain ⟨μ8, e9, h⟩ := ob_ h
    refine p_RX11_129 C T e9 dX11_force_24 (fun H locs T => ?_)
    refine lv_iload_n hx hb dX11_force_27 rfl (lv_at hl 0 rfl) ?_
    obtain ⟨rfl, rfl⟩ := os2 h
    exact th_iret hQ C hr hk T (Nat.le_of_ble_eq_true rfl) (Nat.le_of_ble_eq_true rfl) dX11_force_28
  · replace h := ot_ c5 h
    refine lv_bipush (v := -2) hx hb dX11_force_14 (by decide) ?_
    obtain ⟨rfl, rfl⟩ := os2 h
    exact th_iret hQ C hr hk T (Nat.le_of_ble_eq_true rfl) (Nat.le_of_ble_eq_true rfl) dX11_force_16
set_option maxRecDepth 100000 in
set_option maxHeartbeats 4000000 in
theorem c_X11_call {l : Launch} {G : th_G} {σ : th_S} {μ : th_M} {t : Nat} {x1 : Int32} {r : Int32} {μ' : th_M} (h : f_X11_call σ μ t x1 = some (r, μ')) : th_Met l G yX11_call cX11_call 2 (some FieldType.int) { frames := 5, cells := 0, slots := 0, locals := 176 } [.ref t, .int x1] σ μ (some (.int r)) σ μ' := by
  refine th_ofW (by decide +kernel) (Nat.le_of_ble_eq_true rfl) ?_
  intro p e s m args below meth c ls Q hQ C hr hk hnm T hl
  have hx := C.1
  have hb := C.2.1
  have C : CallFix p m c cX11_call 2 s args th_ws RX11 := C
  have hl : lv_has ls 2 [(0, .ref t), (1, .int x1)] := hl
  unfold f_X11_call at h
  refine lv_aload_n hx hb dX11_call_0 rfl (lv_at hl 0 rfl) ?_
  refine lv_iload_n hx hb dX11_call_1 rfl (lv_at hl 1 rfl) ?_
  obtain ⟨k1, h⟩ := oc_ h
  obtain ⟨v2, e3, h⟩ := ob_ h
  refine th_callV (As := [.int x1]) (rest := []) C T (c_X11_isBoat e3) k_RX11_112 11 rfl rfl (by decide) k1 rfl hl.1 rfl (st1 := [.int v2]) rfl (cells1 := 0) rfl (slots1 := 0) rfl (Nat.le_of_ble_eq_true rfl) ⟨Nat.le_of_ble_eq_true rfl, Nat.le_of_ble_eq_true rfl⟩ ⟨Nat.le_of_ble_eq_true rfl, Nat.le_of_ble_eq_true rfl⟩ dX11_call_2 (fun H locs T => ?_)
  refine lv_if_ne (tgt := 11) hx hb dX11_call_5 (by decide) (fun c4 => ?_) (fun c4 => ?_)
  · replace h := of_ c4 h
    refine lv_aload_n hx hb dX11_call_11 rfl (lv_at hl 0 rfl) ?_
    obtain ⟨a5, e6, h⟩ := ob_ h
    refine g_RX11_25 C T e6 dX11_call_12 ?_
    refine lv_iload_n hx hb dX11_call_15 rfl (lv_at hl 1 rfl) ?_
    obtain ⟨v7, e8, h⟩ := ob_ h
    refine th_iald C T e8 dX11_call_16 ?_
    refine lv_if_eq (tgt := 23) hx hb dX11_call_17 (by decide) (fun c9 => ?_) (fun c9 => ?_)
    · replace h := ot_ c9 h
      refine lv_aload_n hx hb dX11_call_23 rfl (lv_at hl 0 rfl) ?_
      refine lv_iload_n hx hb dX11_call_24 rfl (lv_at hl 1 rfl) ?_
      obtain ⟨v10, μ11, e12, h⟩ := ob2 h
      refine th_callV (As := [.int x1]) (rest := []) C T (c_X11_would_ e12) k_RX11_151 11 rfl rfl (by decide) k1 rfl hl.1 rfl (st1 := [.int v10]) rfl (cells1 := 0) rfl (slots1 := 0) rfl (Nat.le_of_ble_eq_true rfl) ⟨Nat.le_of_ble_eq_true rfl, Nat.le_of_ble_eq_true rfl⟩ ⟨Nat.le_of_ble_eq_true rfl, Nat.le_of_ble_eq_true rfl⟩ dX11_call_25 (fun H locs T => ?_)
      refine lv_if_ne (tgt := 33) hx hb dX11_call_28 (by decide) (fun c13 => ?_) (fun c13 => ?_)
      · replace h := of_ c13 h
        refine lv_aload_n hx hb dX11_call_33 rfl (lv_at hl 0 rfl) ?_
        obtain ⟨a14, e15, h⟩ := ob_ h
        refine g_RX11_25 C T e15 dX11_call_34 ?_
        refine lv_iload_n hx hb dX11_call_37 rfl (lv_at hl 1 rfl) ?_
        refine lv_iconst (v := 1) hx hb dX11_call_38 (by decide) ?_
        obtain ⟨μ16, e17, h⟩ := ob_ h
        refine th_iast C T e17 dX11_call_39 (fun H locs T => ?_)
        refine lv_aload_n hx hb dX11_call_40 rfl (lv_at hl 0 rfl) ?_
        obtain ⟨a18, e19, h⟩ := ob_ h
        refine g_RX11_28 C T e19 dX11_call_41 ?_
        refine lv_iload_n hx hb dX11_call_44 rfl (lv_at hl 1 rfl) ?_
        refine lv_aload_n hx hb dX11_call_45 rfl (lv_at hl 0 rfl) ?_
        obtain ⟨v20, e21, h⟩ := ob_ h
        refine g_RX11_142 C T e21 dX11_call_46 ?_
        refine lv_aload_n hx hb dX11_call_49 rfl (lv_at hl 0 rfl) ?_
        refine lv_iload_n hx hb dX11_call_50 rfl (lv_at hl 1 rfl) ?_
        obtain ⟨v22, e23, h⟩ := ob_ h
        refine th_callV (As := [.int x1]) (rest := [.int v20, .int x1, .ref a18]) C T (c_X11_needs e23) k_RX11_246 11 rfl rfl (by decide) k1 rfl hl.1 rfl (st1 := [.int v22, .int v20, .int x1, .ref a18]) rfl (cells1 := 0) rfl (slots1 := 0) rfl (Nat.le_of_ble_eq_true rfl) ⟨Nat.le_of_ble_eq_true rfl, Nat.le_of_ble_eq_true rfl⟩ ⟨Nat.le_of_ble_eq_true rfl, Nat.le_of_ble_eq_true rfl⟩ dX11_call_51 (fun H locs T => ?_)
        refine lv_iadd hx hb dX11_call_54 ?_
        obtain ⟨μ24, e25, h⟩ := ob_ h
        refine th_iast C T e25 dX11_call_55 (fun H locs T => ?_)
        refine lv_iconst (v := 1) hx hb dX11_call_56 (by decide) ?_
        obtain ⟨rfl, rfl⟩ := os2 h
        exact th_iret hQ C hr hk T (Nat.le_of_ble_eq_true rfl) (Nat.le_of_ble_eq_true rfl) dX11_call_57
      · replace h := ot_ c13 h
        refine lv_iconst (v := 0) hx hb dX11_call_31 (by decide) ?_
        obtain ⟨rfl, rfl⟩ := os2 h
        exact th_iret hQ C hr hk T (Nat.le_of_ble_eq_true rfl) (Nat.le_of_ble_eq_true rfl) dX11_call_32
    · replace h := of_ c9 h
      refine lv_bipush (v := -3) hx hb dX11_call_20 (by decide) ?_
      obtain ⟨rfl, rfl⟩ := os2 h
      exact th_iret hQ C hr hk T (Nat.le_of_ble_eq_true rfl) (Nat.le_of_ble_eq_true rfl) dX11_call_22
  · replace h := ot_ c4 h
    refine lv_bipush (v := -2) hx hb dX11_call_8 (by decide) ?_
    obtain ⟨rfl, rfl⟩ := os2 h
    exact th_iret hQ C hr hk T (Nat.le_of_ble_eq_true rfl) (Nat.le_of_ble_eq_true rfl) dX11_call_10
set_option maxRecDepth 100000 in
set_option maxHeartbeats 4000000 in
theorem c_X11_comesIn {l : Launch} {G : th_G} {σ : th_S} {μ : th_M} {t : Nat} {x1 : Int32} {x2 : Int32}  {μ' : th_M} (h : f_X11_comesIn σ μ t x1 x2 = some μ') : th_Met l G yX11_comesIn cX11_comesIn 3 none { frames := 4, cells := 0, slots := 0, locals := 157 } [.ref t, .int x1, .int x2] σ μ none σ μ' := by
  refine th_ofW (by decide +kernel) (Nat.le_of_ble_eq_true rfl) ?_
  intro p e s m args below meth c ls Q hQ C hr hk hnm T hl
  have hx := C.1
  have hb := C.2.1
  have C : CallFix p m c cX11_comesIn 3 s args th_ws RX11 := C
  have hl : lv_has ls 3 [(0, .ref t), (1, .int x1), (2, .int x2)] := hl
  unfold f_X11_comesIn at h
  refine lv_aload_n hx hb dX11_comesIn_0 rfl (lv_at hl 0 rfl) ?_
  obtain ⟨a1, e2, h⟩ := ob_ h
  refine g_RX11_25 C T e2 dX11_comesIn_1 ?_
  refine lv_iload_n hx hb dX11_comesIn_4 rfl (lv_at hl 1 rfl) ?_
  refine lv_iconst (v := 2) hx hb dX11_comesIn_5 (by decide) ?_
  obtain ⟨μ3, e4, h⟩ := ob_ h
  refine th_iast C T e4 dX11_comesIn_6 (fun H locs T => ?_)
  refine lv_aload_n hx hb dX11_comesIn_7 rfl (lv_at hl 0 rfl) ?_
  obtain ⟨a5, e6, h⟩ := ob_ h
  refine g_RX11_28 C T e6 dX11_comesIn_8 ?_
  refine lv_iload_n hx hb dX11_comesIn_11 rfl (lv_at hl 1 rfl) ?_
  refine lv_iload_n hx hb dX11_comesIn_12 rfl (lv_at hl 2 rfl) ?_
  obtain ⟨μ7, e8, h⟩ := ob_ h
  refine th_iast C T e8 dX11_comesIn_13 (fun H locs T => ?_)
  refine lv_aload_n hx hb dX11_comesIn_14 rfl (lv_at hl 0 rfl) ?_
  refine lv_dup hx hb dX11_comesIn_15 rfl ?_
  obtain ⟨v9, e10, h⟩ := ob_ h
  refine g_RX11_249 C T e10 dX11_comesIn_16 ?_
  refine lv_aload_n hx hb dX11_comesIn_19 rfl (lv_at hl 0 rfl) ?_
  refine lv_iload_n hx hb dX11_comesIn_20 rfl (lv_at hl 1 rfl) ?_
  refine lv_iload_n hx hb dX11_comesIn_21 rfl (lv_at hl 2 rfl) ?_
  obtain ⟨k11, h⟩ := oc_ h
  obtain ⟨v12, μ13, e14, h⟩ := ob2 h
  refine th_callV (As := [.int x1, .int x2]) (rest := [.int v9, .ref t]) C T (c_X11_owes e14) k_RX11_153 11 rfl rfl (by decide) k11 rfl hl.1 rfl (st1 := [.int v12, .int v9, .ref t]) rfl (cells1 := 0) rfl (slots1 := 0) rfl (Nat.le_of_ble_eq_true rfl) ⟨Nat.le_of_ble_eq_true rfl, Nat.le_of_ble_eq_true rfl⟩ ⟨Nat.le_of_ble_eq_true rfl, Nat.le_of_ble_eq_true rfl⟩ dX11_comesIn_22 (fun H locs T => ?_)
  refine lv_iadd hx hb dX11_comesIn_25 ?_
  obtain ⟨μ15, e16, h⟩ := ob_ h
  refine p_RX11_249 C T e16 dX11_comesIn_26 (fun H locs T => ?_)
  refine lv_aload_n hx hb dX11_comesIn_29 rfl (lv_at hl 0 rfl) ?_
  refine lv_iconst (v := 0) hx hb dX11_comesIn_30 (by decide) ?_
  refine lv_aload_n hx hb dX11_comesIn_31 rfl (lv_at hl 0 rfl) ?_
  obtain ⟨v17, e18, h⟩ := ob_ h
  refine g_RX11_119 C T e18 dX11_comesIn_32 ?_
  refine lv_iconst (v := 1) hx hb dX11_comesIn_35 (by decide) ?_
  refine lv_isub hx hb dX11_comesIn_36 ?_
  refine th_max C hl.1 w_1073 w_478 w_11 w_479 (Nat.le_of_ble_eq_true rfl) (Nat.le_of_ble_eq_true rfl) (Nat.zero_le _) (Nat.zero_le _) dX11_comesIn_37 ?_
  obtain ⟨μ19, e20, h⟩ := ob_ h
  refine p_RX11_119 C T e20 dX11_comesIn_40 (fun H locs T => ?_)
  obtain rfl := os1 h
  exact th_vret hQ C hr hk T (Nat.le_of_ble_eq_true rfl) (Nat.le_of_ble_eq_true rfl) dX11_comesIn_43
set_option maxRecDepth 100000 in
set_option maxHeartbeats 4000000 in
theorem c_X11_passes {l : Launch} {G : th_G} {σ : th_S} {μ : th_M} {t : Nat} {x1 : Int32} {r : Int32} {μ' : th_M} (h : f_X11_passes σ μ t x1 = some (r, μ')) : th_Met l G yX11_passes cX11_passes 4 (some FieldType.int) { frames := 5, cells := 0, slots := 0, locals := 179 } [.ref t, .int x1] σ μ (some (.int r)) σ μ' := by
  refine th_ofW (by decide +kernel) (Nat.le_of_ble_eq_true rfl) ?_
  intro p e s m args below meth c ls Q hQ C hr hk hnm T hl
  have hx := C.1
  have hb := C.2.1
  have C : CallFix p m c cX11_passes 4 s args th_ws RX11 := C
  have hl : lv_has ls 4 [(0, .ref t), (1, .int x1)] := hl
  have J20 : ∀ (n : Nat) (μ : th_M) (t : Nat) (x2 : Int32) (x3 : Int32) (H : Heap) (locs : List Loc) (ls : Array Slot), th_R G s H locs σ μ → lv_has ls 4 [(0, .ref t), (2, .int x2), (3, .int x3)] → f_X11_passes_b20  n σ μ t x2 x3 = some (r, μ') → W p l e { frames := 5, cells := 0, slots := 0, locals := 179 } s m args below meth c H locs 0 0 Q (F0 m 20 ls []) := by
    intro n
    induction n with
    | zero => intro μ t x2 x3 H locs ls T hl h; unfold f_X11_passes_b20 at h; cases h
    | succ n20 ih20 =>
      intro μ t x2 x3 H locs ls T hl h
      unfold f_X11_passes_b20 at h
      refine lv_iload_n hx hb dX11_passes_20 rfl (lv_at hl 2 rfl) ?_
      refine lv_aload_n hx hb dX11_passes_21 rfl (lv_at hl 0 rfl) ?_
      obtain ⟨v1, e2, h⟩ := ob_ h
      refine g_RX11_99 C T e2 dX11_passes_22 ?_
      refine lv_icmp_ge (tgt := 74) hx hb dX11_passes_25 (by decide) (fun c3 => ?_) (fun c3 => ?_)
      · replace h := ot_ c3 h
        refine lv_iload_n hx hb dX11_passes_74 rfl (lv_at hl 1 rfl) ?_
        obtain ⟨rfl, rfl⟩ := os2 h
        exact th_iret hQ C hr hk T (Nat.le_of_ble_eq_true rfl) (Nat.le_of_ble_eq_true rfl) dX11_passes_75
      · replace h := of_ c3 h
        refine lv_aload_n hx hb dX11_passes_28 rfl (lv_at hl 0 rfl) ?_
        obtain ⟨a4, e5, h⟩ := ob_ h
        refine g_RX11_25 C T e5 dX11_passes_29 ?_
        refine lv_iload_n hx hb dX11_passes_32 rfl (lv_at hl 2 rfl) ?_
        obtain ⟨v6, e7, h⟩ := ob_ h
        refine th_iald C T e7 dX11_passes_33 ?_
        refine lv_iconst (v := 1) hx hb dX11_passes_34 (by decide) ?_
        refine lv_icmp_ne (tgt := 68) hx hb dX11_passes_35 (by decide) (fun c8 => ?_) (fun c8 => ?_)
        · replace h := of_ c8 h
          refine lv_iinc (v := x3 + 1) (lv' := [(3, .int (x3 + 1)), (0, .ref t), (2, .int x2)]) hx hb dX11_passes_68 hl (k := 2) rfl rfl (by decide) rfl (fun ls hl => ?_)
          refine lv_goto (tgt := 20) hx hb dX11_passes_71 (by decide) ?_
          exact ih20 _ _ _ _ _ _ _ T (lv_sub hl [1, 2, 0] rfl) h
        · replace h := ot_ c8 h
          refine lv_aload_n hx hb dX11_passes_38 rfl (lv_at hl 0 rfl) ?_
          obtain ⟨a9, e10, h⟩ := ob_ h
          refine g_RX11_28 C T e10 dX11_passes_39 ?_
          refine lv_iload_n hx hb dX11_passes_42 rfl (lv_at hl 2 rfl) ?_
          obtain ⟨v11, e12, h⟩ := ob_ h
          refine th_iald C T e12 dX11_passes_43 ?_
          refine lv_aload_n hx hb dX11_passes_44 rfl (lv_at hl 0 rfl) ?_
          obtain ⟨v13, e14, h⟩ := ob_ h
          refine g_RX11_142 C T e14 dX11_passes_45 ?_
          refine lv_icmp_le (tgt := 54) hx hb dX11_passes_48 (by decide) (fun c15 => ?_) (fun c15 => ?_)
          · replace h := ot_ c15 h
            refine lv_aload_n hx hb dX11_passes_54 rfl (lv_at hl 0 rfl) ?_
            refine lv_iload_n hx hb dX11_passes_55 rfl (lv_at hl 2 rfl) ?_
            refine lv_aload_n hx hb dX11_passes_56 rfl (lv_at hl 0 rfl) ?_
            obtain ⟨a16, e17, h⟩ := ob_ h
            refine g_RX11_28 C T e17 dX11_passes_57 ?_
            refine lv_iload_n hx hb dX11_passes_60 rfl (lv_at hl 2 rfl) ?_
            obtain ⟨v18, e19, h⟩ := ob_ h
            refine th_iald C T e19 dX11_passes_61 ?_
            obtain ⟨k20, h⟩ := oc_ h
            obtain ⟨μ21, e22, h⟩ := ob_ h
            refine th_callV (As := [.int x3, .int v18]) (rest := []) C T (c_X11_comesIn e22) k_RX11_252 11 rfl rfl (by decide) k20 rfl hl.1 rfl (st1 := []) rfl (cells1 := 0) rfl (slots1 := 0) rfl (Nat.le_of_ble_eq_true rfl) ⟨Nat.le_of_ble_eq_true rfl, Nat.le_of_ble_eq_true rfl⟩ ⟨Nat.le_of_ble_eq_true rfl, Nat.le_of_ble_eq_true rfl⟩ dX11_passes_62 (fun H locs T => ?_)
            refine lv_iinc (v := x2 + 1) (lv' := [(2, .int (x2 + 1)), (0, .ref t), (3, .int x3)]) hx hb dX11_passes_65 hl (k := 1) rfl rfl (by decide) rfl (fun ls hl => ?_)
            refine lv_iinc (v := x3 + 1) (lv' := [(3, .int (x3 + 1)), (2, .int (x2 + 1)), (0, .ref t)]) hx hb dX11_passes_68 hl (k := 2) rfl rfl (by decide) rfl (fun ls hl => ?_)
            refine lv_goto (tgt := 20) hx hb dX11_passes_71 (by decide) ?_
            exact ih20 _ _ _ _ _ _ _ T (lv_sub hl [2, 1, 0] rfl) h
          · replace h := of_ c15 h
            refine lv_goto (tgt := 68) hx hb dX11_passes_51 (by decide) ?_
            refine lv_iinc (v := x3 + 1) (lv' := [(3, .int (x3 + 1)), (0, .ref t), (2, .int x2)]) hx hb dX11_passes_68 hl (k := 2) rfl rfl (by decide) rfl (fun ls hl => ?_)
            refine lv_goto (tgt := 20) hx hb dX11_passes_71 (by decide) ?_
            exact ih20 _ _ _ _ _ _ _ T (lv_sub hl [1, 2, 0] rfl) h
  unfold f_X11_passes at h
  refine lv_aload_n hx hb dX11_passes_0 rfl (lv_at hl 0 rfl) ?_
  refine lv_sipush (v := 9999) hx hb dX11_passes_1 (by decide) ?_
  refine lv_aload_n hx hb dX11_passes_4 rfl (lv_at hl 0 rfl) ?_
  obtain ⟨v1, e2, h⟩ := ob_ h
  refine g_RX11_142 C T e2 dX11_passes_5 ?_
  refine lv_iload_n hx hb dX11_passes_8 rfl (lv_at hl 1 rfl) ?_
  refine lv_iadd hx hb dX11_passes_9 ?_
  refine th_min C hl.1 w_1094 w_271 w_11 w_272 (Nat.le_of_ble_eq_true rfl) (Nat.le_of_ble_eq_true rfl) (Nat.zero_le _) (Nat.zero_le _) dX11_passes_10 ?_
  obtain ⟨μ3, e4, h⟩ := ob_ h
  refine p_RX11_142 C T e4 dX11_passes_13 (fun H locs T => ?_)
  refine lv_iconst (v := 0) hx hb dX11_passes_16 (by decide) ?_
  refine lv_istore_n (lv' := [(2, .int 0), (0, .ref t), (1, .int x1)]) hx hb dX11_passes_17 rfl hl (by decide) rfl (fun ls hl => ?_)
  refine lv_iconst (v := 0) hx hb dX11_passes_18 (by decide) ?_
  refine lv_istore_n (lv' := [(3, .int 0), (2, .int 0), (0, .ref t), (1, .int x1)]) hx hb dX11_passes_19 rfl hl (by decide) rfl (fun ls hl => ?_)
  exact J20 fu _ _ _ _ _ _ _ T (lv_sub hl [2, 1, 0] rfl) h
set_option maxRecDepth 100000 in
set_option maxHeartbeats 4000000 in
theorem c_X11_time {l : Launch} {G : th_G} {σ : th_S} {μ : th_M} {t : Nat} {x1 : Int32} {r : Int32} {μ' : th_M} (h : f_X11_time σ μ t x1 = some (r, μ')) : th_Met l G yX11_time cX11_time 2 (some FieldType.int) { frames := 6, cells := 0, slots := 0, locals := 202 } [.ref t, .int x1] σ μ (some (.int r)) σ μ' := by
  refine th_ofW (by decide +kernel) (Nat.le_of_ble_eq_true rfl) ?_
  intro p e s m args below meth c ls Q hQ C hr hk hnm T hl
  have hx := C.1
  have hb := C.2.1
  have C : CallFix p m c cX11_time 2 s args th_ws RX11 := C
  have hl : lv_has ls 2 [(0, .ref t), (1, .int x1)] := hl
  unfold f_X11_time at h
  refine lv_iload_n hx hb dX11_time_0 rfl (lv_at hl 1 rfl) ?_
  refine lv_iconst (v := 0) hx hb dX11_time_1 (by decide) ?_
  refine lv_sipush (v := 240) hx hb dX11_time_2 (by decide) ?_
  obtain ⟨v1, e2, h⟩ := ob_ h
  refine th_callS (As := [.int x1, .int 0, .int 240]) (rest := []) C T (c_X11_within e2) k_RX11_102 rfl hl.1 rfl (st1 := [.int v1]) rfl (cells1 := 0) rfl (slots1 := 0) rfl (Nat.le_of_ble_eq_true rfl) ⟨Nat.le_of_ble_eq_true rfl, Nat.le_of_ble_eq_true rfl⟩ ⟨Nat.le_of_ble_eq_true rfl, Nat.le_of_ble_eq_true rfl⟩ dX11_time_5 (fun H locs T => ?_)
  refine lv_if_eq (tgt := 19) hx hb dX11_time_8 (by decide) (fun c3 => ?_) (fun c3 => ?_)
  · replace h := ot_ c3 h
    refine lv_bipush (v := -2) hx hb dX11_time_19 (by decide) ?_
    obtain ⟨rfl, rfl⟩ := os2 h
    exact th_iret hQ C hr hk T (Nat.le_of_ble_eq_true rfl) (Nat.le_of_ble_eq_true rfl) dX11_time_21
  · replace h := of_ c3 h
    refine lv_aload_n hx hb dX11_time_11 rfl (lv_at hl 0 rfl) ?_
    refine lv_iload_n hx hb dX11_time_12 rfl (lv_at hl 1 rfl) ?_
    obtain ⟨k4, h⟩ := oc_ h
    obtain ⟨v5, μ6, e7, h⟩ := ob2 h
    refine th_callV (As := [.int x1]) (rest := []) C T (c_X11_passes e7) k_RX11_256 11 rfl rfl (by decide) k4 rfl hl.1 rfl (st1 := [.int v5]) rfl (cells1 := 0) rfl (slots1 := 0) rfl (Nat.le_of_ble_eq_true rfl) ⟨Nat.le_of_ble_eq_true rfl, Nat.le_of_ble_eq_true rfl⟩ ⟨Nat.le_of_ble_eq_true rfl, Nat.le_of_ble_eq_true rfl⟩ dX11_time_13 (fun H locs T => ?_)
    refine lv_goto (tgt := 21) hx hb dX11_time_16 (by decide) ?_
    obtain ⟨rfl, rfl⟩ := os2 h
    exact th_iret hQ C hr hk T (Nat.le_of_ble_eq_true rfl) (Nat.le_of_ble_eq_true rfl) dX11_time_21
set_option maxRecDepth 100000 in
set_option maxHeartbeats 4000000 in
theorem c_X11_nobody {l : Launch} {G : th_G} {σ : th_S} {μ : th_M} {t : Nat} {r : Int32} {μ' : th_M} (h : f_X11_nobody σ μ t = some (r, μ')) : th_Met l G yX11_nobody cX11_nobody 3 (some FieldType.int) { frames := 5, cells := 0, slots := 0, locals := 176 } [.ref t] σ μ (some (.int r)) σ μ' := by
  refine th_ofW (by decide +kernel) (Nat.le_of_ble_eq_true rfl) ?_
  intro p e s m args below meth c ls Q hQ C hr hk hnm T hl
  have hx := C.1
  have hb := C.2.1
  have C : CallFix p m c cX11_nobody 3 s args th_ws RX11 := C
  have hl : lv_has ls 3 [(0, .ref t)] := hl
  have J4 : ∀ (n : Nat) (μ : th_M) (t : Nat) (x1 : Int32) (x2 : Int32) (H : Heap) (locs : List Loc) (ls : Array Slot), th_R G s H locs σ μ → lv_has ls 3 [(0, .ref t), (1, .int x1), (2, .int x2)] → f_X11_nobody_b4  n σ μ t x1 x2 = some (r, μ') → W p l e { frames := 5, cells := 0, slots := 0, locals := 176 } s m args below meth c H locs 0 0 Q (F0 m 4 ls []) := by
    intro n
    induction n with
    | zero => intro μ t x1 x2 H locs ls T hl h; unfold f_X11_nobody_b4 at h; cases h
    | succ n4 ih4 =>
      intro μ t x1 x2 H locs ls T hl h
      unfold f_X11_nobody_b4 at h
      refine lv_iload_n hx hb dX11_nobody_4 rfl (lv_at hl 2 rfl) ?_
      refine lv_aload_n hx hb dX11_nobody_5 rfl (lv_at hl 0 rfl) ?_
      obtain ⟨v1, e2, h⟩ := ob_ h
      refine g_RX11_99 C T e2 dX11_nobody_6 ?_
      refine lv_icmp_ge (tgt := 41) hx hb dX11_nobody_9 (by decide) (fun c3 => ?_) (fun c3 => ?_)
      · replace h := ot_ c3 h
        refine lv_iload_n hx hb dX11_nobody_41 rfl (lv_at hl 1 rfl) ?_
        obtain ⟨rfl, rfl⟩ := os2 h
        exact th_iret hQ C hr hk T (Nat.le_of_ble_eq_true rfl) (Nat.le_of_ble_eq_true rfl) dX11_nobody_42
      · replace h := of_ c3 h
        refine lv_aload_n hx hb dX11_nobody_12 rfl (lv_at hl 0 rfl) ?_
        obtain ⟨a4, e5, h⟩ := ob_ h
        refine g_RX11_25 C T e5 dX11_nobody_13 ?_
        refine lv_iload_n hx hb dX11_nobody_16 rfl (lv_at hl 2 rfl) ?_
        obtain ⟨v6, e7, h⟩ := ob_ h
        refine th_iald C T e7 dX11_nobody_17 ?_
        refine lv_if_ne (tgt := 35) hx hb dX11_nobody_18 (by decide) (fun c8 => ?_) (fun c8 => ?_)
        · replace h := of_ c8 h
          refine lv_iinc (v := x2 + 1) (lv' := [(2, .int (x2 + 1)), (0, .ref t), (1, .int x1)]) hx hb dX11_nobody_35 hl (k := 2) rfl rfl (by decide) rfl (fun ls hl => ?_)
          refine lv_goto (tgt := 4) hx hb dX11_nobody_38 (by decide) ?_
          exact ih4 _ _ _ _ _ _ _ T (lv_sub hl [1, 2, 0] rfl) h
        · replace h := ot_ c8 h
          refine lv_aload_n hx hb dX11_nobody_21 rfl (lv_at hl 0 rfl) ?_
          refine lv_iload_n hx hb dX11_nobody_22 rfl (lv_at hl 2 rfl) ?_
          obtain ⟨k9, h⟩ := oc_ h
          obtain ⟨v10, μ11, e12, h⟩ := ob2 h
          refine th_callV (As := [.int x2]) (rest := []) C T (c_X11_would_ e12) k_RX11_151 11 rfl rfl (by decide) k9 rfl hl.1 rfl (st1 := [.int v10]) rfl (cells1 := 0) rfl (slots1 := 0) rfl (Nat.le_of_ble_eq_true rfl) ⟨Nat.le_of_ble_eq_true rfl, Nat.le_of_ble_eq_true rfl⟩ ⟨Nat.le_of_ble_eq_true rfl, Nat.le_of_ble_eq_true rfl⟩ dX11_nobody_23 (fun H locs T => ?_)
          refine lv_if_ne (tgt := 35) hx hb dX11_nobody_26 (by decide) (fun c13 => ?_) (fun c13 => ?_)
          · replace h := of_ c13 h
            refine lv_iinc (v := x2 + 1) (lv' := [(2, .int (x2 + 1)), (0, .ref t), (1, .int x1)]) hx hb dX11_nobody_35 hl (k := 2) rfl rfl (by decide) rfl (fun ls hl => ?_)
            refine lv_goto (tgt := 4) hx hb dX11_nobody_38 (by decide) ?_
            exact ih4 _ _ _ _ _ _ _ T (lv_sub hl [1, 2, 0] rfl) h
          · replace h := ot_ c13 h
            refine lv_iload_n hx hb dX11_nobody_29 rfl (lv_at hl 1 rfl) ?_
            refine lv_iconst (v := 1) hx hb dX11_nobody_30 (by decide) ?_
            refine lv_iload_n hx hb dX11_nobody_31 rfl (lv_at hl 2 rfl) ?_
            refine th_ishl C dX11_nobody_32 ?_
            refine lv_ior hx hb dX11_nobody_33 ?_
            refine lv_istore_n (lv' := [(1, .int (x1 ||| (jshl 1 x2))), (0, .ref t), (2, .int x2)]) hx hb dX11_nobody_34 rfl hl (by decide) rfl (fun ls hl => ?_)
            refine lv_iinc (v := x2 + 1) (lv' := [(2, .int (x2 + 1)), (1, .int (x1 ||| (jshl 1 x2))), (0, .ref t)]) hx hb dX11_nobody_35 hl (k := 2) rfl rfl (by decide) rfl (fun ls hl => ?_)
            refine lv_goto (tgt := 4) hx hb dX11_nobody_38 (by decide) ?_
            exact ih4 _ _ _ _ _ _ _ T (lv_sub hl [2, 1, 0] rfl) h
  unfold f_X11_nobody at h
  refine lv_iconst (v := 0) hx hb dX11_nobody_0 (by decide) ?_
  refine lv_istore_n (lv' := [(1, .int 0), (0, .ref t)]) hx hb dX11_nobody_1 rfl hl (by decide) rfl (fun ls hl => ?_)
  refine lv_iconst (v := 0) hx hb dX11_nobody_2 (by decide) ?_
  refine lv_istore_n (lv' := [(2, .int 0), (1, .int 0), (0, .ref t)]) hx hb dX11_nobody_3 rfl hl (by decide) rfl (fun ls hl => ?_)
  exact J4 fu _ _ _ _ _ _ _ T (lv_sub hl [2, 1, 0] rfl) h
set_option maxRecDepth 100000 in
set_option maxHeartbeats 4000000 in
theorem c_X11_callAt {l : Launch} {G : th_G} {σ : th_S} {μ : th_M} {t : Nat} {x1 : Int32} {r : Int32} {μ' : th_M} (h : f_X11_callAt σ μ t x1 = some (r, μ')) : th_Met l G yX11_callAt cX11_callAt 3 (some FieldType.int) { frames := 4, cells := 0, slots := 0, locals := 155 } [.ref t, .int x1] σ μ (some (.int r)) σ μ' := by
  refine th_ofW (by decide +kernel) (Nat.le_of_ble_eq_true rfl) ?_
  intro p e s m args below meth c ls Q hQ C hr hk hnm T hl
  have hx := C.1
  have hb := C.2.1
  have C : CallFix p m c cX11_callAt 3 s args th_ws RX11 := C
  have hl : lv_has ls 3 [(0, .ref t), (1, .int x1)] := hl
  have J25 : ∀ (n : Nat) (μ : th_M) (t : Nat) (x1 : Int32) (x2 : Int32) (H : Heap) (locs : List Loc) (ls : Array Slot), th_R G s H locs σ μ → lv_has ls 3 [(0, .ref t), (1, .int x1), (2, .int x2)] → f_X11_callAt_b25  n σ μ t x1 x2 = some (r, μ') → W p l e { frames := 4, cells := 0, slots := 0, locals := 155 } s m args below meth c H locs 0 0 Q (F0 m 25 ls []) := by
    intro n
    induction n with
    | zero => intro μ t x1 x2 H locs ls T hl h; unfold f_X11_callAt_b25 at h; cases h
    | succ n25 ih25 =>
      intro μ t x1 x2 H locs ls T hl h
      unfold f_X11_callAt_b25 at h
      refine lv_iload_n hx hb dX11_callAt_25 rfl (lv_at hl 2 rfl) ?_
      refine lv_sipush (v := 241) hx hb dX11_callAt_26 (by decide) ?_
      refine lv_icmp_ge (tgt := 88) hx hb dX11_callAt_29 (by decide) (fun c1 => ?_) (fun c1 => ?_)
      · replace h := ot_ c1 h
        refine lv_iconst (v := -1) hx hb dX11_callAt_88 (by decide) ?_
        obtain ⟨rfl, rfl⟩ := os2 h
        exact th_iret hQ C hr hk T (Nat.le_of_ble_eq_true rfl) (Nat.le_of_ble_eq_true rfl) dX11_callAt_89
      · replace h := of_ c1 h
        refine lv_aload_n hx hb dX11_callAt_32 rfl (lv_at hl 0 rfl) ?_
        obtain ⟨v2, e3, h⟩ := ob_ h
        refine g_RX11_142 C T e3 dX11_callAt_33 ?_
        refine lv_iload_n hx hb dX11_callAt_36 rfl (lv_at hl 2 rfl) ?_
        refine lv_iadd hx hb dX11_callAt_37 ?_
        refine lv_aload_n hx hb dX11_callAt_38 rfl (lv_at hl 0 rfl) ?_
        refine lv_iload_n hx hb dX11_callAt_39 rfl (lv_at hl 1 rfl) ?_
        obtain ⟨k4, h⟩ := oc_ h
        obtain ⟨v5, e6, h⟩ := ob_ h
        refine th_callV (As := [.int x1]) (rest := [.int (v2 + x2)]) C T (c_X11_needs e6) k_RX11_246 11 rfl rfl (by decide) k4 rfl hl.1 rfl (st1 := [.int v5, .int (v2 + x2)]) rfl (cells1 := 0) rfl (slots1 := 0) rfl (Nat.le_of_ble_eq_true rfl) ⟨Nat.le_of_ble_eq_true rfl, Nat.le_of_ble_eq_true rfl⟩ ⟨Nat.le_of_ble_eq_true rfl, Nat.le_of_ble_eq_true rfl⟩ dX11_callAt_40 (fun H locs T => ?_)
        refine lv_iadd hx hb dX11_callAt_43 ?_
        refine lv_aload_n hx hb dX11_callAt_44 rfl (lv_at hl 0 rfl) ?_
        obtain ⟨a7, e8, h⟩ := ob_ h
        refine g_RX11_19 C T e8 dX11_callAt_45 ?_
        refine lv_iload_n hx hb dX11_callAt_48 rfl (lv_at hl 1 rfl) ?_
        obtain ⟨v9, e10, h⟩ := ob_ h
        refine th_iald C T e10 dX11_callAt_49 ?_
        refine lv_aload_n hx hb dX11_callAt_50 rfl (lv_at hl 0 rfl) ?_
        obtain ⟨a11, e12, h⟩ := ob_ h
        refine g_RX11_22 C T e12 dX11_callAt_51 ?_
        refine lv_iload_n hx hb dX11_callAt_54 rfl (lv_at hl 1 rfl) ?_
        obtain ⟨v13, e14, h⟩ := ob_ h
        refine th_iald C T e14 dX11_callAt_55 ?_
        refine lv_iadd hx hb dX11_callAt_56 ?_
        refine lv_icmp_lt (tgt := 82) hx hb dX11_callAt_57 (by decide) (fun c15 => ?_) (fun c15 => ?_)
        · replace h := ot_ c15 h
          refine lv_iinc (v := x2 + 1) (lv' := [(2, .int (x2 + 1)), (0, .ref t), (1, .int x1)]) hx hb dX11_callAt_82 hl (k := 2) rfl rfl (by decide) rfl (fun ls hl => ?_)
          refine lv_goto (tgt := 25) hx hb dX11_callAt_85 (by decide) ?_
          exact ih25 _ _ _ _ _ _ _ T (lv_sub hl [1, 2, 0] rfl) h
        · replace h := of_ c15 h
          refine lv_aload_n hx hb dX11_callAt_60 rfl (lv_at hl 0 rfl) ?_
          refine lv_iload_n hx hb dX11_callAt_61 rfl (lv_at hl 1 rfl) ?_
          refine lv_aload_n hx hb dX11_callAt_62 rfl (lv_at hl 0 rfl) ?_
          obtain ⟨a16, e17, h⟩ := ob_ h
          refine g_RX11_16 C T e17 dX11_callAt_63 ?_
          refine lv_iload_n hx hb dX11_callAt_66 rfl (lv_at hl 1 rfl) ?_
          obtain ⟨v18, e19, h⟩ := ob_ h
          refine th_iald C T e19 dX11_callAt_67 ?_
          refine lv_aload_n hx hb dX11_callAt_68 rfl (lv_at hl 0 rfl) ?_
          obtain ⟨v20, e21, h⟩ := ob_ h
          refine g_RX11_142 C T e21 dX11_callAt_69 ?_
          refine lv_iload_n hx hb dX11_callAt_72 rfl (lv_at hl 2 rfl) ?_
          refine lv_iadd hx hb dX11_callAt_73 ?_
          obtain ⟨v22, μ23, e24, h⟩ := ob2 h
          refine th_callV (As := [.int x1, .int v18, .int (v20 + x2)]) (rest := []) C T (c_X11_would e24) k_RX11_145 11 rfl rfl (by decide) k4 rfl hl.1 rfl (st1 := [.int v22]) rfl (cells1 := 0) rfl (slots1 := 0) rfl (Nat.le_of_ble_eq_true rfl) ⟨Nat.le_of_ble_eq_true rfl, Nat.le_of_ble_eq_true rfl⟩ ⟨Nat.le_of_ble_eq_true rfl, Nat.le_of_ble_eq_true rfl⟩ dX11_callAt_74 (fun H locs T => ?_)
          refine lv_if_eq (tgt := 82) hx hb dX11_callAt_77 (by decide) (fun c25 => ?_) (fun c25 => ?_)
          · replace h := ot_ c25 h
            refine lv_iinc (v := x2 + 1) (lv' := [(2, .int (x2 + 1)), (0, .ref t), (1, .int x1)]) hx hb dX11_callAt_82 hl (k := 2) rfl rfl (by decide) rfl (fun ls hl => ?_)
            refine lv_goto (tgt := 25) hx hb dX11_callAt_85 (by decide) ?_
            exact ih25 _ _ _ _ _ _ _ T (lv_sub hl [1, 2, 0] rfl) h
          · replace h := of_ c25 h
            refine lv_iload_n hx hb dX11_callAt_80 rfl (lv_at hl 2 rfl) ?_
            obtain ⟨rfl, rfl⟩ := os2 h
            exact th_iret hQ C hr hk T (Nat.le_of_ble_eq_true rfl) (Nat.le_of_ble_eq_true rfl) dX11_callAt_81
  unfold f_X11_callAt at h
  refine lv_aload_n hx hb dX11_callAt_0 rfl (lv_at hl 0 rfl) ?_
  refine lv_iload_n hx hb dX11_callAt_1 rfl (lv_at hl 1 rfl) ?_
  obtain ⟨k1, h⟩ := oc_ h
  obtain ⟨v2, e3, h⟩ := ob_ h
  refine th_callV (As := [.int x1]) (rest := []) C T (c_X11_isBoat e3) k_RX11_112 11 rfl rfl (by decide) k1 rfl hl.1 rfl (st1 := [.int v2]) rfl (cells1 := 0) rfl (slots1 := 0) rfl (Nat.le_of_ble_eq_true rfl) ⟨Nat.le_of_ble_eq_true rfl, Nat.le_of_ble_eq_true rfl⟩ ⟨Nat.le_of_ble_eq_true rfl, Nat.le_of_ble_eq_true rfl⟩ dX11_callAt_2 (fun H locs T => ?_)
  refine lv_if_ne (tgt := 11) hx hb dX11_callAt_5 (by decide) (fun c4 => ?_) (fun c4 => ?_)
  · replace h := of_ c4 h
    refine lv_aload_n hx hb dX11_callAt_11 rfl (lv_at hl 0 rfl) ?_
    obtain ⟨a5, e6, h⟩ := ob_ h
    refine g_RX11_25 C T e6 dX11_callAt_12 ?_
    refine lv_iload_n hx hb dX11_callAt_15 rfl (lv_at hl 1 rfl) ?_
    obtain ⟨v7, e8, h⟩ := ob_ h
    refine th_iald C T e8 dX11_callAt_16 ?_
    refine lv_if_eq (tgt := 23) hx hb dX11_callAt_17 (by decide) (fun c9 => ?_) (fun c9 => ?_)
    · replace h := ot_ c9 h
      refine lv_iconst (v := 0) hx hb dX11_callAt_23 (by decide) ?_
      refine lv_istore_n (lv' := [(2, .int 0), (0, .ref t), (1, .int x1)]) hx hb dX11_callAt_24 rfl hl (by decide) rfl (fun ls hl => ?_)
      exact J25 fu _ _ _ _ _ _ _ T (lv_sub hl [1, 2, 0] rfl) h
    · replace h := of_ c9 h
      refine lv_bipush (v := -3) hx hb dX11_callAt_20 (by decide) ?_
      obtain ⟨rfl, rfl⟩ := os2 h
      exact th_iret hQ C hr hk T (Nat.le_of_ble_eq_true rfl) (Nat.le_of_ble_eq_true rfl) dX11_callAt_22
  · replace h := ot_ c4 h
    refine lv_bipush (v := -2) hx hb dX11_callAt_8 (by decide) ?_
    obtain ⟨rfl, rfl⟩ := os2 h
    exact th_iret hQ C hr hk T (Nat.le_of_ble_eq_true rfl) (Nat.le_of_ble_eq_true rfl) dX11_callAt_10
set_option maxRecDepth 100000 in
set_option maxHeartbeats 4000000 in
theorem c_X11_wouldBeIn {l : Launch} {G : th_G} {σ : th_S} {μ : th_M} {t : Nat} {x1 : Int32} {r : Int32} {μ' : th_M} (h : f_X11_wouldBeIn σ μ t x1 = some (r, μ')) : th_Met l G yX11_wouldBeIn cX11_wouldBeIn 2 (some FieldType.int) { frames := 5, cells := 0, slots := 0, locals := 176 } [.ref t, .int x1] σ μ (some (.int r)) σ μ' := by
  refine th_ofW (by decide +kernel) (Nat.le_of_ble_eq_true rfl) ?_
  intro p e s m args below meth c ls Q hQ C hr hk hnm T hl
  have hx := C.1
  have hb := C.2.1
  have C : CallFix p m c cX11_wouldBeIn 2 s args th_ws RX11 := C
  have hl : lv_has ls 2 [(0, .ref t), (1, .int x1)] := hl
  unfold f_X11_wouldBeIn at h
  refine lv_aload_n hx hb dX11_wouldBeIn_0 rfl (lv_at hl 0 rfl) ?_
  obtain ⟨a1, e2, h⟩ := ob_ h
  refine g_RX11_25 C T e2 dX11_wouldBeIn_1 ?_
  refine lv_iload_n hx hb dX11_wouldBeIn_4 rfl (lv_at hl 1 rfl) ?_
  obtain ⟨v3, e4, h⟩ := ob_ h
  refine th_iald C T e4 dX11_wouldBeIn_5 ?_
  refine lv_iconst (v := 1) hx hb dX11_wouldBeIn_6 (by decide) ?_
  refine lv_icmp_ne (tgt := 17) hx hb dX11_wouldBeIn_7 (by decide) (fun c5 => ?_) (fun c5 => ?_)
  · replace h := of_ c5 h
    refine lv_aload_n hx hb dX11_wouldBeIn_17 rfl (lv_at hl 0 rfl) ?_
    obtain ⟨a6, e7, h⟩ := ob_ h
    refine g_RX11_25 C T e7 dX11_wouldBeIn_18 ?_
    refine lv_iload_n hx hb dX11_wouldBeIn_21 rfl (lv_at hl 1 rfl) ?_
    obtain ⟨v8, e9, h⟩ := ob_ h
    refine th_iald C T e9 dX11_wouldBeIn_22 ?_
    refine lv_if_ne (tgt := 47) hx hb dX11_wouldBeIn_23 (by decide) (fun c10 => ?_) (fun c10 => ?_)
    · replace h := of_ c10 h
      refine lv_iconst (v := -1) hx hb dX11_wouldBeIn_47 (by decide) ?_
      obtain ⟨rfl, rfl⟩ := os2 h
      exact th_iret hQ C hr hk T (Nat.le_of_ble_eq_true rfl) (Nat.le_of_ble_eq_true rfl) dX11_wouldBeIn_48
    · replace h := ot_ c10 h
      refine lv_aload_n hx hb dX11_wouldBeIn_26 rfl (lv_at hl 0 rfl) ?_
      refine lv_iload_n hx hb dX11_wouldBeIn_27 rfl (lv_at hl 1 rfl) ?_
      obtain ⟨k11, h⟩ := oc_ h
      obtain ⟨v12, μ13, e14, h⟩ := ob2 h
      refine th_callV (As := [.int x1]) (rest := []) C T (c_X11_would_ e14) k_RX11_151 11 rfl rfl (by decide) k11 rfl hl.1 rfl (st1 := [.int v12]) rfl (cells1 := 0) rfl (slots1 := 0) rfl (Nat.le_of_ble_eq_true rfl) ⟨Nat.le_of_ble_eq_true rfl, Nat.le_of_ble_eq_true rfl⟩ ⟨Nat.le_of_ble_eq_true rfl, Nat.le_of_ble_eq_true rfl⟩ dX11_wouldBeIn_28 (fun H locs T => ?_)
      refine lv_if_eq (tgt := 47) hx hb dX11_wouldBeIn_31 (by decide) (fun c15 => ?_) (fun c15 => ?_)
      · replace h := ot_ c15 h
        refine lv_iconst (v := -1) hx hb dX11_wouldBeIn_47 (by decide) ?_
        obtain ⟨rfl, rfl⟩ := os2 h
        exact th_iret hQ C hr hk T (Nat.le_of_ble_eq_true rfl) (Nat.le_of_ble_eq_true rfl) dX11_wouldBeIn_48
      · replace h := of_ c15 h
        refine lv_aload_n hx hb dX11_wouldBeIn_34 rfl (lv_at hl 0 rfl) ?_
        obtain ⟨v16, e17, h⟩ := ob_ h
        refine g_RX11_142 C T e17 dX11_wouldBeIn_35 ?_
        refine lv_aload_n hx hb dX11_wouldBeIn_38 rfl (lv_at hl 0 rfl) ?_
        refine lv_iload_n hx hb dX11_wouldBeIn_39 rfl (lv_at hl 1 rfl) ?_
        obtain ⟨v18, e19, h⟩ := ob_ h
        refine th_callV (As := [.int x1]) (rest := [.int v16]) C T (c_X11_needs e19) k_RX11_246 11 rfl rfl (by decide) k11 rfl hl.1 rfl (st1 := [.int v18, .int v16]) rfl (cells1 := 0) rfl (slots1 := 0) rfl (Nat.le_of_ble_eq_true rfl) ⟨Nat.le_of_ble_eq_true rfl, Nat.le_of_ble_eq_true rfl⟩ ⟨Nat.le_of_ble_eq_true rfl, Nat.le_of_ble_eq_true rfl⟩ dX11_wouldBeIn_40 (fun H locs T => ?_)
        refine lv_iadd hx hb dX11_wouldBeIn_43 ?_
        refine lv_goto (tgt := 48) hx hb dX11_wouldBeIn_44 (by decide) ?_
        obtain ⟨rfl, rfl⟩ := os2 h
        exact th_iret hQ C hr hk T (Nat.le_of_ble_eq_true rfl) (Nat.le_of_ble_eq_true rfl) dX11_wouldBeIn_48
  · replace h := ot_ c5 h
    refine lv_aload_n hx hb dX11_wouldBeIn_10 rfl (lv_at hl 0 rfl) ?_
    obtain ⟨a20, e21, h⟩ := ob_ h
    refine g_RX11_28 C T e21 dX11_wouldBeIn_11 ?_
    refine lv_iload_n hx hb dX11_wouldBeIn_14 rfl (lv_at hl 1 rfl) ?_
    obtain ⟨v22, e23, h⟩ := ob_ h
    refine th_iald C T e23 dX11_wouldBeIn_15 ?_
    obtain ⟨rfl, rfl⟩ := os2 h
    exact th_iret hQ C hr hk T (Nat.le_of_ble_eq_true rfl) (Nat.le_of_ble_eq_true rfl) dX11_wouldBeIn_16
set_option maxRecDepth 100000 in
set_option maxHeartbeats 4000000 in
theorem c_X11_allIn {l : Launch} {G : th_G} {σ : th_S} {μ : th_M} {t : Nat} {r : Int32} {μ' : th_M} (h : f_X11_allIn σ μ t = some (r, μ')) : th_Met l G yX11_allIn cX11_allIn 3 (some FieldType.int) { frames := 6, cells := 0, slots := 0, locals := 197 } [.ref t] σ μ (some (.int r)) σ μ' := by
  refine th_ofW (by decide +kernel) (Nat.le_of_ble_eq_true rfl) ?_
  intro p e s m args below meth c ls Q hQ C hr hk hnm T hl
  have hx := C.1
  have hb := C.2.1
  have C : CallFix p m c cX11_allIn 3 s args th_ws RX11 := C
  have hl : lv_has ls 3 [(0, .ref t)] := hl
  have J7 : ∀ (n : Nat) (μ : th_M) (t : Nat) (x1 : Int32) (x2 : Int32) (H : Heap) (locs : List Loc) (ls : Array Slot), th_R G s H locs σ μ → lv_has ls 3 [(0, .ref t), (1, .int x1), (2, .int x2)] → f_X11_allIn_b7  n σ μ t x1 x2 = some (r, μ') → W p l e { frames := 6, cells := 0, slots := 0, locals := 197 } s m args below meth c H locs 0 0 Q (F0 m 7 ls []) := by
    intro n
    induction n with
    | zero => intro μ t x1 x2 H locs ls T hl h; unfold f_X11_allIn_b7 at h; cases h
    | succ n7 ih7 =>
      intro μ t x1 x2 H locs ls T hl h
      unfold f_X11_allIn_b7 at h
      refine lv_iload_n hx hb dX11_allIn_7 rfl (lv_at hl 2 rfl) ?_
      refine lv_aload_n hx hb dX11_allIn_8 rfl (lv_at hl 0 rfl) ?_
      obtain ⟨v1, e2, h⟩ := ob_ h
      refine g_RX11_99 C T e2 dX11_allIn_9 ?_
      refine lv_icmp_ge (tgt := 31) hx hb dX11_allIn_12 (by decide) (fun c3 => ?_) (fun c3 => ?_)
      · replace h := ot_ c3 h
        refine lv_iload_n hx hb dX11_allIn_31 rfl (lv_at hl 1 rfl) ?_
        obtain ⟨rfl, rfl⟩ := os2 h
        exact th_iret hQ C hr hk T (Nat.le_of_ble_eq_true rfl) (Nat.le_of_ble_eq_true rfl) dX11_allIn_32
      · replace h := of_ c3 h
        refine lv_iload_n hx hb dX11_allIn_15 rfl (lv_at hl 1 rfl) ?_
        refine lv_aload_n hx hb dX11_allIn_16 rfl (lv_at hl 0 rfl) ?_
        refine lv_iload_n hx hb dX11_allIn_17 rfl (lv_at hl 2 rfl) ?_
        obtain ⟨k4, h⟩ := oc_ h
        obtain ⟨v5, μ6, e7, h⟩ := ob2 h
        refine th_callV (As := [.int x2]) (rest := [.int x1]) C T (c_X11_wouldBeIn e7) k_RX11_259 11 rfl rfl (by decide) k4 rfl hl.1 rfl (st1 := [.int v5, .int x1]) rfl (cells1 := 0) rfl (slots1 := 0) rfl (Nat.le_of_ble_eq_true rfl) ⟨Nat.le_of_ble_eq_true rfl, Nat.le_of_ble_eq_true rfl⟩ ⟨Nat.le_of_ble_eq_true rfl, Nat.le_of_ble_eq_true rfl⟩ dX11_allIn_18 (fun H locs T => ?_)
        refine th_max C hl.1 w_1073 w_478 w_11 w_479 (Nat.le_of_ble_eq_true rfl) (Nat.le_of_ble_eq_true rfl) (Nat.zero_le _) (Nat.zero_le _) dX11_allIn_21 ?_
        refine lv_istore_n (lv' := [(1, .int (jmax x1 v5)), (0, .ref t), (2, .int x2)]) hx hb dX11_allIn_24 rfl hl (by decide) rfl (fun ls hl => ?_)
        refine lv_iinc (v := x2 + 1) (lv' := [(2, .int (x2 + 1)), (1, .int (jmax x1 v5)), (0, .ref t)]) hx hb dX11_allIn_25 hl (k := 2) rfl rfl (by decide) rfl (fun ls hl => ?_)
        refine lv_goto (tgt := 7) hx hb dX11_allIn_28 (by decide) ?_
        exact ih7 _ _ _ _ _ _ _ T (lv_sub hl [2, 1, 0] rfl) h
  unfold f_X11_allIn at h
  refine lv_aload_n hx hb dX11_allIn_0 rfl (lv_at hl 0 rfl) ?_
  obtain ⟨v1, e2, h⟩ := ob_ h
  refine g_RX11_142 C T e2 dX11_allIn_1 ?_
  refine lv_istore_n (lv' := [(1, .int v1), (0, .ref t)]) hx hb dX11_allIn_4 rfl hl (by decide) rfl (fun ls hl => ?_)
  refine lv_iconst (v := 0) hx hb dX11_allIn_5 (by decide) ?_
  refine lv_istore_n (lv' := [(2, .int 0), (1, .int v1), (0, .ref t)]) hx hb dX11_allIn_6 rfl hl (by decide) rfl (fun ls hl => ?_)
  exact J7 fu _ _ _ _ _ _ _ T (lv_sub hl [2, 1, 0] rfl) h
set_option maxRecDepth 100000 in
set_option maxHeartbeats 4000000 in
theorem c_X11_onTheLake {l : Launch} {G : th_G} {σ : th_S} {μ : th_M} {t : Nat} {x1 : Int32} {r : Int32} (h : f_X11_onTheLake σ μ t x1 = some r) : th_Met l G yX11_onTheLake cX11_onTheLake 3 (some FieldType.boolean) { frames := 0, cells := 0, slots := 0, locals := 0 } [.ref t, .int x1] σ μ (some (.int r)) σ μ := by
  refine th_ofW (by decide +kernel) (Nat.le_of_ble_eq_true rfl) ?_
  intro p e s m args below meth c ls Q hQ C hr hk hnm T hl
  have hx := C.1
  have hb := C.2.1
  have C : CallFix p m c cX11_onTheLake 3 s args th_ws RX11 := C
  have hl : lv_has ls 3 [(0, .ref t), (1, .int x1)] := hl
  have J18 : ∀ (n : Nat) (t : Nat) (x1 : Int32) (x2 : Int32) (H : Heap) (locs : List Loc) (ls : Array Slot), th_R G s H locs σ μ → lv_has ls 3 [(0, .ref t), (1, .int x1), (2, .int x2)] → f_X11_onTheLake_b18  n σ μ t x1 x2 = some r → W p l e { frames := 0, cells := 0, slots := 0, locals := 0 } s m args below meth c H locs 0 0 Q (F0 m 18 ls []) := by
    intro n
    induction n with
    | zero => intro t x1 x2 H locs ls T hl h; unfold f_X11_onTheLake_b18 at h; cases h
    | succ n18 ih18 =>
      intro t x1 x2 H locs ls T hl h
      unfold f_X11_onTheLake_b18 at h
      refine lv_iload_n hx hb dX11_onTheLake_18 rfl (lv_at hl 2 rfl) ?_
      refine lv_aload_n hx hb dX11_onTheLake_19 rfl (lv_at hl 0 rfl) ?_
      obtain ⟨v1, e2, h⟩ := ob_ h
      refine g_RX11_99 C T e2 dX11_onTheLake_20 ?_
      refine lv_icmp_ge (tgt := 52) hx hb dX11_onTheLake_23 (by decide) (fun c3 => ?_) (fun c3 => ?_)
      · replace h := ot_ c3 h
        refine lv_iconst (v := 1) hx hb dX11_onTheLake_52 (by decide) ?_
        obtain rfl := os1 h
        exact th_zret hQ C hr hk T (Nat.le_of_ble_eq_true rfl) (Nat.le_of_ble_eq_true rfl) dX11_onTheLake_53 rfl
      · replace h := of_ c3 h
        refine lv_iload_n hx hb dX11_onTheLake_26 rfl (lv_at hl 1 rfl) ?_
        refine lv_iload_n hx hb dX11_onTheLake_27 rfl (lv_at hl 2 rfl) ?_
        refine th_ishr C dX11_onTheLake_28 ?_
        refine lv_iconst (v := 1) hx hb dX11_onTheLake_29 (by decide) ?_
        refine lv_iand hx hb dX11_onTheLake_30 ?_
        refine lv_iconst (v := 1) hx hb dX11_onTheLake_31 (by decide) ?_
        refine lv_icmp_ne (tgt := 46) hx hb dX11_onTheLake_32 (by decide) (fun c4 => ?_) (fun c4 => ?_)
        · replace h := of_ c4 h
          refine lv_iinc (v := x2 + 1) (lv' := [(2, .int (x2 + 1)), (0, .ref t), (1, .int x1)]) hx hb dX11_onTheLake_46 hl (k := 2) rfl rfl (by decide) rfl (fun ls hl => ?_)
          refine lv_goto (tgt := 18) hx hb dX11_onTheLake_49 (by decide) ?_
          exact ih18 _ _ _ _ _ _ T (lv_sub hl [1, 2, 0] rfl) h
        · replace h := ot_ c4 h
          refine lv_aload_n hx hb dX11_onTheLake_35 rfl (lv_at hl 0 rfl) ?_
          obtain ⟨a5, e6, h⟩ := ob_ h
          refine g_RX11_25 C T e6 dX11_onTheLake_36 ?_
          refine lv_iload_n hx hb dX11_onTheLake_39 rfl (lv_at hl 2 rfl) ?_
          obtain ⟨v7, e8, h⟩ := ob_ h
          refine th_iald C T e8 dX11_onTheLake_40 ?_
          refine lv_if_eq (tgt := 46) hx hb dX11_onTheLake_41 (by decide) (fun c9 => ?_) (fun c9 => ?_)
          · replace h := ot_ c9 h
            refine lv_iinc (v := x2 + 1) (lv' := [(2, .int (x2 + 1)), (0, .ref t), (1, .int x1)]) hx hb dX11_onTheLake_46 hl (k := 2) rfl rfl (by decide) rfl (fun ls hl => ?_)
            refine lv_goto (tgt := 18) hx hb dX11_onTheLake_49 (by decide) ?_
            exact ih18 _ _ _ _ _ _ T (lv_sub hl [1, 2, 0] rfl) h
          · replace h := of_ c9 h
            refine lv_iconst (v := 0) hx hb dX11_onTheLake_44 (by decide) ?_
            obtain rfl := os1 h
            exact th_zret hQ C hr hk T (Nat.le_of_ble_eq_true rfl) (Nat.le_of_ble_eq_true rfl) dX11_onTheLake_45 rfl
  unfold f_X11_onTheLake at h
  refine lv_iload_n hx hb dX11_onTheLake_0 rfl (lv_at hl 1 rfl) ?_
  refine lv_if_lt (tgt := 14) hx hb dX11_onTheLake_1 (by decide) (fun c1 => ?_) (fun c1 => ?_)
  · replace h := ot_ c1 h
    refine lv_iconst (v := 0) hx hb dX11_onTheLake_14 (by decide) ?_
    obtain rfl := os1 h
    exact th_zret hQ C hr hk T (Nat.le_of_ble_eq_true rfl) (Nat.le_of_ble_eq_true rfl) dX11_onTheLake_15 rfl
  · replace h := of_ c1 h
    refine lv_iload_n hx hb dX11_onTheLake_4 rfl (lv_at hl 1 rfl) ?_
    refine lv_iconst (v := 1) hx hb dX11_onTheLake_5 (by decide) ?_
    refine lv_aload_n hx hb dX11_onTheLake_6 rfl (lv_at hl 0 rfl) ?_
    obtain ⟨v2, e3, h⟩ := ob_ h
    refine g_RX11_99 C T e3 dX11_onTheLake_7 ?_
    refine th_ishl C dX11_onTheLake_10 ?_
    refine lv_icmp_lt (tgt := 16) hx hb dX11_onTheLake_11 (by decide) (fun c4 => ?_) (fun c4 => ?_)
    · replace h := ot_ c4 h
      refine lv_iconst (v := 0) hx hb dX11_onTheLake_16 (by decide) ?_
      refine lv_istore_n (lv' := [(2, .int 0), (0, .ref t), (1, .int x1)]) hx hb dX11_onTheLake_17 rfl hl (by decide) rfl (fun ls hl => ?_)
      exact J18 fu _ _ _ _ _ _ T (lv_sub hl [1, 2, 0] rfl) h
    · replace h := of_ c4 h
      refine lv_iconst (v := 0) hx hb dX11_onTheLake_14 (by decide) ?_
      obtain rfl := os1 h
      exact th_zret hQ C hr hk T (Nat.le_of_ble_eq_true rfl) (Nat.le_of_ble_eq_true rfl) dX11_onTheLake_15 rfl
def IH_X11_goes (l : Launch) (G : th_G) (d : Nat) : Prop :=
  (∀ (σ : th_S) (μ : th_M) (t : Nat) (x1 : Int32) (x2 : Int32) (x3 : Int32) (x4 : Int32) (x5 : Int32)  (μ' : th_M), f_scc_X11_goes d 0 σ μ t x1 x2 x3 x4 x5 = some μ' → th_Met l G yX11_goes cX11_goes 8 none { frames := 2 + d, cells := 0, slots := 0, locals := 101 + 27 * d } [.ref t, .int x1, .int x2, .int x3, .int x4, .int x5] σ μ none σ μ')
theorem ih_0_X11_goes {l : Launch} {G : th_G} {σ : th_S} {μ : th_M} {t : Nat} {x1 : Int32} {x2 : Int32} {x3 : Int32} {x4 : Int32} {x5 : Int32}  {μ' : th_M} {d : Nat} (IH : IH_X11_goes l G d) (h : f_scc_X11_goes d 0 σ μ t x1 x2 x3 x4 x5 = some μ') : th_Met l G yX11_goes cX11_goes 8 none { frames := 2 + d, cells := 0, slots := 0, locals := 101 + 27 * d } [.ref t, .int x1, .int x2, .int x3, .int x4, .int x5] σ μ none σ μ' := IH _ _ _ _ _ _ _ _ _ h
set_option maxRecDepth 100000 in
set_option maxHeartbeats 4000000 in
theorem cb_X11_goes {l : Launch} {G : th_G} {σ : th_S} {μ : th_M} {t : Nat} {x1 : Int32} {x2 : Int32} {x3 : Int32} {x4 : Int32} {x5 : Int32}  {μ' : th_M} (d : Nat) (IH : IH_X11_goes l G d) (h : fb_X11_goes (f_scc_X11_goes d) σ μ t x1 x2 x3 x4 x5 = some μ') : th_Met l G yX11_goes cX11_goes 8 none { frames := 2 + (d + 1), cells := 0, slots := 0, locals := 101 + 27 * (d + 1) } [.ref t, .int x1, .int x2, .int x3, .int x4, .int x5] σ μ none σ μ' := by
  refine th_ofW (by decide +kernel) (Nat.le_of_ble_eq_true rfl) ?_
  intro p e s m args below meth c ls Q hQ C hr hk hnm T hl
  have hx := C.1
  have hb := C.2.1
  have C : CallFix p m c cX11_goes 8 s args th_ws RX11 := C
  have hl : lv_has ls 8 [(0, .ref t), (1, .int x1), (2, .int x2), (3, .int x3), (4, .int x4), (5, .int x5)] := hl
  have J112 : ∀ (n : Nat) (μ : th_M) (t : Nat) (x1 : Int32) (x2 : Int32) (x3 : Int32) (x4 : Int32) (x5 : Int32) (x6 : Int32) (H : Heap) (locs : List Loc) (ls : Array Slot), th_R G s H locs σ μ → lv_has ls 8 [(0, .ref t), (1, .int x1), (2, .int x2), (3, .int x3), (4, .int x4), (5, .int x5), (6, .int x6)] → f_X11_goes_b112 (f_scc_X11_goes d)  n σ μ t x1 x2 x3 x4 x5 x6 = some μ' → W p l e { frames := 2 + (d + 1), cells := 0, slots := 0, locals := 101 + 27 * (d + 1) } s m args below meth c H locs 0 0 Q (F0 m 112 ls []) := by
    intro n
    induction n with
    | zero => intro μ t x1 x2 x3 x4 x5 x6 H locs ls T hl h; unfold f_X11_goes_b112 at h; cases h
    | succ n112 ih112 =>
      intro μ t x1 x2 x3 x4 x5 x6 H locs ls T hl h
      unfold f_X11_goes_b112 at h
      refine lv_iload hx hb dX11_goes_112 (lv_at hl 6 rfl) ?_
      refine lv_aload_n hx hb dX11_goes_114 rfl (lv_at hl 0 rfl) ?_
      obtain ⟨v1, e2, h⟩ := ob_ h
      refine g_RX11_99 C T e2 dX11_goes_115 ?_
      refine lv_icmp_ge (tgt := 195) hx hb dX11_goes_118 (by decide) (fun c3 => ?_) (fun c3 => ?_)
      · replace h := ot_ c3 h
        obtain rfl := os1 h
        exact th_vret hQ C hr hk T (Nat.le_of_ble_eq_true rfl) (Nat.le_of_ble_eq_true rfl) dX11_goes_195
      · replace h := of_ c3 h
        refine lv_iload_n hx hb dX11_goes_121 rfl (lv_at hl 1 rfl) ?_
        refine lv_iload hx hb dX11_goes_122 (lv_at hl 6 rfl) ?_
        refine th_ishr C dX11_goes_124 ?_
        refine lv_iconst (v := 1) hx hb dX11_goes_125 (by decide) ?_
        refine lv_iand hx hb dX11_goes_126 ?_
        refine lv_if_ne (tgt := 133) hx hb dX11_goes_127 (by decide) (fun c4 => ?_) (fun c4 => ?_)
        · replace h := of_ c4 h
          refine lv_aload_n hx hb dX11_goes_133 rfl (lv_at hl 0 rfl) ?_
          obtain ⟨a5, e6, h⟩ := ob_ h
          refine g_RX11_46 C T e6 dX11_goes_134 ?_
          refine lv_iload_n hx hb dX11_goes_137 rfl (lv_at hl 2 rfl) ?_
          refine lv_iload hx hb dX11_goes_138 (lv_at hl 6 rfl) ?_
          obtain ⟨μ7, e8, h⟩ := ob_ h
          refine th_iast C T e8 dX11_goes_140 (fun H locs T => ?_)
          refine lv_aload_n hx hb dX11_goes_141 rfl (lv_at hl 0 rfl) ?_
          refine lv_iload_n hx hb dX11_goes_142 rfl (lv_at hl 1 rfl) ?_
          refine lv_iconst (v := 1) hx hb dX11_goes_143 (by decide) ?_
          refine lv_iload hx hb dX11_goes_144 (lv_at hl 6 rfl) ?_
          refine th_ishl C dX11_goes_146 ?_
          refine lv_iconst (v := -1) hx hb dX11_goes_147 (by decide) ?_
          refine lv_ixor hx hb dX11_goes_148 ?_
          refine lv_iand hx hb dX11_goes_149 ?_
          refine lv_iload_n hx hb dX11_goes_150 rfl (lv_at hl 2 rfl) ?_
          refine lv_iconst (v := 1) hx hb dX11_goes_151 (by decide) ?_
          refine lv_iadd hx hb dX11_goes_152 ?_
          refine lv_aload_n hx hb dX11_goes_153 rfl (lv_at hl 0 rfl) ?_
          obtain ⟨a9, e10, h⟩ := ob_ h
          refine g_RX11_16 C T e10 dX11_goes_154 ?_
          refine lv_iload hx hb dX11_goes_157 (lv_at hl 6 rfl) ?_
          obtain ⟨v11, e12, h⟩ := ob_ h
          refine th_iald C T e12 dX11_goes_159 ?_
          refine lv_iload hx hb dX11_goes_160 (lv_at hl 4 rfl) ?_
          refine lv_iconst (v := 1) hx hb dX11_goes_162 (by decide) ?_
          refine lv_iadd hx hb dX11_goes_163 ?_
          refine lv_iload hx hb dX11_goes_164 (lv_at hl 5 rfl) ?_
          refine lv_iload_n hx hb dX11_goes_166 rfl (lv_at hl 3 rfl) ?_
          refine lv_aload_n hx hb dX11_goes_167 rfl (lv_at hl 0 rfl) ?_
          obtain ⟨a13, e14, h⟩ := ob_ h
          refine g_RX11_16 C T e14 dX11_goes_168 ?_
          refine lv_iload hx hb dX11_goes_171 (lv_at hl 6 rfl) ?_
          obtain ⟨v15, e16, h⟩ := ob_ h
          refine th_iald C T e16 dX11_goes_173 ?_
          obtain ⟨v17, e18, h⟩ := ob_ h
          refine th_callS (As := [.int x3, .int v15]) (rest := [.int x5, .int (x4 + 1), .int v11, .int (x2 + 1), .int (x1 &&& ((jshl 1 x6) ^^^ (-1))), .ref t]) C T (c_X11_far e18) k_RX11_126 rfl hl.1 rfl (st1 := [.int v17, .int x5, .int (x4 + 1), .int v11, .int (x2 + 1), .int (x1 &&& ((jshl 1 x6) ^^^ (-1))), .ref t]) rfl (cells1 := 0) rfl (slots1 := 0) rfl (Nat.le_of_ble_eq_true rfl) ⟨show 1 + 1 ≤ 2 + (d + 1) by omega, show 8 + (2 + 11) + 80 ≤ 101 + 27 * (d + 1) by omega⟩ ⟨Nat.le_of_ble_eq_true rfl, Nat.le_of_ble_eq_true rfl⟩ dX11_goes_174 (fun H locs T => ?_)
          refine lv_aload_n hx hb dX11_goes_177 rfl (lv_at hl 0 rfl) ?_
          obtain ⟨v19, e20, h⟩ := ob_ h
          refine g_RX11_77 C T e20 dX11_goes_178 ?_
          refine lv_iload hx hb dX11_goes_181 (lv_at hl 4 rfl) ?_
          refine lv_iadd hx hb dX11_goes_183 ?_
          refine lv_imul hx hb dX11_goes_184 ?_
          refine lv_iadd hx hb dX11_goes_185 ?_
          obtain ⟨k21, h⟩ := oc_ h
          obtain ⟨μ22, e23, h⟩ := ob_ h
          refine th_callV (As := [.int (x1 &&& ((jshl 1 x6) ^^^ (-1))), .int (x2 + 1), .int v11, .int (x4 + 1), .int (x5 + (v17 * (v19 + x4)))]) (rest := []) C T (ih_0_X11_goes IH e23) k_RX11_265 11 rfl rfl (by decide) k21 rfl hl.1 rfl (st1 := []) rfl (cells1 := 0) rfl (slots1 := 0) rfl (Nat.le_of_ble_eq_true rfl) ⟨show 2 + d + 1 ≤ 2 + (d + 1) by omega, show 8 + (8 + 11) + (101 + 27 * d) ≤ 101 + 27 * (d + 1) by omega⟩ ⟨Nat.le_of_ble_eq_true rfl, Nat.le_of_ble_eq_true rfl⟩ dX11_goes_186 (fun H locs T => ?_)
          refine lv_iinc (v := x6 + 1) (lv' := [(6, .int (x6 + 1)), (0, .ref t), (1, .int x1), (2, .int x2), (3, .int x3), (4, .int x4), (5, .int x5)]) hx hb dX11_goes_189 hl (k := 6) rfl rfl (by decide) rfl (fun ls hl => ?_)
          refine lv_goto (tgt := 112) hx hb dX11_goes_192 (by decide) ?_
          exact ih112 _ _ _ _ _ _ _ _ _ _ _ T (lv_sub hl [1, 2, 3, 4, 5, 6, 0] rfl) h
        · replace h := ot_ c4 h
          refine lv_goto (tgt := 189) hx hb dX11_goes_130 (by decide) ?_
          refine lv_iinc (v := x6 + 1) (lv' := [(6, .int (x6 + 1)), (0, .ref t), (1, .int x1), (2, .int x2), (3, .int x3), (4, .int x4), (5, .int x5)]) hx hb dX11_goes_189 hl (k := 6) rfl rfl (by decide) rfl (fun ls hl => ?_)
          refine lv_goto (tgt := 112) hx hb dX11_goes_192 (by decide) ?_
          exact ih112 _ _ _ _ _ _ _ _ _ _ _ T (lv_sub hl [1, 2, 3, 4, 5, 6, 0] rfl) h
  have J48 : ∀ (n : Nat) (μ : th_M) (t : Nat) (x2 : Int32) (x7 : Int32) (H : Heap) (locs : List Loc) (ls : Array Slot), th_R G s H locs σ μ → lv_has ls 8 [(0, .ref t), (2, .int x2), (7, .int x7)] → f_X11_goes_b48 (f_scc_X11_goes d)  n σ μ t x2 x7 = some μ' → W p l e { frames := 2 + (d + 1), cells := 0, slots := 0, locals := 101 + 27 * (d + 1) } s m args below meth c H locs 0 0 Q (F0 m 48 ls []) := by
    intro n
    induction n with
    | zero => intro μ t x2 x7 H locs ls T hl h; unfold f_X11_goes_b48 at h; cases h
    | succ n48 ih48 =>
      intro μ t x2 x7 H locs ls T hl h
      unfold f_X11_goes_b48 at h
      refine lv_iload hx hb dX11_goes_48 (lv_at hl 2 rfl) ?_
      refine lv_iload_n hx hb dX11_goes_50 rfl (lv_at hl 1 rfl) ?_
      refine lv_icmp_ge (tgt := 74) hx hb dX11_goes_51 (by decide) (fun c1 => ?_) (fun c1 => ?_)
      · replace h := ot_ c1 h
        obtain rfl := os1 h
        exact th_vret hQ C hr hk T (Nat.le_of_ble_eq_true rfl) (Nat.le_of_ble_eq_true rfl) dX11_goes_74
      · replace h := of_ c1 h
        refine lv_aload_n hx hb dX11_goes_54 rfl (lv_at hl 0 rfl) ?_
        obtain ⟨a2, e3, h⟩ := ob_ h
        refine g_RX11_49 C T e3 dX11_goes_55 ?_
        refine lv_iload hx hb dX11_goes_58 (lv_at hl 2 rfl) ?_
        refine lv_aload_n hx hb dX11_goes_60 rfl (lv_at hl 0 rfl) ?_
        obtain ⟨a4, e5, h⟩ := ob_ h
        refine g_RX11_46 C T e5 dX11_goes_61 ?_
        refine lv_iload hx hb dX11_goes_64 (lv_at hl 2 rfl) ?_
        obtain ⟨v6, e7, h⟩ := ob_ h
        refine th_iald C T e7 dX11_goes_66 ?_
        obtain ⟨μ8, e9, h⟩ := ob_ h
        refine th_iast C T e9 dX11_goes_67 (fun H locs T => ?_)
        refine lv_iinc (v := x7 + 1) (lv' := [(7, .int (x7 + 1)), (0, .ref t), (2, .int x2)]) hx hb dX11_goes_68 hl (k := 2) rfl rfl (by decide) rfl (fun ls hl => ?_)
        refine lv_goto (tgt := 48) hx hb dX11_goes_71 (by decide) ?_
        exact ih48 _ _ _ _ _ _ _ T (lv_sub hl [1, 2, 0] rfl) h
  unfold fb_X11_goes at h
  refine lv_iload_n hx hb dX11_goes_0 rfl (lv_at hl 1 rfl) ?_
  refine lv_if_ne (tgt := 75) hx hb dX11_goes_1 (by decide) (fun c1 => ?_) (fun c1 => ?_)
  · replace h := of_ c1 h
    refine lv_iload hx hb dX11_goes_75 (lv_at hl 4 rfl) ?_
    refine lv_aload_n hx hb dX11_goes_77 rfl (lv_at hl 0 rfl) ?_
    obtain ⟨v2, e3, h⟩ := ob_ h
    refine g_RX11_74 C T e3 dX11_goes_78 ?_
    refine lv_icmp_ne (tgt := 109) hx hb dX11_goes_81 (by decide) (fun c4 => ?_) (fun c4 => ?_)
    · replace h := of_ c4 h
      refine lv_iconst (v := 0) hx hb dX11_goes_109 (by decide) ?_
      refine lv_istore (lv' := [(6, .int 0), (0, .ref t), (1, .int x1), (2, .int x2), (3, .int x3), (4, .int x4), (5, .int x5)]) hx hb dX11_goes_110 hl (by decide) rfl (fun ls hl => ?_)
      exact J112 fu _ _ _ _ _ _ _ _ _ _ _ T (lv_sub hl [1, 2, 3, 4, 5, 6, 0] rfl) h
    · replace h := ot_ c4 h
      refine lv_aload_n hx hb dX11_goes_84 rfl (lv_at hl 0 rfl) ?_
      refine lv_iload_n hx hb dX11_goes_85 rfl (lv_at hl 1 rfl) ?_
      refine lv_iload_n hx hb dX11_goes_86 rfl (lv_at hl 2 rfl) ?_
      refine lv_iconst (v := 0) hx hb dX11_goes_87 (by decide) ?_
      refine lv_iconst (v := 0) hx hb dX11_goes_88 (by decide) ?_
      refine lv_iload hx hb dX11_goes_89 (lv_at hl 5 rfl) ?_
      refine lv_iload_n hx hb dX11_goes_91 rfl (lv_at hl 3 rfl) ?_
      refine lv_iconst (v := 0) hx hb dX11_goes_92 (by decide) ?_
      obtain ⟨v5, e6, h⟩ := ob_ h
      refine th_callS (As := [.int x3, .int 0]) (rest := [.int x5, .int 0, .int 0, .int x2, .int x1, .ref t]) C T (c_X11_far e6) k_RX11_126 rfl hl.1 rfl (st1 := [.int v5, .int x5, .int 0, .int 0, .int x2, .int x1, .ref t]) rfl (cells1 := 0) rfl (slots1 := 0) rfl (Nat.le_of_ble_eq_true rfl) ⟨show 1 + 1 ≤ 2 + (d + 1) by omega, show 8 + (2 + 11) + 80 ≤ 101 + 27 * (d + 1) by omega⟩ ⟨Nat.le_of_ble_eq_true rfl, Nat.le_of_ble_eq_true rfl⟩ dX11_goes_93 (fun H locs T => ?_)
      refine lv_aload_n hx hb dX11_goes_96 rfl (lv_at hl 0 rfl) ?_
      obtain ⟨v7, e8, h⟩ := ob_ h
      refine g_RX11_77 C T e8 dX11_goes_97 ?_
      refine lv_iload hx hb dX11_goes_100 (lv_at hl 4 rfl) ?_
      refine lv_iadd hx hb dX11_goes_102 ?_
      refine lv_imul hx hb dX11_goes_103 ?_
      refine lv_iadd hx hb dX11_goes_104 ?_
      obtain ⟨k9, h⟩ := oc_ h
      obtain ⟨μ10, e11, h⟩ := ob_ h
      refine th_callV (As := [.int x1, .int x2, .int 0, .int 0, .int (x5 + (v5 * (v7 + x4)))]) (rest := []) C T (ih_0_X11_goes IH e11) k_RX11_265 11 rfl rfl (by decide) k9 rfl hl.1 rfl (st1 := []) rfl (cells1 := 0) rfl (slots1 := 0) rfl (Nat.le_of_ble_eq_true rfl) ⟨show 2 + d + 1 ≤ 2 + (d + 1) by omega, show 8 + (8 + 11) + (101 + 27 * d) ≤ 101 + 27 * (d + 1) by omega⟩ ⟨Nat.le_of_ble_eq_true rfl, Nat.le_of_ble_eq_true rfl⟩ dX11_goes_105 (fun H locs T => ?_)
      obtain rfl := os1 h
      exact th_vret hQ C hr hk T (Nat.le_of_ble_eq_true rfl) (Nat.le_of_ble_eq_true rfl) dX11_goes_108
  · replace h := ot_ c1 h
    refine lv_iload hx hb dX11_goes_4 (lv_at hl 5 rfl) ?_
    refine lv_iload_n hx hb dX11_goes_6 rfl (lv_at hl 3 rfl) ?_
    refine lv_iconst (v := 0) hx hb dX11_goes_7 (by decide) ?_
    obtain ⟨v12, e13, h⟩ := ob_ h
    refine th_callS (As := [.int x3, .int 0]) (rest := [.int x5]) C T (c_X11_far e13) k_RX11_126 rfl hl.1 rfl (st1 := [.int v12, .int x5]) rfl (cells1 := 0) rfl (slots1 := 0) rfl (Nat.le_of_ble_eq_true rfl) ⟨show 1 + 1 ≤ 2 + (d + 1) by omega, show 8 + (2 + 11) + 80 ≤ 101 + 27 * (d + 1) by omega⟩ ⟨Nat.le_of_ble_eq_true rfl, Nat.le_of_ble_eq_true rfl⟩ dX11_goes_8 (fun H locs T => ?_)
    refine lv_aload_n hx hb dX11_goes_11 rfl (lv_at hl 0 rfl) ?_
    obtain ⟨v14, e15, h⟩ := ob_ h
    refine g_RX11_77 C T e15 dX11_goes_12 ?_
    refine lv_iload hx hb dX11_goes_15 (lv_at hl 4 rfl) ?_
    refine lv_iadd hx hb dX11_goes_17 ?_
    refine lv_imul hx hb dX11_goes_18 ?_
    refine lv_iadd hx hb dX11_goes_19 ?_
    refine lv_istore (lv' := [(6, .int (x5 + (v12 * (v14 + x4)))), (0, .ref t), (1, .int x1), (2, .int x2), (3, .int x3), (4, .int x4), (5, .int x5)]) hx hb dX11_goes_20 hl (by decide) rfl (fun ls hl => ?_)
    refine lv_aload_n hx hb dX11_goes_22 rfl (lv_at hl 1 rfl) ?_
    obtain ⟨v16, e17, h⟩ := ob_ h
    refine g_RX11_262 C T e17 dX11_goes_23 ?_
    refine lv_if_lt (tgt := 39) hx hb dX11_goes_26 (by decide) (fun c18 => ?_) (fun c18 => ?_)
    · replace h := ot_ c18 h
      refine lv_aload_n hx hb dX11_goes_39 rfl (lv_at hl 1 rfl) ?_
      refine lv_iload hx hb dX11_goes_40 (lv_at hl 0 rfl) ?_
      obtain ⟨μ19, e20, h⟩ := ob_ h
      refine p_RX11_262 C T e20 dX11_goes_42 (fun H locs T => ?_)
      refine lv_iconst (v := 0) hx hb dX11_goes_45 (by decide) ?_
      refine lv_istore (lv' := [(7, .int 0), (6, .int (x5 + (v12 * (v14 + x4)))), (0, .ref t), (1, .int x1), (2, .int x2), (3, .int x3), (4, .int x4), (5, .int x5)]) hx hb dX11_goes_46 hl (by decide) rfl (fun ls hl => ?_)
      exact J48 fu _ _ _ _ _ _ _ T (lv_sub hl [2, 4, 0] rfl) h
    · replace h := of_ c18 h
      refine lv_iload hx hb dX11_goes_29 (lv_at hl 0 rfl) ?_
      refine lv_aload_n hx hb dX11_goes_31 rfl (lv_at hl 1 rfl) ?_
      obtain ⟨v21, e22, h⟩ := ob_ h
      refine g_RX11_262 C T e22 dX11_goes_32 ?_
      refine lv_icmp_lt (tgt := 39) hx hb dX11_goes_35 (by decide) (fun c23 => ?_) (fun c23 => ?_)
      · replace h := ot_ c23 h
        refine lv_aload_n hx hb dX11_goes_39 rfl (lv_at hl 1 rfl) ?_
        refine lv_iload hx hb dX11_goes_40 (lv_at hl 0 rfl) ?_
        obtain ⟨μ24, e25, h⟩ := ob_ h
        refine p_RX11_262 C T e25 dX11_goes_42 (fun H locs T => ?_)
        refine lv_iconst (v := 0) hx hb dX11_goes_45 (by decide) ?_
        refine lv_istore (lv' := [(7, .int 0), (6, .int (x5 + (v12 * (v14 + x4)))), (0, .ref t), (1, .int x1), (2, .int x2), (3, .int x3), (4, .int x4), (5, .int x5)]) hx hb dX11_goes_46 hl (by decide) rfl (fun ls hl => ?_)
        exact J48 fu _ _ _ _ _ _ _ T (lv_sub hl [2, 4, 0] rfl) h
      · replace h := of_ c23 h
        obtain rfl := os1 h
        exact th_vret hQ C hr hk T (Nat.le_of_ble_eq_true rfl) (Nat.le_of_ble_eq_true rfl) dX11_goes_38
set_option maxRecDepth 100000 in
set_option maxHeartbeats 4000000 in
theorem IHall_X11_goes (l : Launch) (G : th_G) : ∀ d, IH_X11_goes l G d := by
  intro d
  induction d with
  | zero => exact (fun σ μ t x1 x2 x3 x4 x5 μ' h => by unfold f_scc_X11_goes at h; cases h)
  | succ d IH => exact (fun σ μ t x1 x2 x3 x4 x5 μ' h => by unfold f_scc_X11_goes at h; exact cb_X11_goes d IH h)
theorem c_X11_goes {l : Launch} {G : th_G} {σ : th_S} {μ : th_M} {t : Nat} {x1 : Int32} {x2 : Int32} {x3 : Int32} {x4 : Int32} {x5 : Int32}  {μ' : th_M} (h : f_X11_goes σ μ t x1 x2 x3 x4 x5 = some μ') : th_Met l G yX11_goes cX11_goes 8 none { frames := 2 + 20, cells := 0, slots := 0, locals := 101 + 27 * 20 } [.ref t, .int x1, .int x2, .int x3, .int x4, .int x5] σ μ none σ μ' := ih_0_X11_goes (IHall_X11_goes l G 20) h
set_option maxRecDepth 100000 in
set_option maxHeartbeats 4000000 in
theorem c_X11_fetches {l : Launch} {G : th_G} {σ : th_S} {μ : th_M} {t : Nat} {x1 : Int32} {r : Int32} {μ' : th_M} (h : f_X11_fetches σ μ t x1 = some (r, μ')) : th_Met l G yX11_fetches cX11_fetches 2 (some FieldType.int) { frames := 23, cells := 0, slots := 0, locals := 668 } [.ref t, .int x1] σ μ (some (.int r)) σ μ' := by
  refine th_ofW (by decide +kernel) (Nat.le_of_ble_eq_true rfl) ?_
  intro p e s m args below meth c ls Q hQ C hr hk hnm T hl
  have hx := C.1
  have hb := C.2.1
  have C : CallFix p m c cX11_fetches 2 s args th_ws RX11 := C
  have hl : lv_has ls 2 [(0, .ref t), (1, .int x1)] := hl
  unfold f_X11_fetches at h
  refine lv_aload_n hx hb dX11_fetches_0 rfl (lv_at hl 0 rfl) ?_
  refine lv_iconst (v := -1) hx hb dX11_fetches_1 (by decide) ?_
  obtain ⟨μ1, e2, h⟩ := ob_ h
  refine p_RX11_262 C T e2 dX11_fetches_2 (fun H locs T => ?_)
  refine lv_aload_n hx hb dX11_fetches_5 rfl (lv_at hl 0 rfl) ?_
  refine lv_iload_n hx hb dX11_fetches_6 rfl (lv_at hl 1 rfl) ?_
  refine lv_iconst (v := 0) hx hb dX11_fetches_7 (by decide) ?_
  refine lv_iconst (v := 0) hx hb dX11_fetches_8 (by decide) ?_
  refine lv_iconst (v := 0) hx hb dX11_fetches_9 (by decide) ?_
  refine lv_iconst (v := 0) hx hb dX11_fetches_10 (by decide) ?_
  obtain ⟨k3, h⟩ := oc_ h
  obtain ⟨μ4, e5, h⟩ := ob_ h
  refine th_callV (As := [.int x1, .int 0, .int 0, .int 0, .int 0]) (rest := []) C T (c_X11_goes e5) k_RX11_265 11 rfl rfl (by decide) k3 rfl hl.1 rfl (st1 := []) rfl (cells1 := 0) rfl (slots1 := 0) rfl (Nat.le_of_ble_eq_true rfl) ⟨Nat.le_of_ble_eq_true rfl, Nat.le_of_ble_eq_true rfl⟩ ⟨Nat.le_of_ble_eq_true rfl, Nat.le_of_ble_eq_true rfl⟩ dX11_fetches_11 (fun H locs T => ?_)
  refine lv_aload_n hx hb dX11_fetches_14 rfl (lv_at hl 0 rfl) ?_
  obtain ⟨v6, e7, h⟩ := ob_ h
  refine g_RX11_262 C T e7 dX11_fetches_15 ?_
  obtain ⟨rfl, rfl⟩ := os2 h
  exact th_iret hQ C hr hk T (Nat.le_of_ble_eq_true rfl) (Nat.le_of_ble_eq_true rfl) dX11_fetches_18
set_option maxRecDepth 100000 in
set_option maxHeartbeats 4000000 in
theorem c_X11_fetch {l : Launch} {G : th_G} {σ : th_S} {μ : th_M} {t : Nat} {x1 : Int32} {x2 : Int32} {r : Int32} {μ' : th_M} (h : f_X11_fetch σ μ t x1 x2 = some (r, μ')) : th_Met l G yX11_fetch cX11_fetch 4 (some FieldType.int) { frames := 24, cells := 0, slots := 0, locals := 689 } [.ref t, .int x1, .int x2] σ μ (some (.int r)) σ μ' := by
  refine th_ofW (by decide +kernel) (Nat.le_of_ble_eq_true rfl) ?_
  intro p e s m args below meth c ls Q hQ C hr hk hnm T hl
  have hx := C.1
  have hb := C.2.1
  have C : CallFix p m c cX11_fetch 4 s args th_ws RX11 := C
  have hl : lv_has ls 4 [(0, .ref t), (1, .int x1), (2, .int x2)] := hl
  unfold f_X11_fetch at h
  refine lv_aload_n hx hb dX11_fetch_0 rfl (lv_at hl 0 rfl) ?_
  refine lv_iload_n hx hb dX11_fetch_1 rfl (lv_at hl 1 rfl) ?_
  obtain ⟨k1, h⟩ := oc_ h
  obtain ⟨v2, e3, h⟩ := ob_ h
  refine th_callV (As := [.int x1]) (rest := []) C T (c_X11_onTheLake e3) k_RX11_269 11 rfl rfl (by decide) k1 rfl hl.1 rfl (st1 := [.int v2]) rfl (cells1 := 0) rfl (slots1 := 0) rfl (Nat.le_of_ble_eq_true rfl) ⟨Nat.le_of_ble_eq_true rfl, Nat.le_of_ble_eq_true rfl⟩ ⟨Nat.le_of_ble_eq_true rfl, Nat.le_of_ble_eq_true rfl⟩ dX11_fetch_2 (fun H locs T => ?_)
  refine lv_if_eq (tgt := 18) hx hb dX11_fetch_5 (by decide) (fun c4 => ?_) (fun c4 => ?_)
  · replace h := ot_ c4 h
    refine lv_bipush (v := -2) hx hb dX11_fetch_18 (by decide) ?_
    obtain ⟨rfl, rfl⟩ := os2 h
    exact th_iret hQ C hr hk T (Nat.le_of_ble_eq_true rfl) (Nat.le_of_ble_eq_true rfl) dX11_fetch_20
  · replace h := of_ c4 h
    refine lv_iload_n hx hb dX11_fetch_8 rfl (lv_at hl 2 rfl) ?_
    refine lv_iconst (v := 0) hx hb dX11_fetch_9 (by decide) ?_
    refine lv_bipush (v := 7) hx hb dX11_fetch_10 (by decide) ?_
    obtain ⟨v5, e6, h⟩ := ob_ h
    refine th_callS (As := [.int x2, .int 0, .int 7]) (rest := []) C T (c_X11_within e6) k_RX11_102 rfl hl.1 rfl (st1 := [.int v5]) rfl (cells1 := 0) rfl (slots1 := 0) rfl (Nat.le_of_ble_eq_true rfl) ⟨Nat.le_of_ble_eq_true rfl, Nat.le_of_ble_eq_true rfl⟩ ⟨Nat.le_of_ble_eq_true rfl, Nat.le_of_ble_eq_true rfl⟩ dX11_fetch_12 (fun H locs T => ?_)
    refine lv_if_ne (tgt := 21) hx hb dX11_fetch_15 (by decide) (fun c7 => ?_) (fun c7 => ?_)
    · replace h := of_ c7 h
      refine lv_aload_n hx hb dX11_fetch_21 rfl (lv_at hl 0 rfl) ?_
      refine lv_iload_n hx hb dX11_fetch_22 rfl (lv_at hl 1 rfl) ?_
      obtain ⟨v8, μ9, e10, h⟩ := ob2 h
      refine th_callV (As := [.int x1]) (rest := []) C T (c_X11_fetches e10) k_RX11_272 11 rfl rfl (by decide) k1 rfl hl.1 rfl (st1 := [.int v8]) rfl (cells1 := 0) rfl (slots1 := 0) rfl (Nat.le_of_ble_eq_true rfl) ⟨Nat.le_of_ble_eq_true rfl, Nat.le_of_ble_eq_true rfl⟩ ⟨Nat.le_of_ble_eq_true rfl, Nat.le_of_ble_eq_true rfl⟩ dX11_fetch_23 (fun H locs T => ?_)
      refine lv_istore_n (lv' := [(3, .int v8), (0, .ref t), (1, .int x1), (2, .int x2)]) hx hb dX11_fetch_26 rfl hl (by decide) rfl (fun ls hl => ?_)
      refine lv_iload_n hx hb dX11_fetch_27 rfl (lv_at hl 3 rfl) ?_
      refine lv_if_ne (tgt := 35) hx hb dX11_fetch_28 (by decide) (fun c11 => ?_) (fun c11 => ?_)
      · replace h := of_ c11 h
        refine lv_iload_n hx hb dX11_fetch_35 rfl (lv_at hl 3 rfl) ?_
        refine lv_iload_n hx hb dX11_fetch_36 rfl (lv_at hl 2 rfl) ?_
        obtain ⟨v12, e13, h⟩ := ob_ h
        refine th_callS (As := [.int x1]) (rest := [.int x2]) C T (c_J6_bitCount_0f7a4 e13) k_RX11_275 rfl hl.1 rfl (st1 := [.int v12, .int x2]) rfl (cells1 := 0) rfl (slots1 := 0) rfl (Nat.le_of_ble_eq_true rfl) ⟨Nat.le_of_ble_eq_true rfl, Nat.le_of_ble_eq_true rfl⟩ ⟨Nat.le_of_ble_eq_true rfl, Nat.le_of_ble_eq_true rfl⟩ dX11_fetch_37 (fun H locs T => ?_)
        refine lv_icmp_le (tgt := 47) hx hb dX11_fetch_40 (by decide) (fun c14 => ?_) (fun c14 => ?_)
        · replace h := ot_ c14 h
          refine lv_aload_n hx hb dX11_fetch_47 rfl (lv_at hl 1 rfl) ?_
          obtain ⟨a15, e16, h⟩ := ob_ h
          refine g_RX11_49 C T e16 dX11_fetch_48 ?_
          refine lv_iload_n hx hb dX11_fetch_51 rfl (lv_at hl 3 rfl) ?_
          refine lv_iconst (v := 1) hx hb dX11_fetch_52 (by decide) ?_
          refine lv_isub hx hb dX11_fetch_53 ?_
          obtain ⟨v17, e18, h⟩ := ob_ h
          refine th_iald C T e18 dX11_fetch_54 ?_
          obtain ⟨rfl, rfl⟩ := os2 h
          exact th_iret hQ C hr hk T (Nat.le_of_ble_eq_true rfl) (Nat.le_of_ble_eq_true rfl) dX11_fetch_55
        · replace h := of_ c14 h
          refine lv_iconst (v := -1) hx hb dX11_fetch_43 (by decide) ?_
          refine lv_goto (tgt := 55) hx hb dX11_fetch_44 (by decide) ?_
          obtain ⟨rfl, rfl⟩ := os2 h
          exact th_iret hQ C hr hk T (Nat.le_of_ble_eq_true rfl) (Nat.le_of_ble_eq_true rfl) dX11_fetch_55
      · replace h := ot_ c11 h
        refine lv_iload_n hx hb dX11_fetch_31 rfl (lv_at hl 0 rfl) ?_
        refine lv_goto (tgt := 55) hx hb dX11_fetch_32 (by decide) ?_
        obtain ⟨rfl, rfl⟩ := os2 h
        exact th_iret hQ C hr hk T (Nat.le_of_ble_eq_true rfl) (Nat.le_of_ble_eq_true rfl) dX11_fetch_55
    · replace h := ot_ c7 h
      refine lv_bipush (v := -2) hx hb dX11_fetch_18 (by decide) ?_
      obtain ⟨rfl, rfl⟩ := os2 h
      exact th_iret hQ C hr hk T (Nat.le_of_ble_eq_true rfl) (Nat.le_of_ble_eq_true rfl) dX11_fetch_20
