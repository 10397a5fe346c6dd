set_option maxRecDepth 100000 in
set_option maxHeartbeats 4000000 in
theorem c_X2_init {l : Launch} {G : th_G} {σ : th_S} {μ : th_M} {t : Nat} {x1 : Int32} {x2 : Int32}  {σ' : th_S} {μ' : th_M} (h : f_X2_init σ μ t x1 x2 = some (σ', μ')) : th_Met l G yX2_init cX2_init 3 none { frames := 3, cells := 2, slots := 12, locals := 124 } [.ref t, .int x1, .int x2] σ μ none σ' μ' := by
  refine th_ofW (by decide +kernel) (Nat.le_of_ble_eq_true rfl) ?_
  intro p e s m args below meth c ls Q hQ C hr hk hnm T hl
  have hx := C.1
  have hb := C.2.1
  have C : CallFix p m c cX2_init 3 s args th_ws RX2 := C
  have hl : lv_has ls 3 [(0, .ref t), (1, .int x1), (2, .int x2)] := hl
  unfold f_X2_init at h
  refine lv_aload_n hx hb dX2_init_0 rfl (lv_at hl 0 rfl) ?_
  refine lv_iload_n hx hb dX2_init_1 rfl (lv_at hl 1 rfl) ?_
  refine lv_iload_n hx hb dX2_init_2 rfl (lv_at hl 2 rfl) ?_
  obtain ⟨σ1, μ2, e3, h⟩ := ob2 h
  refine th_callI (As := [.int x1, .int x2]) (rest := []) C T (c_X7_init e3) k_RX2_3 rfl hl.1 rfl (st1 := []) rfl (cells1 := 2) rfl (slots1 := 12) rfl (Nat.le_of_ble_eq_true rfl) ⟨Nat.le_of_ble_eq_true rfl, Nat.le_of_ble_eq_true rfl⟩ ⟨Nat.le_of_ble_eq_true rfl, Nat.le_of_ble_eq_true rfl⟩ dX2_init_3 (fun H locs T => ?_)
  obtain ⟨rfl, rfl⟩ := os2 h
  exact th_vret hQ C hr hk T (Nat.le_of_ble_eq_true rfl) (Nat.le_of_ble_eq_true rfl) dX2_init_6
set_option maxRecDepth 100000 in
set_option maxHeartbeats 4000000 in
theorem c_X2_kind {l : Launch} {G : th_G} {σ : th_S} {μ : th_M} {t : Nat} {r : Int32} (h : f_X2_kind σ μ t = some r) : th_Met l G yX2_kind cX2_kind 1 (some FieldType.int) { frames := 0, cells := 0, slots := 0, locals := 0 } [.ref t] σ μ (some (.int r)) σ μ := by
  refine th_ofW (by decide +kernel) (Nat.le_of_ble_eq_true rfl) ?_
  intro p e s m args below meth c ls Q hQ C hr hk hnm T hl
  have hx := C.1
  have hb := C.2.1
  have C : CallFix p m c cX2_kind 1 s args th_ws RX2 := C
  have hl : lv_has ls 1 [(0, .ref t)] := hl
  unfold f_X2_kind at h
  refine lv_iconst (v := 3) hx hb dX2_kind_0 (by decide) ?_
  obtain rfl := os1 h
  exact th_iret hQ C hr hk T (Nat.le_of_ble_eq_true rfl) (Nat.le_of_ble_eq_true rfl) dX2_kind_1
set_option maxRecDepth 100000 in
set_option maxHeartbeats 4000000 in
theorem c_X3_init {l : Launch} {G : th_G} {σ : th_S} {μ : th_M} {t : Nat} {x1 : Int32} {x2 : Int32}  {σ' : th_S} {μ' : th_M} (h : f_X3_init σ μ t x1 x2 = some (σ', μ')) : th_Met l G yX3_init cX3_init 3 none { frames := 2, cells := 2, slots := 12, locals := 102 } [.ref t, .int x1, .int x2] σ μ none σ' μ' := by
  refine th_ofW (by decide +kernel) (Nat.le_of_ble_eq_true rfl) ?_
  intro p e s m args below meth c ls Q hQ C hr hk hnm T hl
  have hx := C.1
  have hb := C.2.1
  have C : CallFix p m c cX3_init 3 s args th_ws RX3 := C
  have hl : lv_has ls 3 [(0, .ref t), (1, .int x1), (2, .int x2)] := hl
  unfold f_X3_init at h
  refine lv_aload_n hx hb dX3_init_0 rfl (lv_at hl 0 rfl) ?_
  refine lv_iload_n hx hb dX3_init_1 rfl (lv_at hl 1 rfl) ?_
  refine lv_iload_n hx hb dX3_init_2 rfl (lv_at hl 2 rfl) ?_
  obtain ⟨σ1, μ2, e3, h⟩ := ob2 h
  refine th_callI (As := [.int x1, .int x2]) (rest := []) C T (c_X0_init e3) k_RX3_3 rfl hl.1 rfl (st1 := []) rfl (cells1 := 2) rfl (slots1 := 12) rfl (Nat.le_of_ble_eq_true rfl) ⟨Nat.le_of_ble_eq_true rfl, Nat.le_of_ble_eq_true rfl⟩ ⟨Nat.le_of_ble_eq_true rfl, Nat.le_of_ble_eq_true rfl⟩ dX3_init_3 (fun H locs T => ?_)
  obtain ⟨rfl, rfl⟩ := os2 h
  exact th_vret hQ C hr hk T (Nat.le_of_ble_eq_true rfl) (Nat.le_of_ble_eq_true rfl) dX3_init_6
set_option maxRecDepth 100000 in
set_option maxHeartbeats 4000000 in
theorem c_X3_kind {l : Launch} {G : th_G} {σ : th_S} {μ : th_M} {t : Nat} {r : Int32} (h : f_X3_kind σ μ t = some r) : th_Met l G yX3_kind cX3_kind 1 (some FieldType.int) { frames := 0, cells := 0, slots := 0, locals := 0 } [.ref t] σ μ (some (.int r)) σ μ := by
  refine th_ofW (by decide +kernel) (Nat.le_of_ble_eq_true rfl) ?_
  intro p e s m args below meth c ls Q hQ C hr hk hnm T hl
  have hx := C.1
  have hb := C.2.1
  have C : CallFix p m c cX3_kind 1 s args th_ws RX3 := C
  have hl : lv_has ls 1 [(0, .ref t)] := hl
  unfold f_X3_kind at h
  refine lv_iconst (v := 5) hx hb dX3_kind_0 (by decide) ?_
  obtain rfl := os1 h
  exact th_iret hQ C hr hk T (Nat.le_of_ble_eq_true rfl) (Nat.le_of_ble_eq_true rfl) dX3_kind_1
set_option maxRecDepth 100000 in
set_option maxHeartbeats 4000000 in
theorem c_X4_kind {l : Launch} {G : th_G} {σ : th_S} {μ : th_M} {t : Nat} {r : Int32} (h : f_X4_kind σ μ t = some r) : th_Met l G yX4_kind cX4_kind 1 (some FieldType.int) { frames := 0, cells := 0, slots := 0, locals := 0 } [.ref t] σ μ (some (.int r)) σ μ := by
  refine th_ofW (by decide +kernel) (Nat.le_of_ble_eq_true rfl) ?_
  intro p e s m args below meth c ls Q hQ C hr hk hnm T hl
  have hx := C.1
  have hb := C.2.1
  have C : CallFix p m c cX4_kind 1 s args th_ws RX4 := C
  have hl : lv_has ls 1 [(0, .ref t)] := hl
  unfold f_X4_kind at h
  refine lv_iconst (v := 2) hx hb dX4_kind_0 (by decide) ?_
  obtain rfl := os1 h
  exact th_iret hQ C hr hk T (Nat.le_of_ble_eq_true rfl) (Nat.le_of_ble_eq_true rfl) dX4_kind_1
set_option maxRecDepth 100000 in
set_option maxHeartbeats 4000000 in
theorem c_X5_init {l : Launch} {G : th_G} {σ : th_S} {μ : th_M} {t : Nat} {x1 : Nat} {x2 : Nat}  {σ' : th_S} {μ' : th_M} (h : f_X5_init σ μ t x1 x2 = some (σ', μ')) : th_Met l G yX5_init cX5_init 3 none { frames := 1, cells := 1, slots := 31, locals := 80 } [.ref t, .ref x1, .ref x2] σ μ none σ' μ' := by
  refine th_ofW (by decide +kernel) (Nat.le_of_ble_eq_true rfl) ?_
  intro p e s m args below meth c ls Q hQ C hr hk hnm T hl
  have hx := C.1
  have hb := C.2.1
  have C : CallFix p m c cX5_init 3 s args th_ws RX5 := C
  have hl : lv_has ls 3 [(0, .ref t), (1, .ref x1), (2, .ref x2)] := hl
  unfold f_X5_init at h
  refine lv_aload_n hx hb dX5_init_0 rfl (lv_at hl 0 rfl) ?_
  refine W.objInit hx hb C.2.2.2.1 (C.2.2.2.2 _ w_279) (C.2.2.2.2 _ w_27) (C.2.2.2.2 _ w_28) rfl (by rw [C.2.2.1]; exact hl.1) rfl dX5_init_1 (Nat.le_of_ble_eq_true rfl) (Nat.le_of_ble_eq_true rfl) ?_
  refine W.eq (g2 := F0 m 4 ls []) rfl ?_
  refine lv_aload_n hx hb dX5_init_4 rfl (lv_at hl 0 rfl) ?_
  refine lv_bipush (v := 31) hx hb dX5_init_5 (by decide) ?_
  obtain ⟨a1, σ2, μ3, e4, h⟩ := ob3 h
  refine th_newa C T 31 e4 (by decide) (by decide) (by decide) w_66 (Nat.le_of_ble_eq_true rfl) (Nat.le_of_ble_eq_true rfl) dX5_init_7 (fun H T => ?_)
  refine W.eqc (c1 := 1) (s1 := 31) rfl rfl ?_
  obtain ⟨σ5, e6, h⟩ := ob_ h
  refine p_RX5_9 C T e6 hnm dX5_init_9 (fun H locs T => ?_)
  refine lv_aload_n hx hb dX5_init_12 rfl (lv_at hl 0 rfl) ?_
  refine lv_aload_n hx hb dX5_init_13 rfl (lv_at hl 1 rfl) ?_
  obtain ⟨σ7, e8, h⟩ := ob_ h
  refine p_RX5_15 C T e8 hnm dX5_init_14 (fun H locs T => ?_)
  refine lv_aload_n hx hb dX5_init_17 rfl (lv_at hl 0 rfl) ?_
  refine lv_aload_n hx hb dX5_init_18 rfl (lv_at hl 2 rfl) ?_
  obtain ⟨σ9, e10, h⟩ := ob_ h
  refine p_RX5_18 C T e10 hnm dX5_init_19 (fun H locs T => ?_)
  obtain ⟨rfl, rfl⟩ := os2 h
  exact th_vret hQ C hr hk T (Nat.le_of_ble_eq_true rfl) (Nat.le_of_ble_eq_true rfl) dX5_init_22
set_option maxRecDepth 100000 in
set_option maxHeartbeats 4000000 in
theorem c_X5_push {l : Launch} {G : th_G} {σ : th_S} {μ : th_M} {t : Nat} {x1 : Int32}  {μ' : th_M} (h : f_X5_push σ μ t x1 = some μ') : th_Met l G yX5_push cX5_push 2 none { frames := 0, cells := 0, slots := 0, locals := 0 } [.ref t, .int x1] σ μ none σ μ' := by
  refine th_ofW (by decide +kernel) (Nat.le_of_ble_eq_true rfl) ?_
  intro p e s m args below meth c ls Q hQ C hr hk hnm T hl
  have hx := C.1
  have hb := C.2.1
  have C : CallFix p m c cX5_push 2 s args th_ws RX5 := C
  have hl : lv_has ls 2 [(0, .ref t), (1, .int x1)] := hl
  unfold f_X5_push at h
  refine lv_aload_n hx hb dX5_push_0 rfl (lv_at hl 0 rfl) ?_
  obtain ⟨v1, e2, h⟩ := ob_ h
  refine g_RX5_21 C T e2 dX5_push_1 ?_
  refine lv_aload_n hx hb dX5_push_4 rfl (lv_at hl 0 rfl) ?_
  obtain ⟨a3, e4, h⟩ := ob_ h
  refine g_RX5_9 C T e4 dX5_push_5 ?_
  obtain ⟨v5, e6, h⟩ := ob_ h
  refine th_alen C T e6 dX5_push_8 ?_
  refine lv_icmp_ge (tgt := 32) hx hb dX5_push_9 (by decide) (fun c7 => ?_) (fun c7 => ?_)
  · replace h := ot_ c7 h
    obtain rfl := os1 h
    exact th_vret hQ C hr hk T (Nat.le_of_ble_eq_true rfl) (Nat.le_of_ble_eq_true rfl) dX5_push_32
  · replace h := of_ c7 h
    refine lv_aload_n hx hb dX5_push_12 rfl (lv_at hl 0 rfl) ?_
    obtain ⟨a8, e9, h⟩ := ob_ h
    refine g_RX5_9 C T e9 dX5_push_13 ?_
    refine lv_aload_n hx hb dX5_push_16 rfl (lv_at hl 0 rfl) ?_
    obtain ⟨v10, e11, h⟩ := ob_ h
    refine g_RX5_21 C T e11 dX5_push_17 ?_
    refine lv_iload_n hx hb dX5_push_20 rfl (lv_at hl 1 rfl) ?_
    obtain ⟨μ12, e13, h⟩ := ob_ h
    refine th_iast C T e13 dX5_push_21 (fun H locs T => ?_)
    refine lv_aload_n hx hb dX5_push_22 rfl (lv_at hl 0 rfl) ?_
    refine lv_dup hx hb dX5_push_23 rfl ?_
    obtain ⟨v14, e15, h⟩ := ob_ h
    refine g_RX5_21 C T e15 dX5_push_24 ?_
    refine lv_iconst (v := 1) hx hb dX5_push_27 (by decide) ?_
    refine lv_iadd hx hb dX5_push_28 ?_
    obtain ⟨μ16, e17, h⟩ := ob_ h
    refine p_RX5_21 C T e17 dX5_push_29 (fun H locs T => ?_)
    obtain rfl := os1 h
    exact th_vret hQ C hr hk T (Nat.le_of_ble_eq_true rfl) (Nat.le_of_ble_eq_true rfl) dX5_push_32
set_option maxRecDepth 100000 in
set_option maxHeartbeats 4000000 in
theorem c_X5_pop {l : Launch} {G : th_G} {σ : th_S} {μ : th_M} {t : Nat} {r : Int32} {μ' : th_M} (h : f_X5_pop σ μ t = some (r, μ')) : th_Met l G yX5_pop cX5_pop 1 (some FieldType.int) { frames := 0, cells := 0, slots := 0, locals := 0 } [.ref t] σ μ (some (.int r)) σ μ' := by
  refine th_ofW (by decide +kernel) (Nat.le_of_ble_eq_true rfl) ?_
  intro p e s m args below meth c ls Q hQ C hr hk hnm T hl
  have hx := C.1
  have hb := C.2.1
  have C : CallFix p m c cX5_pop 1 s args th_ws RX5 := C
  have hl : lv_has ls 1 [(0, .ref t)] := hl
  unfold f_X5_pop at h
  refine lv_aload_n hx hb dX5_pop_0 rfl (lv_at hl 0 rfl) ?_
  obtain ⟨v1, e2, h⟩ := ob_ h
  refine g_RX5_21 C T e2 dX5_pop_1 ?_
  refine lv_if_gt (tgt := 9) hx hb dX5_pop_4 (by decide) (fun c3 => ?_) (fun c3 => ?_)
  · replace h := ot_ c3 h
    refine lv_aload_n hx hb dX5_pop_9 rfl (lv_at hl 0 rfl) ?_
    refine lv_dup hx hb dX5_pop_10 rfl ?_
    obtain ⟨v4, e5, h⟩ := ob_ h
    refine g_RX5_21 C T e5 dX5_pop_11 ?_
    refine lv_iconst (v := 1) hx hb dX5_pop_14 (by decide) ?_
    refine lv_isub hx hb dX5_pop_15 ?_
    obtain ⟨μ6, e7, h⟩ := ob_ h
    refine p_RX5_21 C T e7 dX5_pop_16 (fun H locs T => ?_)
    refine lv_aload_n hx hb dX5_pop_19 rfl (lv_at hl 0 rfl) ?_
    obtain ⟨a8, e9, h⟩ := ob_ h
    refine g_RX5_9 C T e9 dX5_pop_20 ?_
    refine lv_aload_n hx hb dX5_pop_23 rfl (lv_at hl 0 rfl) ?_
    obtain ⟨v10, e11, h⟩ := ob_ h
    refine g_RX5_21 C T e11 dX5_pop_24 ?_
    obtain ⟨v12, e13, h⟩ := ob_ h
    refine th_iald C T e13 dX5_pop_27 ?_
    obtain ⟨rfl, rfl⟩ := os2 h
    exact th_iret hQ C hr hk T (Nat.le_of_ble_eq_true rfl) (Nat.le_of_ble_eq_true rfl) dX5_pop_28
  · replace h := of_ c3 h
    refine lv_iconst (v := 0) hx hb dX5_pop_7 (by decide) ?_
    obtain ⟨rfl, rfl⟩ := os2 h
    exact th_iret hQ C hr hk T (Nat.le_of_ble_eq_true rfl) (Nat.le_of_ble_eq_true rfl) dX5_pop_8
set_option maxRecDepth 100000 in
set_option maxHeartbeats 4000000 in
theorem c_X5_joined {l : Launch} {G : th_G} {σ : th_S} {μ : th_M} {x0 : Int32} {x1 : Int32} {x2 : Int32} {r : Int32} (h : f_X5_joined x0 x1 x2 = some r) : th_Met l G yX5_joined cX5_joined 3 (some FieldType.int) { frames := 0, cells := 0, slots := 0, locals := 0 } [.int x0, .int x1, .int x2] σ μ (some (.int r)) σ μ := by
  refine th_ofW (by decide +kernel) (Nat.le_of_ble_eq_true rfl) ?_
  intro p e s m args below meth c ls Q hQ C hr hk hnm T hl
  have hx := C.1
  have hb := C.2.1
  have C : CallFix p m c cX5_joined 3 s args th_ws RX5 := C
  have hl : lv_has ls 3 [(0, .int x0), (1, .int x1), (2, .int x2)] := hl
  unfold f_X5_joined at h
  refine lv_iload_n hx hb dX5_joined_0 rfl (lv_at hl 0 rfl) ?_
  by_cases c1 : x0 = 9
  · replace h := ot_ c1 h
    refine th_look (off := 59) (tgt := 60) C 9 c1 dX5_joined_1 (by decide) (by decide) (by decide) ?_
    refine lv_iload_n hx hb dX5_joined_60 rfl (lv_at hl 1 rfl) ?_
    refine lv_if_ne (tgt := 68) hx hb dX5_joined_61 (by decide) (fun c2 => ?_) (fun c2 => ?_)
    · replace h := of_ c2 h
      refine lv_iconst (v := 1) hx hb dX5_joined_68 (by decide) ?_
      refine lv_goto (tgt := 73) hx hb dX5_joined_69 (by decide) ?_
      obtain rfl := os1 h
      exact th_iret hQ C hr hk T (Nat.le_of_ble_eq_true rfl) (Nat.le_of_ble_eq_true rfl) dX5_joined_73
    · replace h := ot_ c2 h
      refine lv_iload_n hx hb dX5_joined_64 rfl (lv_at hl 2 rfl) ?_
      refine lv_if_eq (tgt := 72) hx hb dX5_joined_65 (by decide) (fun c3 => ?_) (fun c3 => ?_)
      · replace h := ot_ c3 h
        refine lv_iconst (v := 0) hx hb dX5_joined_72 (by decide) ?_
        obtain rfl := os1 h
        exact th_iret hQ C hr hk T (Nat.le_of_ble_eq_true rfl) (Nat.le_of_ble_eq_true rfl) dX5_joined_73
      · replace h := of_ c3 h
        refine lv_iconst (v := 1) hx hb dX5_joined_68 (by decide) ?_
        refine lv_goto (tgt := 73) hx hb dX5_joined_69 (by decide) ?_
        obtain rfl := os1 h
        exact th_iret hQ C hr hk T (Nat.le_of_ble_eq_true rfl) (Nat.le_of_ble_eq_true rfl) dX5_joined_73
  replace h := of_ c1 h
  by_cases c4 : x0 = 10
  · replace h := ot_ c4 h
    refine th_look (off := 73) (tgt := 74) C 10 c4 dX5_joined_1 (by decide) (by decide) (by decide) ?_
    refine lv_iload_n hx hb dX5_joined_74 rfl (lv_at hl 1 rfl) ?_
    refine lv_if_eq (tgt := 86) hx hb dX5_joined_75 (by decide) (fun c5 => ?_) (fun c5 => ?_)
    · replace h := ot_ c5 h
      refine lv_iconst (v := 0) hx hb dX5_joined_86 (by decide) ?_
      obtain rfl := os1 h
      exact th_iret hQ C hr hk T (Nat.le_of_ble_eq_true rfl) (Nat.le_of_ble_eq_true rfl) dX5_joined_87
    · replace h := of_ c5 h
      refine lv_iload_n hx hb dX5_joined_78 rfl (lv_at hl 2 rfl) ?_
      refine lv_if_eq (tgt := 86) hx hb dX5_joined_79 (by decide) (fun c6 => ?_) (fun c6 => ?_)
      · replace h := ot_ c6 h
        refine lv_iconst (v := 0) hx hb dX5_joined_86 (by decide) ?_
        obtain rfl := os1 h
        exact th_iret hQ C hr hk T (Nat.le_of_ble_eq_true rfl) (Nat.le_of_ble_eq_true rfl) dX5_joined_87
      · replace h := of_ c6 h
        refine lv_iconst (v := 1) hx hb dX5_joined_82 (by decide) ?_
        refine lv_goto (tgt := 87) hx hb dX5_joined_83 (by decide) ?_
        obtain rfl := os1 h
        exact th_iret hQ C hr hk T (Nat.le_of_ble_eq_true rfl) (Nat.le_of_ble_eq_true rfl) dX5_joined_87
  replace h := of_ c4 h
  by_cases c7 : x0 = 43
  · replace h := ot_ c7 h
    refine th_look (off := 109) (tgt := 110) C 43 c7 dX5_joined_1 (by decide) (by decide) (by decide) ?_
    refine lv_iload_n hx hb dX5_joined_110 rfl (lv_at hl 1 rfl) ?_
    refine lv_iload_n hx hb dX5_joined_111 rfl (lv_at hl 2 rfl) ?_
    refine lv_iadd hx hb dX5_joined_112 ?_
    obtain rfl := os1 h
    exact th_iret hQ C hr hk T (Nat.le_of_ble_eq_true rfl) (Nat.le_of_ble_eq_true rfl) dX5_joined_113
  replace h := of_ c7 h
  by_cases c8 : x0 = 45
  · replace h := ot_ c8 h
    refine th_look (off := 113) (tgt := 114) C 45 c8 dX5_joined_1 (by decide) (by decide) (by decide) ?_
    refine lv_iload_n hx hb dX5_joined_114 rfl (lv_at hl 1 rfl) ?_
    refine lv_iload_n hx hb dX5_joined_115 rfl (lv_at hl 2 rfl) ?_
    refine lv_isub hx hb dX5_joined_116 ?_
    obtain rfl := os1 h
    exact th_iret hQ C hr hk T (Nat.le_of_ble_eq_true rfl) (Nat.le_of_ble_eq_true rfl) dX5_joined_117
  replace h := of_ c8 h
  by_cases c9 : x0 = 60
  · replace h := ot_ c9 h
    refine th_look (off := 87) (tgt := 88) C 60 c9 dX5_joined_1 (by decide) (by decide) (by decide) ?_
    refine lv_iload_n hx hb dX5_joined_88 rfl (lv_at hl 1 rfl) ?_
    refine lv_iload_n hx hb dX5_joined_89 rfl (lv_at hl 2 rfl) ?_
    refine lv_icmp_ge (tgt := 97) hx hb dX5_joined_90 (by decide) (fun c10 => ?_) (fun c10 => ?_)
    · replace h := ot_ c10 h
      refine lv_iconst (v := 0) hx hb dX5_joined_97 (by decide) ?_
      obtain rfl := os1 h
      exact th_iret hQ C hr hk T (Nat.le_of_ble_eq_true rfl) (Nat.le_of_ble_eq_true rfl) dX5_joined_98
    · replace h := of_ c10 h
      refine lv_iconst (v := 1) hx hb dX5_joined_93 (by decide) ?_
      refine lv_goto (tgt := 98) hx hb dX5_joined_94 (by decide) ?_
      obtain rfl := os1 h
      exact th_iret hQ C hr hk T (Nat.le_of_ble_eq_true rfl) (Nat.le_of_ble_eq_true rfl) dX5_joined_98
  replace h := of_ c9 h
  by_cases c11 : x0 = 61
  · replace h := ot_ c11 h
    refine th_look (off := 98) (tgt := 99) C 61 c11 dX5_joined_1 (by decide) (by decide) (by decide) ?_
    refine lv_iload_n hx hb dX5_joined_99 rfl (lv_at hl 1 rfl) ?_
    refine lv_iload_n hx hb dX5_joined_100 rfl (lv_at hl 2 rfl) ?_
    refine lv_icmp_ne (tgt := 108) hx hb dX5_joined_101 (by decide) (fun c12 => ?_) (fun c12 => ?_)
    · replace h := of_ c12 h
      refine lv_iconst (v := 0) hx hb dX5_joined_108 (by decide) ?_
      obtain rfl := os1 h
      exact th_iret hQ C hr hk T (Nat.le_of_ble_eq_true rfl) (Nat.le_of_ble_eq_true rfl) dX5_joined_109
    · replace h := ot_ c12 h
      refine lv_iconst (v := 1) hx hb dX5_joined_104 (by decide) ?_
      refine lv_goto (tgt := 109) hx hb dX5_joined_105 (by decide) ?_
      obtain rfl := os1 h
      exact th_iret hQ C hr hk T (Nat.le_of_ble_eq_true rfl) (Nat.le_of_ble_eq_true rfl) dX5_joined_109
  replace h := of_ c11 h
  have n13 := th_ne (n := 9) c1 (by decide)
  have n14 := th_ne (n := 10) c4 (by decide)
  have n15 := th_ne (n := 43) c7 (by decide)
  have n16 := th_ne (n := 45) c8 (by decide)
  have n17 := th_ne (n := 60) c9 (by decide)
  have n18 := th_ne (n := 61) c11 (by decide)
  refine lv_lookup (off := 117) (tgt := 118) hx hb dX5_joined_1 (by decide) (by simp [Op.lookupswitch.offset, n13, n14, n15, n16, n17, n18, n13.symm, n14.symm, n15.symm, n16.symm, n17.symm, n18.symm]) (by decide) ?_
  refine lv_iload_n hx hb dX5_joined_118 rfl (lv_at hl 1 rfl) ?_
  refine lv_iload_n hx hb dX5_joined_119 rfl (lv_at hl 2 rfl) ?_
  refine lv_imul hx hb dX5_joined_120 ?_
  obtain rfl := os1 h
  exact th_iret hQ C hr hk T (Nat.le_of_ble_eq_true rfl) (Nat.le_of_ble_eq_true rfl) dX5_joined_121
set_option maxRecDepth 100000 in
set_option maxHeartbeats 4000000 in
theorem c_X5_value {l : Launch} {G : th_G} {σ : th_S} {μ : th_M} {t : Nat} {x1 : Int32} {x2 : Nat} {r : Int32} {μ' : th_M} (h : f_X5_value σ μ t x1 x2 = some (r, μ')) : th_Met l G yX5_value cX5_value 6 (some FieldType.int) { frames := 1, cells := 0, slots := 0, locals := 22 } [.ref t, .int x1, .ref x2] σ μ (some (.int r)) σ μ' := by
  refine th_ofW (by decide +kernel) (Nat.le_of_ble_eq_true rfl) ?_
  intro p e s m args below meth c ls Q hQ C hr hk hnm T hl
  have hx := C.1
  have hb := C.2.1
  have C : CallFix p m c cX5_value 6 s args th_ws RX5 := C
  have hl : lv_has ls 6 [(0, .ref t), (1, .int x1), (2, .ref x2)] := hl
  have J22 : ∀ (n : Nat) (μ : th_M) (t : Nat) (x1 : Int32) (x2 : Nat) (x3 : Int32) (H : Heap) (locs : List Loc) (ls : Array Slot), th_R G s H locs σ μ → lv_has ls 6 [(0, .ref t), (1, .int x1), (2, .ref x2), (3, .int x3)] → f_X5_value_b22  n σ μ t x1 x2 x3 = some (r, μ') → W p l e { frames := 1, cells := 0, slots := 0, locals := 22 } s m args below meth c H locs 0 0 Q (F0 m 22 ls []) := by
    intro n
    induction n with
    | zero => intro μ t x1 x2 x3 H locs ls T hl h; unfold f_X5_value_b22 at h; cases h
    | succ n22 ih22 =>
      intro μ t x1 x2 x3 H locs ls T hl h
      unfold f_X5_value_b22 at h
      refine lv_iload_n hx hb dX5_value_22 rfl (lv_at hl 3 rfl) ?_
      refine lv_aload_n hx hb dX5_value_23 rfl (lv_at hl 0 rfl) ?_
      obtain ⟨a1, e2, h⟩ := ob_ h
      refine g_RX5_18 C T e2 dX5_value_24 ?_
      refine lv_iload_n hx hb dX5_value_27 rfl (lv_at hl 1 rfl) ?_
      obtain ⟨v3, e4, h⟩ := ob_ h
      refine th_iald C T e4 dX5_value_28 ?_
      refine lv_icmp_ge (tgt := 150) hx hb dX5_value_29 (by decide) (fun c5 => ?_) (fun c5 => ?_)
      · replace h := ot_ c5 h
        refine lv_aload_n hx hb dX5_value_150 rfl (lv_at hl 0 rfl) ?_
        obtain ⟨k6, h⟩ := oc_ h
        obtain ⟨v7, μ8, e9, h⟩ := ob2 h
        refine th_callV (As := []) (rest := []) C T (c_X5_pop e9) k_RX5_31 5 rfl rfl (by decide) k6 rfl hl.1 rfl (st1 := [.int v7]) rfl (cells1 := 0) rfl (slots1 := 0) rfl (Nat.le_of_ble_eq_true rfl) ⟨Nat.le_of_ble_eq_true rfl, Nat.le_of_ble_eq_true rfl⟩ ⟨Nat.le_of_ble_eq_true rfl, Nat.le_of_ble_eq_true rfl⟩ dX5_value_151 (fun H locs T => ?_)
        obtain ⟨rfl, rfl⟩ := os2 h
        exact th_iret hQ C hr hk T (Nat.le_of_ble_eq_true rfl) (Nat.le_of_ble_eq_true rfl) dX5_value_154
      · replace h := of_ c5 h
        refine lv_iconst (v := -1) hx hb dX5_value_32 (by decide) ?_
        refine lv_aload_n hx hb dX5_value_33 rfl (lv_at hl 0 rfl) ?_
        obtain ⟨a10, e11, h⟩ := ob_ h
        refine g_RX5_15 C T e11 dX5_value_34 ?_
        refine lv_iload_n hx hb dX5_value_37 rfl (lv_at hl 3 rfl) ?_
        obtain ⟨v12, e13, h⟩ := ob_ h
        refine th_iald C T e13 dX5_value_38 ?_
        refine lv_isub hx hb dX5_value_39 ?_
        refine lv_istore (lv' := [(4, .int ((-1) - v12)), (0, .ref t), (1, .int x1), (2, .ref x2), (3, .int x3)]) hx hb dX5_value_40 hl (by decide) rfl (fun ls hl => ?_)
        refine lv_iload hx hb dX5_value_42 (lv_at hl 0 rfl) ?_
        refine lv_if_ge (tgt := 60) hx hb dX5_value_44 (by decide) (fun c14 => ?_) (fun c14 => ?_)
        · replace h := ot_ c14 h
          refine lv_iload hx hb dX5_value_60 (lv_at hl 0 rfl) ?_
          refine lv_bipush (v := 6) hx hb dX5_value_62 (by decide) ?_
          refine lv_icmp_ge (tgt := 78) hx hb dX5_value_64 (by decide) (fun c15 => ?_) (fun c15 => ?_)
          · replace h := ot_ c15 h
            refine lv_iload hx hb dX5_value_78 (lv_at hl 0 rfl) ?_
            refine lv_bipush (v := 13) hx hb dX5_value_80 (by decide) ?_
            refine lv_icmp_ne (tgt := 97) hx hb dX5_value_82 (by decide) (fun c16 => ?_) (fun c16 => ?_)
            · replace h := of_ c16 h
              refine lv_iload hx hb dX5_value_97 (lv_at hl 0 rfl) ?_
              refine lv_bipush (v := 11) hx hb dX5_value_99 (by decide) ?_
              refine lv_icmp_ne (tgt := 123) hx hb dX5_value_101 (by decide) (fun c17 => ?_) (fun c17 => ?_)
              · replace h := of_ c17 h
                refine lv_aload_n hx hb dX5_value_123 rfl (lv_at hl 1 rfl) ?_
                obtain ⟨k18, h⟩ := oc_ h
                obtain ⟨v19, μ20, e21, h⟩ := ob2 h
                refine th_callV (As := []) (rest := []) C T (c_X5_pop e21) k_RX5_31 5 rfl rfl (by decide) k18 rfl hl.1 rfl (st1 := [.int v19]) rfl (cells1 := 0) rfl (slots1 := 0) rfl (Nat.le_of_ble_eq_true rfl) ⟨Nat.le_of_ble_eq_true rfl, Nat.le_of_ble_eq_true rfl⟩ ⟨Nat.le_of_ble_eq_true rfl, Nat.le_of_ble_eq_true rfl⟩ dX5_value_124 (fun H locs T => ?_)
                refine lv_istore (lv' := [(5, .int v19), (4, .int ((-1) - v12)), (0, .ref t), (1, .int x1), (2, .ref x2), (3, .int x3)]) hx hb dX5_value_127 hl (by decide) rfl (fun ls hl => ?_)
                refine lv_aload_n hx hb dX5_value_129 rfl (lv_at hl 2 rfl) ?_
                refine lv_iload hx hb dX5_value_130 (lv_at hl 1 rfl) ?_
                refine lv_aload_n hx hb dX5_value_132 rfl (lv_at hl 2 rfl) ?_
                obtain ⟨v22, μ23, e24, h⟩ := ob2 h
                refine th_callV (As := []) (rest := [.int ((-1) - v12), .ref t]) C T (c_X5_pop e24) k_RX5_31 5 rfl rfl (by decide) k18 rfl hl.1 rfl (st1 := [.int v22, .int ((-1) - v12), .ref t]) rfl (cells1 := 0) rfl (slots1 := 0) rfl (Nat.le_of_ble_eq_true rfl) ⟨Nat.le_of_ble_eq_true rfl, Nat.le_of_ble_eq_true rfl⟩ ⟨Nat.le_of_ble_eq_true rfl, Nat.le_of_ble_eq_true rfl⟩ dX5_value_133 (fun H locs T => ?_)
                refine lv_iload hx hb dX5_value_136 (lv_at hl 0 rfl) ?_
                obtain ⟨v25, e26, h⟩ := ob_ h
                refine th_callS (As := [.int ((-1) - v12), .int v22, .int v19]) (rest := [.ref t]) C T (c_X5_joined e26) k_RX5_35 rfl hl.1 rfl (st1 := [.int v25, .ref t]) rfl (cells1 := 0) rfl (slots1 := 0) rfl (Nat.le_of_ble_eq_true rfl) ⟨Nat.le_of_ble_eq_true rfl, Nat.le_of_ble_eq_true rfl⟩ ⟨Nat.le_of_ble_eq_true rfl, Nat.le_of_ble_eq_true rfl⟩ dX5_value_138 (fun H locs T => ?_)
                obtain ⟨μ27, e28, h⟩ := ob_ h
                refine th_callV (As := [.int v25]) (rest := []) C T (c_X5_push e28) k_RX5_25 5 rfl rfl (by decide) k18 rfl hl.1 rfl (st1 := []) rfl (cells1 := 0) rfl (slots1 := 0) rfl (Nat.le_of_ble_eq_true rfl) ⟨Nat.le_of_ble_eq_true rfl, Nat.le_of_ble_eq_true rfl⟩ ⟨Nat.le_of_ble_eq_true rfl, Nat.le_of_ble_eq_true rfl⟩ dX5_value_141 (fun H locs T => ?_)
                refine lv_iinc (v := x3 + 1) (lv' := [(3, .int (x3 + 1)), (5, .int v19), (4, .int ((-1) - v12)), (0, .ref t), (1, .int x1), (2, .ref x2)]) hx hb dX5_value_144 hl (k := 5) rfl rfl (by decide) rfl (fun ls hl => ?_)
                refine lv_goto (tgt := 22) hx hb dX5_value_147 (by decide) ?_
                exact ih22 _ _ _ _ _ _ _ _ T (lv_sub hl [3, 4, 5, 0] rfl) h
              · replace h := ot_ c17 h
                refine lv_aload_n hx hb dX5_value_104 rfl (lv_at hl 1 rfl) ?_
                refine lv_aload_n hx hb dX5_value_105 rfl (lv_at hl 1 rfl) ?_
                obtain ⟨k29, h⟩ := oc_ h
                obtain ⟨v30, μ31, e32, h⟩ := ob2 h
                refine th_callV (As := []) (rest := [.ref t]) C T (c_X5_pop e32) k_RX5_31 5 rfl rfl (by decide) k29 rfl hl.1 rfl (st1 := [.int v30, .ref t]) rfl (cells1 := 0) rfl (slots1 := 0) rfl (Nat.le_of_ble_eq_true rfl) ⟨Nat.le_of_ble_eq_true rfl, Nat.le_of_ble_eq_true rfl⟩ ⟨Nat.le_of_ble_eq_true rfl, Nat.le_of_ble_eq_true rfl⟩ dX5_value_106 (fun H locs T => ?_)
                refine lv_if_ne (tgt := 116) hx hb dX5_value_109 (by decide) (fun c33 => ?_) (fun c33 => ?_)
                · replace h := of_ c33 h
                  refine lv_iconst (v := 0) hx hb dX5_value_116 (by decide) ?_
                  obtain ⟨μ34, e35, h⟩ := ob_ h
                  refine th_callV (As := [.int 0]) (rest := []) C T (c_X5_push e35) k_RX5_25 5 rfl rfl (by decide) k29 rfl hl.1 rfl (st1 := []) rfl (cells1 := 0) rfl (slots1 := 0) rfl (Nat.le_of_ble_eq_true rfl) ⟨Nat.le_of_ble_eq_true rfl, Nat.le_of_ble_eq_true rfl⟩ ⟨Nat.le_of_ble_eq_true rfl, Nat.le_of_ble_eq_true rfl⟩ dX5_value_117 (fun H locs T => ?_)
                  refine lv_goto (tgt := 144) hx hb dX5_value_120 (by decide) ?_
                  refine lv_iinc (v := x3 + 1) (lv' := [(3, .int (x3 + 1)), (4, .int ((-1) - v12)), (0, .ref t), (1, .int x1), (2, .ref x2)]) hx hb dX5_value_144 hl (k := 4) rfl rfl (by decide) rfl (fun ls hl => ?_)
                  refine lv_goto (tgt := 22) hx hb dX5_value_147 (by decide) ?_
                  exact ih22 _ _ _ _ _ _ _ _ T (lv_sub hl [2, 3, 4, 0] rfl) h
                · replace h := ot_ c33 h
                  refine lv_iconst (v := 1) hx hb dX5_value_112 (by decide) ?_
                  refine lv_goto (tgt := 117) hx hb dX5_value_113 (by decide) ?_
                  obtain ⟨μ36, e37, h⟩ := ob_ h
                  refine th_callV (As := [.int 1]) (rest := []) C T (c_X5_push e37) k_RX5_25 5 rfl rfl (by decide) k29 rfl hl.1 rfl (st1 := []) rfl (cells1 := 0) rfl (slots1 := 0) rfl (Nat.le_of_ble_eq_true rfl) ⟨Nat.le_of_ble_eq_true rfl, Nat.le_of_ble_eq_true rfl⟩ ⟨Nat.le_of_ble_eq_true rfl, Nat.le_of_ble_eq_true rfl⟩ dX5_value_117 (fun H locs T => ?_)
                  refine lv_goto (tgt := 144) hx hb dX5_value_120 (by decide) ?_
                  refine lv_iinc (v := x3 + 1) (lv' := [(3, .int (x3 + 1)), (4, .int ((-1) - v12)), (0, .ref t), (1, .int x1), (2, .ref x2)]) hx hb dX5_value_144 hl (k := 4) rfl rfl (by decide) rfl (fun ls hl => ?_)
                  refine lv_goto (tgt := 22) hx hb dX5_value_147 (by decide) ?_
                  exact ih22 _ _ _ _ _ _ _ _ T (lv_sub hl [2, 3, 4, 0] rfl) h
            · replace h := ot_ c16 h
              refine lv_aload_n hx hb dX5_value_85 rfl (lv_at hl 1 rfl) ?_
              refine lv_aload_n hx hb dX5_value_86 rfl (lv_at hl 1 rfl) ?_
              obtain ⟨k38, h⟩ := oc_ h
              obtain ⟨v39, μ40, e41, h⟩ := ob2 h
              refine th_callV (As := []) (rest := [.ref t]) C T (c_X5_pop e41) k_RX5_31 5 rfl rfl (by decide) k38 rfl hl.1 rfl (st1 := [.int v39, .ref t]) rfl (cells1 := 0) rfl (slots1 := 0) rfl (Nat.le_of_ble_eq_true rfl) ⟨Nat.le_of_ble_eq_true rfl, Nat.le_of_ble_eq_true rfl⟩ ⟨Nat.le_of_ble_eq_true rfl, Nat.le_of_ble_eq_true rfl⟩ dX5_value_87 (fun H locs T => ?_)
              refine lv_ineg hx hb dX5_value_90 ?_
              obtain ⟨μ42, e43, h⟩ := ob_ h
              refine th_callV (As := [.int (-v39)]) (rest := []) C T (c_X5_push e43) k_RX5_25 5 rfl rfl (by decide) k38 rfl hl.1 rfl (st1 := []) rfl (cells1 := 0) rfl (slots1 := 0) rfl (Nat.le_of_ble_eq_true rfl) ⟨Nat.le_of_ble_eq_true rfl, Nat.le_of_ble_eq_true rfl⟩ ⟨Nat.le_of_ble_eq_true rfl, Nat.le_of_ble_eq_true rfl⟩ dX5_value_91 (fun H locs T => ?_)
              refine lv_goto (tgt := 144) hx hb dX5_value_94 (by decide) ?_
              refine lv_iinc (v := x3 + 1) (lv' := [(3, .int (x3 + 1)), (4, .int ((-1) - v12)), (0, .ref t), (1, .int x1), (2, .ref x2)]) hx hb dX5_value_144 hl (k := 4) rfl rfl (by decide) rfl (fun ls hl => ?_)
              refine lv_goto (tgt := 22) hx hb dX5_value_147 (by decide) ?_
              exact ih22 _ _ _ _ _ _ _ _ T (lv_sub hl [2, 3, 4, 0] rfl) h
          · replace h := of_ c15 h
            refine lv_aload_n hx hb dX5_value_67 rfl (lv_at hl 1 rfl) ?_
            refine lv_aload_n hx hb dX5_value_68 rfl (lv_at hl 3 rfl) ?_
            refine lv_iload hx hb dX5_value_69 (lv_at hl 0 rfl) ?_
            obtain ⟨v44, e45, h⟩ := ob_ h
            refine th_iald C T e45 dX5_value_71 ?_
            obtain ⟨k46, h⟩ := oc_ h
            obtain ⟨μ47, e48, h⟩ := ob_ h
            refine th_callV (As := [.int v44]) (rest := []) C T (c_X5_push e48) k_RX5_25 5 rfl rfl (by decide) k46 rfl hl.1 rfl (st1 := []) rfl (cells1 := 0) rfl (slots1 := 0) rfl (Nat.le_of_ble_eq_true rfl) ⟨Nat.le_of_ble_eq_true rfl, Nat.le_of_ble_eq_true rfl⟩ ⟨Nat.le_of_ble_eq_true rfl, Nat.le_of_ble_eq_true rfl⟩ dX5_value_72 (fun H locs T => ?_)
            refine lv_goto (tgt := 144) hx hb dX5_value_75 (by decide) ?_
            refine lv_iinc (v := x3 + 1) (lv' := [(3, .int (x3 + 1)), (4, .int ((-1) - v12)), (0, .ref t), (1, .int x1), (2, .ref x2)]) hx hb dX5_value_144 hl (k := 4) rfl rfl (by decide) rfl (fun ls hl => ?_)
            refine lv_goto (tgt := 22) hx hb dX5_value_147 (by decide) ?_
            exact ih22 _ _ _ _ _ _ _ _ T (lv_sub hl [2, 3, 4, 0] rfl) h
        · replace h := of_ c14 h
          refine lv_aload_n hx hb dX5_value_47 rfl (lv_at hl 1 rfl) ?_
          refine lv_aload_n hx hb dX5_value_48 rfl (lv_at hl 1 rfl) ?_
          obtain ⟨a49, e50, h⟩ := ob_ h
          refine g_RX5_15 C T e50 dX5_value_49 ?_
          refine lv_iload_n hx hb dX5_value_52 rfl (lv_at hl 4 rfl) ?_
          obtain ⟨v51, e52, h⟩ := ob_ h
          refine th_iald C T e52 dX5_value_53 ?_
          obtain ⟨k53, h⟩ := oc_ h
          obtain ⟨μ54, e55, h⟩ := ob_ h
          refine th_callV (As := [.int v51]) (rest := []) C T (c_X5_push e55) k_RX5_25 5 rfl rfl (by decide) k53 rfl hl.1 rfl (st1 := []) rfl (cells1 := 0) rfl (slots1 := 0) rfl (Nat.le_of_ble_eq_true rfl) ⟨Nat.le_of_ble_eq_true rfl, Nat.le_of_ble_eq_true rfl⟩ ⟨Nat.le_of_ble_eq_true rfl, Nat.le_of_ble_eq_true rfl⟩ dX5_value_54 (fun H locs T => ?_)
          refine lv_goto (tgt := 144) hx hb dX5_value_57 (by decide) ?_
          refine lv_iinc (v := x3 + 1) (lv' := [(3, .int (x3 + 1)), (4, .int ((-1) - v12)), (0, .ref t), (1, .int x1), (2, .ref x2)]) hx hb dX5_value_144 hl (k := 4) rfl rfl (by decide) rfl (fun ls hl => ?_)
          refine lv_goto (tgt := 22) hx hb dX5_value_147 (by decide) ?_
          exact ih22 _ _ _ _ _ _ _ _ T (lv_sub hl [2, 3, 4, 0] rfl) h
  unfold f_X5_value at h
  refine lv_aload_n hx hb dX5_value_0 rfl (lv_at hl 0 rfl) ?_
  refine lv_iconst (v := 0) hx hb dX5_value_1 (by decide) ?_
  obtain ⟨μ1, e2, h⟩ := ob_ h
  refine p_RX5_21 C T e2 dX5_value_2 (fun H locs T => ?_)
  refine lv_iload_n hx hb dX5_value_5 rfl (lv_at hl 1 rfl) ?_
  refine lv_if_ne (tgt := 13) hx hb dX5_value_6 (by decide) (fun c3 => ?_) (fun c3 => ?_)
  · replace h := of_ c3 h
    refine lv_aload_n hx hb dX5_value_13 rfl (lv_at hl 0 rfl) ?_
    obtain ⟨a4, e5, h⟩ := ob_ h
    refine g_RX5_18 C T e5 dX5_value_14 ?_
    refine lv_iload_n hx hb dX5_value_17 rfl (lv_at hl 1 rfl) ?_
    refine lv_iconst (v := 1) hx hb dX5_value_18 (by decide) ?_
    refine lv_isub hx hb dX5_value_19 ?_
    obtain ⟨v6, e7, h⟩ := ob_ h
    refine th_iald C T e7 dX5_value_20 ?_
    refine lv_istore_n (lv' := [(3, .int v6), (0, .ref t), (1, .int x1), (2, .ref x2)]) hx hb dX5_value_21 rfl hl (by decide) rfl (fun ls hl => ?_)
    exact J22 fu _ _ _ _ _ _ _ _ T (lv_sub hl [1, 2, 3, 0] rfl) h
  · replace h := ot_ c3 h
    refine lv_iconst (v := 0) hx hb dX5_value_9 (by decide) ?_
    refine lv_goto (tgt := 21) hx hb dX5_value_10 (by decide) ?_
    refine lv_istore_n (lv' := [(3, .int 0), (0, .ref t), (1, .int x1), (2, .ref x2)]) hx hb dX5_value_21 rfl hl (by decide) rfl (fun ls hl => ?_)
    exact J22 fu _ _ _ _ _ _ _ _ T (lv_sub hl [1, 2, 3, 0] rfl) h
set_option maxRecDepth 100000 in
set_option maxHeartbeats 4000000 in
theorem c_X6_init {l : Launch} {G : th_G} {σ : th_S} {μ : th_M} {t : Nat}  {σ' : th_S} {μ' : th_M} (h : f_X6_init σ μ t = some (σ', μ')) : th_Met l G yX6_init cX6_init 1 none { frames := 1, cells := 1, slots := 40, locals := 80 } [.ref t] σ μ none σ' μ' := by
  refine th_ofW (by decide +kernel) (Nat.le_of_ble_eq_true rfl) ?_
  intro p e s m args below meth c ls Q hQ C hr hk hnm T hl
  have hx := C.1
  have hb := C.2.1
  have C : CallFix p m c cX6_init 1 s args th_ws RX6 := C
  have hl : lv_has ls 1 [(0, .ref t)] := hl
  unfold f_X6_init at h
  refine lv_aload_n hx hb dX6_init_0 rfl (lv_at hl 0 rfl) ?_
  refine W.objInit hx hb C.2.2.2.1 (C.2.2.2.2 _ w_97) (C.2.2.2.2 _ w_27) (C.2.2.2.2 _ w_28) rfl (by rw [C.2.2.1]; exact hl.1) rfl dX6_init_1 (Nat.le_of_ble_eq_true rfl) (Nat.le_of_ble_eq_true rfl) ?_
  refine W.eq (g2 := F0 m 4 ls []) rfl ?_
  refine lv_aload_n hx hb dX6_init_4 rfl (lv_at hl 0 rfl) ?_
  refine lv_bipush (v := 40) hx hb dX6_init_5 (by decide) ?_
  obtain ⟨a1, σ2, μ3, e4, h⟩ := ob3 h
  refine th_newa C T 40 e4 (by decide) (by decide) (by decide) w_66 (Nat.le_of_ble_eq_true rfl) (Nat.le_of_ble_eq_true rfl) dX6_init_7 (fun H T => ?_)
  refine W.eqc (c1 := 1) (s1 := 40) rfl rfl ?_
  obtain ⟨σ5, e6, h⟩ := ob_ h
  refine p_RX6_9 C T e6 hnm dX6_init_9 (fun H locs T => ?_)
  refine lv_aload_n hx hb dX6_init_12 rfl (lv_at hl 0 rfl) ?_
  refine lv_iconst (v := -1) hx hb dX6_init_13 (by decide) ?_
  obtain ⟨μ7, e8, h⟩ := ob_ h
  refine p_RX6_15 C T e8 dX6_init_14 (fun H locs T => ?_)
  obtain ⟨rfl, rfl⟩ := os2 h
  exact th_vret hQ C hr hk T (Nat.le_of_ble_eq_true rfl) (Nat.le_of_ble_eq_true rfl) dX6_init_17
set_option maxRecDepth 100000 in
set_option maxHeartbeats 4000000 in
theorem c_J7_fill_53178 {l : Launch} {G : th_G} {σ : th_S} {μ : th_M} {x0 : Nat} {x1 : Int32}  {μ' : th_M} (h : f_J7_fill_53178 σ μ x0 x1 = some μ') : th_Met l G yJ7_fill_53178 cJ7_fill_53178 4 none { frames := 0, cells := 0, slots := 0, locals := 0 } [.ref x0, .int x1] σ μ none σ μ' := by
  refine th_ofW (by decide +kernel) (Nat.le_of_ble_eq_true rfl) ?_
  intro p e s m args below meth c ls Q hQ C hr hk hnm T hl
  have hx := C.1
  have hb := C.2.1
  have C : CallFix p m c cJ7_fill_53178 4 s args th_ws RJ7 := C
  have hl : lv_has ls 4 [(0, .ref x0), (1, .int x1)] := hl
  have J5 : ∀ (n : Nat) (μ : th_M) (x0 : Nat) (x1 : Int32) (x2 : Int32) (x3 : Int32) (H : Heap) (locs : List Loc) (ls : Array Slot), th_R G s H locs σ μ → lv_has ls 4 [(0, .ref x0), (1, .int x1), (2, .int x2), (3, .int x3)] → f_J7_fill_53178_b5  n σ μ x0 x1 x2 x3 = some μ' → W p l e { frames := 0, cells := 0, slots := 0, locals := 0 } s m args below meth c H locs 0 0 Q (F0 m 5 ls []) := by
    intro n
    induction n with
    | zero => intro μ x0 x1 x2 x3 H locs ls T hl h; unfold f_J7_fill_53178_b5 at h; cases h
    | succ n5 ih5 =>
      intro μ x0 x1 x2 x3 H locs ls T hl h
      unfold f_J7_fill_53178_b5 at h
      refine lv_iload_n hx hb dJ7_fill_53178_5 rfl (lv_at hl 2 rfl) ?_
      refine lv_iload_n hx hb dJ7_fill_53178_6 rfl (lv_at hl 3 rfl) ?_
      refine lv_icmp_ge (tgt := 20) hx hb dJ7_fill_53178_7 (by decide) (fun c1 => ?_) (fun c1 => ?_)
      · replace h := ot_ c1 h
        obtain rfl := os1 h
        exact th_vret hQ C hr hk T (Nat.le_of_ble_eq_true rfl) (Nat.le_of_ble_eq_true rfl) dJ7_fill_53178_20
      · replace h := of_ c1 h
        refine lv_aload_n hx hb dJ7_fill_53178_10 rfl (lv_at hl 0 rfl) ?_
        refine lv_iload_n hx hb dJ7_fill_53178_11 rfl (lv_at hl 2 rfl) ?_
        refine lv_iload_n hx hb dJ7_fill_53178_12 rfl (lv_at hl 1 rfl) ?_
        obtain ⟨μ2, e3, h⟩ := ob_ h
        refine th_iast C T e3 dJ7_fill_53178_13 (fun H locs T => ?_)
        refine lv_iinc (v := x2 + 1) (lv' := [(2, .int (x2 + 1)), (0, .ref x0), (1, .int x1), (3, .int x3)]) hx hb dJ7_fill_53178_14 hl (k := 2) rfl rfl (by decide) rfl (fun ls hl => ?_)
        refine lv_goto (tgt := 5) hx hb dJ7_fill_53178_17 (by decide) ?_
        exact ih5 _ _ _ _ _ _ _ _ T (lv_sub hl [1, 2, 0, 3] rfl) h
  unfold f_J7_fill_53178 at h
  refine lv_iconst (v := 0) hx hb dJ7_fill_53178_0 (by decide) ?_
  refine lv_istore_n (lv' := [(2, .int 0), (0, .ref x0), (1, .int x1)]) hx hb dJ7_fill_53178_1 rfl hl (by decide) rfl (fun ls hl => ?_)
  refine lv_aload_n hx hb dJ7_fill_53178_2 rfl (lv_at hl 1 rfl) ?_
  obtain ⟨v1, e2, h⟩ := ob_ h
  refine th_alen C T e2 dJ7_fill_53178_3 ?_
  refine lv_istore_n (lv' := [(3, .int v1), (2, .int 0), (0, .ref x0), (1, .int x1)]) hx hb dJ7_fill_53178_4 rfl hl (by decide) rfl (fun ls hl => ?_)
  exact J5 fu _ _ _ _ _ _ _ _ T (lv_sub hl [2, 3, 1, 0] rfl) h
set_option maxRecDepth 100000 in
set_option maxHeartbeats 4000000 in
theorem c_X6_become {l : Launch} {G : th_G} {σ : th_S} {μ : th_M} {t : Nat} {x1 : Int32} {x2 : Int32}  {μ' : th_M} (h : f_X6_become σ μ t x1 x2 = some μ') : th_Met l G yX6_become cX6_become 3 none { frames := 1, cells := 0, slots := 0, locals := 23 } [.ref t, .int x1, .int x2] σ μ none σ μ' := by
  refine th_ofW (by decide +kernel) (Nat.le_of_ble_eq_true rfl) ?_
  intro p e s m args below meth c ls Q hQ C hr hk hnm T hl
  have hx := C.1
  have hb := C.2.1
  have C : CallFix p m c cX6_become 3 s args th_ws RX6 := C
  have hl : lv_has ls 3 [(0, .ref t), (1, .int x1), (2, .int x2)] := hl
  unfold f_X6_become at h
  refine lv_aload_n hx hb dX6_become_0 rfl (lv_at hl 0 rfl) ?_
  obtain ⟨a1, e2, h⟩ := ob_ h
  refine g_RX6_9 C T e2 dX6_become_1 ?_
  refine lv_iconst (v := 0) hx hb dX6_become_4 (by decide) ?_
  obtain ⟨μ3, e4, h⟩ := ob_ h
  refine th_callS (As := [.ref a1, .int 0]) (rest := []) C T (c_J7_fill_53178 e4) k_RX6_19 rfl hl.1 rfl (st1 := []) rfl (cells1 := 0) rfl (slots1 := 0) rfl (Nat.le_of_ble_eq_true rfl) ⟨Nat.le_of_ble_eq_true rfl, Nat.le_of_ble_eq_true rfl⟩ ⟨Nat.le_of_ble_eq_true rfl, Nat.le_of_ble_eq_true rfl⟩ dX6_become_5 (fun H locs T => ?_)
  refine lv_aload_n hx hb dX6_become_8 rfl (lv_at hl 0 rfl) ?_
  refine lv_iload_n hx hb dX6_become_9 rfl (lv_at hl 1 rfl) ?_
  obtain ⟨μ5, e6, h⟩ := ob_ h
  refine p_RX6_15 C T e6 dX6_become_10 (fun H locs T => ?_)
  refine lv_aload_n hx hb dX6_become_13 rfl (lv_at hl 0 rfl) ?_
  refine lv_iload_n hx hb dX6_become_14 rfl (lv_at hl 2 rfl) ?_
  obtain ⟨μ7, e8, h⟩ := ob_ h
  refine p_RX6_25 C T e8 dX6_become_15 (fun H locs T => ?_)
  obtain rfl := os1 h
  exact th_vret hQ C hr hk T (Nat.le_of_ble_eq_true rfl) (Nat.le_of_ble_eq_true rfl) dX6_become_18
set_option maxRecDepth 100000 in
set_option maxHeartbeats 4000000 in
theorem c_X6_isMissing {l : Launch} {G : th_G} {σ : th_S} {μ : th_M} {t : Nat} {r : Int32} (h : f_X6_isMissing σ μ t = some r) : th_Met l G yX6_isMissing cX6_isMissing 1 (some FieldType.boolean) { frames := 0, cells := 0, slots := 0, locals := 0 } [.ref t] σ μ (some (.int r)) σ μ := by
  refine th_ofW (by decide +kernel) (Nat.le_of_ble_eq_true rfl) ?_
  intro p e s m args below meth c ls Q hQ C hr hk hnm T hl
  have hx := C.1
  have hb := C.2.1
  have C : CallFix p m c cX6_isMissing 1 s args th_ws RX6 := C
  have hl : lv_has ls 1 [(0, .ref t)] := hl
  unfold f_X6_isMissing at h
  refine lv_aload_n hx hb dX6_isMissing_0 rfl (lv_at hl 0 rfl) ?_
  obtain ⟨v1, e2, h⟩ := ob_ h
  refine g_RX6_15 C T e2 dX6_isMissing_1 ?_
  refine lv_iconst (v := -1) hx hb dX6_isMissing_4 (by decide) ?_
  refine lv_icmp_ne (tgt := 12) hx hb dX6_isMissing_5 (by decide) (fun c3 => ?_) (fun c3 => ?_)
  · replace h := of_ c3 h
    refine lv_iconst (v := 0) hx hb dX6_isMissing_12 (by decide) ?_
    obtain rfl := os1 h
    exact th_zret hQ C hr hk T (Nat.le_of_ble_eq_true rfl) (Nat.le_of_ble_eq_true rfl) dX6_isMissing_13 rfl
  · replace h := ot_ c3 h
    refine lv_iconst (v := 1) hx hb dX6_isMissing_8 (by decide) ?_
    refine lv_goto (tgt := 13) hx hb dX6_isMissing_9 (by decide) ?_
    obtain rfl := os1 h
    exact th_zret hQ C hr hk T (Nat.le_of_ble_eq_true rfl) (Nat.le_of_ble_eq_true rfl) dX6_isMissing_13 rfl
set_option maxRecDepth 100000 in
set_option maxHeartbeats 4000000 in
theorem c_X6_has {l : Launch} {G : th_G} {σ : th_S} {μ : th_M} {t : Nat} {x1 : Int64} {x3 : Int32} {r : Int32} (h : f_X6_has σ μ t x1 x3 = some r) : th_Met l G yX6_has cX6_has 4 (some FieldType.boolean) { frames := 0, cells := 0, slots := 0, locals := 0 } [.ref t, .long x1, .int x3] σ μ (some (.int r)) σ μ := by
  refine th_ofW (by decide +kernel) (Nat.le_of_ble_eq_true rfl) ?_
  intro p e s m args below meth c ls Q hQ C hr hk hnm T hl
  have hx := C.1
  have hb := C.2.1
  have C : CallFix p m c cX6_has 4 s args th_ws RX6 := C
  have hl : lv_has ls 4 [(0, .ref t), (1, .long x1), (3, .int x3)] := hl
  unfold f_X6_has at h
  refine lv_lload_n hx hb dX6_has_0 rfl (lv_at hl 1 rfl) ?_
  refine lv_lconst (v := 0) hx hb dX6_has_1 (by decide) ?_
  refine W.lcmp hx hb dX6_has_2 ?_
  refine lv_if_lt (tgt := 27) hx hb dX6_has_3 (by decide) (fun c1 => ?_) (fun c1 => ?_)
  · replace h := ot_ c1 h
    refine lv_iconst (v := 0) hx hb dX6_has_27 (by decide) ?_
    obtain rfl := os1 h
    exact th_zret hQ C hr hk T (Nat.le_of_ble_eq_true rfl) (Nat.le_of_ble_eq_true rfl) dX6_has_28 rfl
  · replace h := of_ c1 h
    refine lv_iload_n hx hb dX6_has_6 rfl (lv_at hl 2 rfl) ?_
    refine lv_if_lt (tgt := 27) hx hb dX6_has_7 (by decide) (fun c2 => ?_) (fun c2 => ?_)
    · replace h := ot_ c2 h
      refine lv_iconst (v := 0) hx hb dX6_has_27 (by decide) ?_
      obtain rfl := os1 h
      exact th_zret hQ C hr hk T (Nat.le_of_ble_eq_true rfl) (Nat.le_of_ble_eq_true rfl) dX6_has_28 rfl
    · replace h := of_ c2 h
      refine lv_lload_n hx hb dX6_has_10 rfl (lv_at hl 1 rfl) ?_
      refine lv_iload_n hx hb dX6_has_11 rfl (lv_at hl 2 rfl) ?_
      refine lv_i2l hx hb dX6_has_12 rfl ?_
      refine lv_ladd hx hb dX6_has_13 ?_
      refine lv_aload_n hx hb dX6_has_14 rfl (lv_at hl 0 rfl) ?_
      obtain ⟨v3, e4, h⟩ := ob_ h
      refine g_RX6_25 C T e4 dX6_has_15 ?_
      refine lv_i2l hx hb dX6_has_18 rfl ?_
      refine W.lcmp hx hb dX6_has_19 ?_
      refine lv_if_gt (tgt := 27) hx hb dX6_has_20 (by decide) (fun c5 => ?_) (fun c5 => ?_)
      · replace h := ot_ c5 h
        refine lv_iconst (v := 0) hx hb dX6_has_27 (by decide) ?_
        obtain rfl := os1 h
        exact th_zret hQ C hr hk T (Nat.le_of_ble_eq_true rfl) (Nat.le_of_ble_eq_true rfl) dX6_has_28 rfl
      · replace h := of_ c5 h
        refine lv_iconst (v := 1) hx hb dX6_has_23 (by decide) ?_
        refine lv_goto (tgt := 28) hx hb dX6_has_24 (by decide) ?_
        obtain rfl := os1 h
        exact th_zret hQ C hr hk T (Nat.le_of_ble_eq_true rfl) (Nat.le_of_ble_eq_true rfl) dX6_has_28 rfl
set_option maxRecDepth 100000 in
set_option maxHeartbeats 4000000 in
theorem c_X6_at {l : Launch} {G : th_G} {σ : th_S} {μ : th_M} {t : Nat} {x1 : Int32} {r : Int32} (h : f_X6_at σ μ t x1 = some r) : th_Met l G yX6_at cX6_at 2 (some FieldType.int) { frames := 1, cells := 0, slots := 0, locals := 23 } [.ref t, .int x1] σ μ (some (.int r)) σ μ := by
  refine th_ofW (by decide +kernel) (Nat.le_of_ble_eq_true rfl) ?_
  intro p e s m args below meth c ls Q hQ C hr hk hnm T hl
  have hx := C.1
  have hb := C.2.1
  have C : CallFix p m c cX6_at 2 s args th_ws RX6 := C
  have hl : lv_has ls 2 [(0, .ref t), (1, .int x1)] := hl
  unfold f_X6_at at h
  refine lv_aload_n hx hb dX6_at_0 rfl (lv_at hl 0 rfl) ?_
  refine lv_iload_n hx hb dX6_at_1 rfl (lv_at hl 1 rfl) ?_
  refine lv_i2l hx hb dX6_at_2 rfl ?_
  refine lv_iconst (v := 1) hx hb dX6_at_3 (by decide) ?_
  obtain ⟨k1, h⟩ := oc_ h
  obtain ⟨v2, e3, h⟩ := ob_ h
  refine th_callV (As := [.long x1.toInt64, .int 1]) (rest := []) C T (c_X6_has e3) k_RX6_28 6 rfl rfl (by decide) k1 rfl hl.1 rfl (st1 := [.int v2]) rfl (cells1 := 0) rfl (slots1 := 0) rfl (Nat.le_of_ble_eq_true rfl) ⟨Nat.le_of_ble_eq_true rfl, Nat.le_of_ble_eq_true rfl⟩ ⟨Nat.le_of_ble_eq_true rfl, Nat.le_of_ble_eq_true rfl⟩ dX6_at_4 (fun H locs T => ?_)
  refine lv_if_eq (tgt := 19) hx hb dX6_at_7 (by decide) (fun c4 => ?_) (fun c4 => ?_)
  · replace h := ot_ c4 h
    refine lv_iconst (v := 0) hx hb dX6_at_19 (by decide) ?_
    obtain rfl := os1 h
    exact th_iret hQ C hr hk T (Nat.le_of_ble_eq_true rfl) (Nat.le_of_ble_eq_true rfl) dX6_at_20
  · replace h := of_ c4 h
    refine lv_aload_n hx hb dX6_at_10 rfl (lv_at hl 0 rfl) ?_
    obtain ⟨a5, e6, h⟩ := ob_ h
    refine g_RX6_9 C T e6 dX6_at_11 ?_
    refine lv_iload_n hx hb dX6_at_14 rfl (lv_at hl 1 rfl) ?_
    obtain ⟨v7, e8, h⟩ := ob_ h
    refine th_iald C T e8 dX6_at_15 ?_
    refine lv_goto (tgt := 20) hx hb dX6_at_16 (by decide) ?_
    obtain rfl := os1 h
    exact th_iret hQ C hr hk T (Nat.le_of_ble_eq_true rfl) (Nat.le_of_ble_eq_true rfl) dX6_at_20
set_option maxRecDepth 100000 in
set_option maxHeartbeats 4000000 in
theorem c_X6_put {l : Launch} {G : th_G} {σ : th_S} {μ : th_M} {t : Nat} {x1 : Int32} {x2 : Int32}  {μ' : th_M} (h : f_X6_put σ μ t x1 x2 = some μ') : th_Met l G yX6_put cX6_put 3 none { frames := 1, cells := 0, slots := 0, locals := 23 } [.ref t, .int x1, .int x2] σ μ none σ μ' := by
  refine th_ofW (by decide +kernel) (Nat.le_of_ble_eq_true rfl) ?_
  intro p e s m args below meth c ls Q hQ C hr hk hnm T hl
  have hx := C.1
  have hb := C.2.1
  have C : CallFix p m c cX6_put 3 s args th_ws RX6 := C
  have hl : lv_has ls 3 [(0, .ref t), (1, .int x1), (2, .int x2)] := hl
  unfold f_X6_put at h
  refine lv_aload_n hx hb dX6_put_0 rfl (lv_at hl 0 rfl) ?_
  refine lv_iload_n hx hb dX6_put_1 rfl (lv_at hl 1 rfl) ?_
  refine lv_i2l hx hb dX6_put_2 rfl ?_
  refine lv_iconst (v := 1) hx hb dX6_put_3 (by decide) ?_
  obtain ⟨k1, h⟩ := oc_ h
  obtain ⟨v2, e3, h⟩ := ob_ h
  refine th_callV (As := [.long x1.toInt64, .int 1]) (rest := []) C T (c_X6_has e3) k_RX6_28 6 rfl rfl (by decide) k1 rfl hl.1 rfl (st1 := [.int v2]) rfl (cells1 := 0) rfl (slots1 := 0) rfl (Nat.le_of_ble_eq_true rfl) ⟨Nat.le_of_ble_eq_true rfl, Nat.le_of_ble_eq_true rfl⟩ ⟨Nat.le_of_ble_eq_true rfl, Nat.le_of_ble_eq_true rfl⟩ dX6_put_4 (fun H locs T => ?_)
  refine lv_if_ne (tgt := 11) hx hb dX6_put_7 (by decide) (fun c4 => ?_) (fun c4 => ?_)
  · replace h := of_ c4 h
    refine lv_aload_n hx hb dX6_put_11 rfl (lv_at hl 0 rfl) ?_
    obtain ⟨v5, e6, h⟩ := ob_ h
    refine g_RX6_15 C T e6 dX6_put_12 ?_
    by_cases c7 : v5 = 0
    · replace h := ot_ c7 h
      refine th_look (off := 25) (tgt := 40) C 0 c7 dX6_put_15 (by decide) (by decide) (by decide) ?_
      refine lv_aload_n hx hb dX6_put_40 rfl (lv_at hl 0 rfl) ?_
      obtain ⟨a8, e9, h⟩ := ob_ h
      refine g_RX6_9 C T e9 dX6_put_41 ?_
      refine lv_iload_n hx hb dX6_put_44 rfl (lv_at hl 1 rfl) ?_
      refine lv_iload_n hx hb dX6_put_45 rfl (lv_at hl 2 rfl) ?_
      refine lv_i2b hx hb dX6_put_46 rfl ?_
      obtain ⟨μ10, e11, h⟩ := ob_ h
      refine th_iast C T e11 dX6_put_47 (fun H locs T => ?_)
      refine lv_goto (tgt := 69) hx hb dX6_put_48 (by decide) ?_
      obtain rfl := os1 h
      exact th_vret hQ C hr hk T (Nat.le_of_ble_eq_true rfl) (Nat.le_of_ble_eq_true rfl) dX6_put_69
    replace h := of_ c7 h
    by_cases c12 : v5 = 1
    · replace h := ot_ c12 h
      refine th_look (off := 36) (tgt := 51) C 1 c12 dX6_put_15 (by decide) (by decide) (by decide) ?_
      refine lv_aload_n hx hb dX6_put_51 rfl (lv_at hl 0 rfl) ?_
      obtain ⟨a13, e14, h⟩ := ob_ h
      refine g_RX6_9 C T e14 dX6_put_52 ?_
      refine lv_iload_n hx hb dX6_put_55 rfl (lv_at hl 1 rfl) ?_
      refine lv_iload_n hx hb dX6_put_56 rfl (lv_at hl 2 rfl) ?_
      refine lv_i2s hx hb dX6_put_57 rfl ?_
      obtain ⟨μ15, e16, h⟩ := ob_ h
      refine th_iast C T e16 dX6_put_58 (fun H locs T => ?_)
      refine lv_goto (tgt := 69) hx hb dX6_put_59 (by decide) ?_
      obtain rfl := os1 h
      exact th_vret hQ C hr hk T (Nat.le_of_ble_eq_true rfl) (Nat.le_of_ble_eq_true rfl) dX6_put_69
    replace h := of_ c12 h
    have n17 := th_ne (n := 0) c7 (by decide)
    have n18 := th_ne (n := 1) c12 (by decide)
    refine lv_lookup (off := 47) (tgt := 62) hx hb dX6_put_15 (by decide) (by simp [Op.lookupswitch.offset, n17, n18, n17.symm, n18.symm]) (by decide) ?_
    refine lv_aload_n hx hb dX6_put_62 rfl (lv_at hl 0 rfl) ?_
    obtain ⟨a19, e20, h⟩ := ob_ h
    refine g_RX6_9 C T e20 dX6_put_63 ?_
    refine lv_iload_n hx hb dX6_put_66 rfl (lv_at hl 1 rfl) ?_
    refine lv_iload_n hx hb dX6_put_67 rfl (lv_at hl 2 rfl) ?_
    obtain ⟨μ21, e22, h⟩ := ob_ h
    refine th_iast C T e22 dX6_put_68 (fun H locs T => ?_)
    obtain rfl := os1 h
    exact th_vret hQ C hr hk T (Nat.le_of_ble_eq_true rfl) (Nat.le_of_ble_eq_true rfl) dX6_put_69
  · replace h := ot_ c4 h
    obtain rfl := os1 h
    exact th_vret hQ C hr hk T (Nat.le_of_ble_eq_true rfl) (Nat.le_of_ble_eq_true rfl) dX6_put_10
set_option maxRecDepth 100000 in
set_option maxHeartbeats 4000000 in
theorem c_X7_kind {l : Launch} {G : th_G} {σ : th_S} {μ : th_M} {t : Nat} {r : Int32} (h : f_X7_kind σ μ t = some r) : th_Met l G yX7_kind cX7_kind 1 (some FieldType.int) { frames := 0, cells := 0, slots := 0, locals := 0 } [.ref t] σ μ (some (.int r)) σ μ := by
  refine th_ofW (by decide +kernel) (Nat.le_of_ble_eq_true rfl) ?_
  intro p e s m args below meth c ls Q hQ C hr hk hnm T hl
  have hx := C.1
  have hb := C.2.1
  have C : CallFix p m c cX7_kind 1 s args th_ws RX7 := C
  have hl : lv_has ls 1 [(0, .ref t)] := hl
  unfold f_X7_kind at h
  refine lv_iconst (v := 1) hx hb dX7_kind_0 (by decide) ?_
  obtain rfl := os1 h
  exact th_iret hQ C hr hk T (Nat.le_of_ble_eq_true rfl) (Nat.le_of_ble_eq_true rfl) dX7_kind_1
section TV
variable {p : Program} {l : Launch} {e : Env} {R : Room} {s : State} {m : MethodId} {args : Array Value} {below : List Frame} {meth : Method} {c : Code} {H : Heap} {locs : List Loc} {cells slots : Nat} {Q : State → Prop}
variable {cc : ByteArray} {pc nL : Nat} {ls : Array Slot} {rest : List Value} {G : th_G} {σ : th_S} {μ : th_M}
set_option maxRecDepth 100000 in
set_option maxHeartbeats 4000000 in
theorem vc_RX10_105 (C : CallFix p m c cc nL s args th_ws RX10) (T : th_R G s H locs σ μ) {t : Nat} {r : Int32} (h : fD_kind σ μ t = some r) (hls : ls.size = nL) {st1 : List Value} (hst1 : (some (.int r)).toList ++ rest = st1) (h8 : (rest.map fun v => v.category).sum ≤ 8) (hR : 0 + 1 ≤ R.frames ∧ 20 ≤ R.locals) (hf : cells + 0 ≤ R.cells ∧ slots + 0 ≤ R.slots) (hdg : decode cc pc = .ok (.invokevirtual 105, 3))
    (kk : ∀ (H : Heap) (locs : List Loc), th_R G s H locs σ μ → W p l e R s m args below meth c H locs cells slots Q (F0 m (pc + 3) ls st1)) : W p l e R s m args below meth c H locs cells slots Q (F0 m pc ls ([].reverse ++ .ref t :: rest)) := by
  unfold fD_kind at h
  by_cases h0 : σ.1 t = 0
  · replace h := ot_ h0 h
    exact th_callV (n := 0) (As := []) C T (c_X0_kind h) ⟨w_425, w_426, w_427, w_14, w_444, by decide +kernel⟩ 0 rfl rfl (by decide) h0 rfl hls rfl hst1 rfl rfl h8 ⟨by have := hR.1; show 0 + 1 ≤ _; omega, by have := hR.2; show 8 + (1 + 11) + 0 ≤ _; omega⟩ hf hdg kk
  replace h := of_ h0 h
  by_cases h1 : σ.1 t = 1
  · replace h := ot_ h1 h
    exact th_callU (n := 0) (As := []) C T (c_X1_kind h) (x := yX0_kind) (Cn := RX1) (owner := RX0) ⟨w_425, w_428, w_429, w_430, w_18, w_431, Or.inr ⟨w_426, _, _, _, w_444⟩, by decide +kernel⟩ 1 rfl rfl (by decide) h1 rfl hls rfl hst1 rfl rfl h8 ⟨by have := hR.1; show 0 + 1 ≤ _; omega, by have := hR.2; show 8 + (1 + 11) + 0 ≤ _; omega⟩ hf hdg kk
  replace h := of_ h1 h
  by_cases h2 : σ.1 t = 2
  · replace h := ot_ h2 h
    exact th_callU (n := 0) (As := []) C T (c_X2_kind h) (x := yX0_kind) (Cn := RX2) (owner := RX0) ⟨w_425, w_428, w_432, w_433, w_17, w_434, Or.inr ⟨w_426, _, _, _, w_444⟩, by decide +kernel⟩ 2 rfl rfl (by decide) h2 rfl hls rfl hst1 rfl rfl h8 ⟨by have := hR.1; show 0 + 1 ≤ _; omega, by have := hR.2; show 8 + (1 + 11) + 0 ≤ _; omega⟩ hf hdg kk
  replace h := of_ h2 h
  by_cases h3 : σ.1 t = 3
  · replace h := ot_ h3 h
    exact th_callU (n := 0) (As := []) C T (c_X3_kind h) (x := yX0_kind) (Cn := RX3) (owner := RX0) ⟨w_425, w_428, w_435, w_436, w_19, w_437, Or.inr ⟨w_426, _, _, _, w_444⟩, by decide +kernel⟩ 3 rfl rfl (by decide) h3 rfl hls rfl hst1 rfl rfl h8 ⟨by have := hR.1; show 0 + 1 ≤ _; omega, by have := hR.2; show 8 + (1 + 11) + 0 ≤ _; omega⟩ hf hdg kk
  replace h := of_ h3 h
  by_cases h4 : σ.1 t = 4
  · replace h := ot_ h4 h
    exact th_callU (n := 0) (As := []) C T (c_X4_kind h) (x := yX0_kind) (Cn := RX4) (owner := RX0) ⟨w_425, w_428, w_438, w_439, w_16, w_440, Or.inr ⟨w_426, _, _, _, w_444⟩, by decide +kernel⟩ 4 rfl rfl (by decide) h4 rfl hls rfl hst1 rfl rfl h8 ⟨by have := hR.1; show 0 + 1 ≤ _; omega, by have := hR.2; show 8 + (1 + 11) + 0 ≤ _; omega⟩ hf hdg kk
  replace h := of_ h4 h
  by_cases h7 : σ.1 t = 7
  · replace h := ot_ h7 h
    exact th_callU (n := 0) (As := []) C T (c_X7_kind h) (x := yX0_kind) (Cn := RX7) (owner := RX0) ⟨w_425, w_428, w_441, w_442, w_15, w_443, Or.inr ⟨w_426, _, _, _, w_444⟩, by decide +kernel⟩ 7 rfl rfl (by decide) h7 rfl hls rfl hst1 rfl rfl h8 ⟨by have := hR.1; show 0 + 1 ≤ _; omega, by have := hR.2; show 8 + (1 + 11) + 0 ≤ _; omega⟩ hf hdg kk
  replace h := of_ h7 h
  cases h
end TV
set_option maxRecDepth 100000 in
set_option maxHeartbeats 4000000 in
theorem c_X8_init {l : Launch} {G : th_G} {σ : th_S} {μ : th_M} {t : Nat}  {σ' : th_S} {μ' : th_M} (h : f_X8_init σ μ t = some (σ', μ')) : th_Met l G yX8_init cX8_init 1 none { frames := 1, cells := 3, slots := 323, locals := 80 } [.ref t] σ μ none σ' μ' := by
  refine th_ofW (by decide +kernel) (Nat.le_of_ble_eq_true rfl) ?_
  intro p e s m args below meth c ls Q hQ C hr hk hnm T hl
  have hx := C.1
  have hb := C.2.1
  have C : CallFix p m c cX8_init 1 s args th_ws RX8 := C
  have hl : lv_has ls 1 [(0, .ref t)] := hl
  unfold f_X8_init at h
  refine lv_aload_n hx hb dX8_init_0 rfl (lv_at hl 0 rfl) ?_
  refine W.objInit hx hb C.2.2.2.1 (C.2.2.2.2 _ w_36) (C.2.2.2.2 _ w_27) (C.2.2.2.2 _ w_28) rfl (by rw [C.2.2.1]; exact hl.1) rfl dX8_init_1 (Nat.le_of_ble_eq_true rfl) (Nat.le_of_ble_eq_true rfl) ?_
  refine W.eq (g2 := F0 m 4 ls []) rfl ?_
  refine lv_aload_n hx hb dX8_init_4 rfl (lv_at hl 0 rfl) ?_
  refine lv_sipush (v := 160) hx hb dX8_init_5 (by decide) ?_
  obtain ⟨a1, σ2, μ3, e4, h⟩ := ob3 h
  refine th_newa C T 160 e4 (by decide) (by decide) (by decide) w_66 (Nat.le_of_ble_eq_true rfl) (Nat.le_of_ble_eq_true rfl) dX8_init_8 (fun H T => ?_)
  refine W.eqc (c1 := 1) (s1 := 160) rfl rfl ?_
  obtain ⟨σ5, e6, h⟩ := ob_ h
  refine p_RX8_9 C T e6 hnm dX8_init_10 (fun H locs T => ?_)
  refine lv_aload_n hx hb dX8_init_13 rfl (lv_at hl 0 rfl) ?_
  refine lv_sipush (v := 160) hx hb dX8_init_14 (by decide) ?_
  obtain ⟨a7, σ8, μ9, e10, h⟩ := ob3 h
  refine th_newa C T 160 e10 (by decide) (by decide) (by decide) w_66 (Nat.le_of_ble_eq_true rfl) (Nat.le_of_ble_eq_true rfl) dX8_init_17 (fun H T => ?_)
  refine W.eqc (c1 := 2) (s1 := 320) rfl rfl ?_
  obtain ⟨σ11, e12, h⟩ := ob_ h
  refine p_RX8_15 C T e12 hnm dX8_init_19 (fun H locs T => ?_)
  refine lv_aload_n hx hb dX8_init_22 rfl (lv_at hl 0 rfl) ?_
  refine lv_iconst (v := 3) hx hb dX8_init_23 (by decide) ?_
  obtain ⟨a13, σ14, μ15, e16, h⟩ := ob3 h
  refine th_newa C T 3 e16 (by decide) (by decide) (by decide) w_66 (Nat.le_of_ble_eq_true rfl) (Nat.le_of_ble_eq_true rfl) dX8_init_24 (fun H T => ?_)
  refine W.eqc (c1 := 3) (s1 := 323) rfl rfl ?_
  obtain ⟨σ17, e18, h⟩ := ob_ h
  refine p_RX8_18 C T e18 hnm dX8_init_26 (fun H locs T => ?_)
  obtain ⟨rfl, rfl⟩ := os2 h
  exact th_vret hQ C hr hk T (Nat.le_of_ble_eq_true rfl) (Nat.le_of_ble_eq_true rfl) dX8_init_29
set_option maxRecDepth 100000 in
set_option maxHeartbeats 4000000 in
theorem c_X8_add {l : Launch} {G : th_G} {σ : th_S} {μ : th_M} {t : Nat} {x1 : Int32} {r : Int32} {μ' : th_M} (h : f_X8_add σ μ t x1 = some (r, μ')) : th_Met l G yX8_add cX8_add 2 (some FieldType.boolean) { frames := 0, cells := 0, slots := 0, locals := 0 } [.ref t, .int x1] σ μ (some (.int r)) σ μ' := by
  refine th_ofW (by decide +kernel) (Nat.le_of_ble_eq_true rfl) ?_
  intro p e s m args below meth c ls Q hQ C hr hk hnm T hl
  have hx := C.1
  have hb := C.2.1
  have C : CallFix p m c cX8_add 2 s args th_ws RX8 := C
  have hl : lv_has ls 2 [(0, .ref t), (1, .int x1)] := hl
  unfold f_X8_add at h
  refine lv_aload_n hx hb dX8_add_0 rfl (lv_at hl 0 rfl) ?_
  obtain ⟨v1, e2, h⟩ := ob_ h
  refine g_RX8_21 C T e2 dX8_add_1 ?_
  refine lv_sipush (v := 160) hx hb dX8_add_4 (by decide) ?_
  refine lv_icmp_lt (tgt := 12) hx hb dX8_add_7 (by decide) (fun c3 => ?_) (fun c3 => ?_)
  · replace h := ot_ c3 h
    refine lv_aload_n hx hb dX8_add_12 rfl (lv_at hl 0 rfl) ?_
    obtain ⟨a4, e5, h⟩ := ob_ h
    refine g_RX8_9 C T e5 dX8_add_13 ?_
    refine lv_aload_n hx hb dX8_add_16 rfl (lv_at hl 0 rfl) ?_
    obtain ⟨v6, e7, h⟩ := ob_ h
    refine g_RX8_21 C T e7 dX8_add_17 ?_
    refine lv_iload_n hx hb dX8_add_20 rfl (lv_at hl 1 rfl) ?_
    obtain ⟨μ8, e9, h⟩ := ob_ h
    refine th_iast C T e9 dX8_add_21 (fun H locs T => ?_)
    refine lv_aload_n hx hb dX8_add_22 rfl (lv_at hl 0 rfl) ?_
    refine lv_dup hx hb dX8_add_23 rfl ?_
    obtain ⟨v10, e11, h⟩ := ob_ h
    refine g_RX8_21 C T e11 dX8_add_24 ?_
    refine lv_iconst (v := 1) hx hb dX8_add_27 (by decide) ?_
    refine lv_iadd hx hb dX8_add_28 ?_
    obtain ⟨μ12, e13, h⟩ := ob_ h
    refine p_RX8_21 C T e13 dX8_add_29 (fun H locs T => ?_)
    refine lv_iconst (v := 1) hx hb dX8_add_32 (by decide) ?_
    obtain ⟨rfl, rfl⟩ := os2 h
    exact th_zret hQ C hr hk T (Nat.le_of_ble_eq_true rfl) (Nat.le_of_ble_eq_true rfl) dX8_add_33 rfl
  · replace h := of_ c3 h
    refine lv_iconst (v := 0) hx hb dX8_add_10 (by decide) ?_
    obtain ⟨rfl, rfl⟩ := os2 h
    exact th_zret hQ C hr hk T (Nat.le_of_ble_eq_true rfl) (Nat.le_of_ble_eq_true rfl) dX8_add_11 rfl
set_option maxRecDepth 100000 in
set_option maxHeartbeats 4000000 in
theorem c_X8_empty {l : Launch} {G : th_G} {σ : th_S} {μ : th_M} {t : Nat}  {μ' : th_M} (h : f_X8_empty σ μ t = some μ') : th_Met l G yX8_empty cX8_empty 1 none { frames := 0, cells := 0, slots := 0, locals := 0 } [.ref t] σ μ none σ μ' := by
  refine th_ofW (by decide +kernel) (Nat.le_of_ble_eq_true rfl) ?_
  intro p e s m args below meth c ls Q hQ C hr hk hnm T hl
  have hx := C.1
  have hb := C.2.1
  have C : CallFix p m c cX8_empty 1 s args th_ws RX8 := C
  have hl : lv_has ls 1 [(0, .ref t)] := hl
  unfold f_X8_empty at h
  refine lv_aload_n hx hb dX8_empty_0 rfl (lv_at hl 0 rfl) ?_
  refine lv_iconst (v := 0) hx hb dX8_empty_1 (by decide) ?_
  obtain ⟨μ1, e2, h⟩ := ob_ h
  refine p_RX8_21 C T e2 dX8_empty_2 (fun H locs T => ?_)
  obtain rfl := os1 h
  exact th_vret hQ C hr hk T (Nat.le_of_ble_eq_true rfl) (Nat.le_of_ble_eq_true rfl) dX8_empty_5
set_option maxRecDepth 100000 in
set_option maxHeartbeats 4000000 in
theorem c_X8_isLetter {l : Launch} {G : th_G} {σ : th_S} {μ : th_M} {x0 : Int32} {r : Int32} (h : f_X8_isLetter x0 = some r) : th_Met l G yX8_isLetter cX8_isLetter 1 (some FieldType.boolean) { frames := 0, cells := 0, slots := 0, locals := 0 } [.int x0] σ μ (some (.int r)) σ μ := by
  refine th_ofW (by decide +kernel) (Nat.le_of_ble_eq_true rfl) ?_
  intro p e s m args below meth c ls Q hQ C hr hk hnm T hl
  have hx := C.1
  have hb := C.2.1
  have C : CallFix p m c cX8_isLetter 1 s args th_ws RX8 := C
  have hl : lv_has ls 1 [(0, .int x0)] := hl
  unfold f_X8_isLetter at h
  refine lv_iload_n hx hb dX8_isLetter_0 rfl (lv_at hl 0 rfl) ?_
  refine lv_bipush (v := 97) hx hb dX8_isLetter_1 (by decide) ?_
  refine lv_icmp_lt (tgt := 16) hx hb dX8_isLetter_3 (by decide) (fun c1 => ?_) (fun c1 => ?_)
  · replace h := ot_ c1 h
    refine lv_iconst (v := 0) hx hb dX8_isLetter_16 (by decide) ?_
    obtain rfl := os1 h
    exact th_zret hQ C hr hk T (Nat.le_of_ble_eq_true rfl) (Nat.le_of_ble_eq_true rfl) dX8_isLetter_17 rfl
  · replace h := of_ c1 h
    refine lv_iload_n hx hb dX8_isLetter_6 rfl (lv_at hl 0 rfl) ?_
    refine lv_bipush (v := 122) hx hb dX8_isLetter_7 (by decide) ?_
    refine lv_icmp_gt (tgt := 16) hx hb dX8_isLetter_9 (by decide) (fun c2 => ?_) (fun c2 => ?_)
    · replace h := ot_ c2 h
      refine lv_iconst (v := 0) hx hb dX8_isLetter_16 (by decide) ?_
      obtain rfl := os1 h
      exact th_zret hQ C hr hk T (Nat.le_of_ble_eq_true rfl) (Nat.le_of_ble_eq_true rfl) dX8_isLetter_17 rfl
    · replace h := of_ c2 h
      refine lv_iconst (v := 1) hx hb dX8_isLetter_12 (by decide) ?_
      refine lv_goto (tgt := 17) hx hb dX8_isLetter_13 (by decide) ?_
      obtain rfl := os1 h
      exact th_zret hQ C hr hk T (Nat.le_of_ble_eq_true rfl) (Nat.le_of_ble_eq_true rfl) dX8_isLetter_17 rfl
set_option maxRecDepth 100000 in
set_option maxHeartbeats 4000000 in
theorem c_X8_spelling {l : Launch} {G : th_G} {σ : th_S} {μ : th_M} {x0 : Int32} {r : Nat} (h : f_X8_spelling x0 = some r) : th_Met l G yX8_spelling cX8_spelling 1 (some (FieldType.object "java/lang/String")) { frames := 0, cells := 0, slots := 0, locals := 0 } [.int x0] σ μ (some (.ref (G.2.2.2.1 r))) σ μ := by
  refine th_ofW (by decide +kernel) (Nat.le_of_ble_eq_true rfl) ?_
  intro p e s m args below meth c ls Q hQ C hr hk hnm T hl
  have hx := C.1
  have hb := C.2.1
  have C : CallFix p m c cX8_spelling 1 s args th_ws RX8 := C
  have hl : lv_has ls 1 [(0, .int x0)] := hl
  unfold f_X8_spelling at h
  refine lv_iload_n hx hb dX8_spelling_0 rfl (lv_at hl 0 rfl) ?_
  by_cases c1 : x0 = 0
  · replace h := ot_ c1 h
    refine th_tabIn (off := 59) (tgt := 60) C 0 c1 dX8_spelling_1 (by decide) (by decide) (by decide) (by decide) ?_
    refine th_ldcS C T 1 rfl dX8_spelling_60 ?_
    obtain rfl := os1 h
    exact th_aret hQ C hr hk T (Nat.le_of_ble_eq_true rfl) (Nat.le_of_ble_eq_true rfl) dX8_spelling_62 (Or.inl ⟨_, rfl⟩)
  replace h := of_ c1 h
  by_cases c2 : x0 = 1
  · replace h := ot_ c2 h
    refine th_tabIn (off := 62) (tgt := 63) C 1 c2 dX8_spelling_1 (by decide) (by decide) (by decide) (by decide) ?_
    refine th_ldcS C T 2 rfl dX8_spelling_63 ?_
    obtain rfl := os1 h
    exact th_aret hQ C hr hk T (Nat.le_of_ble_eq_true rfl) (Nat.le_of_ble_eq_true rfl) dX8_spelling_65 (Or.inl ⟨_, rfl⟩)
  replace h := of_ c2 h
  by_cases c3 : x0 = 2
  · replace h := ot_ c3 h
    refine th_tabIn (off := 65) (tgt := 66) C 2 c3 dX8_spelling_1 (by decide) (by decide) (by decide) (by decide) ?_
    refine th_ldcS C T 3 rfl dX8_spelling_66 ?_
    obtain rfl := os1 h
    exact th_aret hQ C hr hk T (Nat.le_of_ble_eq_true rfl) (Nat.le_of_ble_eq_true rfl) dX8_spelling_68 (Or.inl ⟨_, rfl⟩)
  replace h := of_ c3 h
  by_cases c4 : x0 = 3
  · replace h := ot_ c4 h
    refine th_tabIn (off := 68) (tgt := 69) C 3 c4 dX8_spelling_1 (by decide) (by decide) (by decide) (by decide) ?_
    refine th_ldcS C T 4 rfl dX8_spelling_69 ?_
    obtain rfl := os1 h
    exact th_aret hQ C hr hk T (Nat.le_of_ble_eq_true rfl) (Nat.le_of_ble_eq_true rfl) dX8_spelling_71 (Or.inl ⟨_, rfl⟩)
  replace h := of_ c4 h
  by_cases c5 : x0 = 4
  · replace h := ot_ c5 h
    refine th_tabIn (off := 71) (tgt := 72) C 4 c5 dX8_spelling_1 (by decide) (by decide) (by decide) (by decide) ?_
    refine th_ldcS C T 5 rfl dX8_spelling_72 ?_
    obtain rfl := os1 h
    exact th_aret hQ C hr hk T (Nat.le_of_ble_eq_true rfl) (Nat.le_of_ble_eq_true rfl) dX8_spelling_74 (Or.inl ⟨_, rfl⟩)
  replace h := of_ c5 h
  by_cases c6 : x0 = 5
  · replace h := ot_ c6 h
    refine th_tabIn (off := 74) (tgt := 75) C 5 c6 dX8_spelling_1 (by decide) (by decide) (by decide) (by decide) ?_
    refine th_ldcS C T 6 rfl dX8_spelling_75 ?_
    obtain rfl := os1 h
    exact th_aret hQ C hr hk T (Nat.le_of_ble_eq_true rfl) (Nat.le_of_ble_eq_true rfl) dX8_spelling_77 (Or.inl ⟨_, rfl⟩)
  replace h := of_ c6 h
  by_cases c7 : x0 = 6
  · replace h := ot_ c7 h
    refine th_tabIn (off := 77) (tgt := 78) C 6 c7 dX8_spelling_1 (by decide) (by decide) (by decide) (by decide) ?_
    refine th_ldcS C T 7 rfl dX8_spelling_78 ?_
    obtain rfl := os1 h
    exact th_aret hQ C hr hk T (Nat.le_of_ble_eq_true rfl) (Nat.le_of_ble_eq_true rfl) dX8_spelling_80 (Or.inl ⟨_, rfl⟩)
  replace h := of_ c7 h
  by_cases c8 : x0 = 7
  · replace h := ot_ c8 h
    refine th_tabIn (off := 80) (tgt := 81) C 7 c8 dX8_spelling_1 (by decide) (by decide) (by decide) (by decide) ?_
    refine th_ldcS C T 8 rfl dX8_spelling_81 ?_
    obtain rfl := os1 h
    exact th_aret hQ C hr hk T (Nat.le_of_ble_eq_true rfl) (Nat.le_of_ble_eq_true rfl) dX8_spelling_83 (Or.inl ⟨_, rfl⟩)
  replace h := of_ c8 h
  by_cases c9 : x0 = 8
  · replace h := ot_ c9 h
    refine th_tabIn (off := 83) (tgt := 84) C 8 c9 dX8_spelling_1 (by decide) (by decide) (by decide) (by decide) ?_
    refine th_ldcS C T 9 rfl dX8_spelling_84 ?_
    obtain rfl := os1 h
    exact th_aret hQ C hr hk T (Nat.le_of_ble_eq_true rfl) (Nat.le_of_ble_eq_true rfl) dX8_spelling_86 (Or.inl ⟨_, rfl⟩)
  replace h := of_ c9 h
  by_cases c10 : x0 = 9
  · replace h := ot_ c10 h
    refine th_tabIn (off := 86) (tgt := 87) C 9 c10 dX8_spelling_1 (by decide) (by decide) (by decide) (by decide) ?_
    refine th_ldcS C T 10 rfl dX8_spelling_87 ?_
    obtain rfl := os1 h
    exact th_aret hQ C hr hk T (Nat.le_of_ble_eq_true rfl) (Nat.le_of_ble_eq_true rfl) dX8_spelling_89 (Or.inl ⟨_, rfl⟩)
  replace h := of_ c10 h
  by_cases c11 : x0 = 10
  · replace h := ot_ c11 h
    refine th_tabIn (off := 89) (tgt := 90) C 10 c11 dX8_spelling_1 (by decide) (by decide) (by decide) (by decide) ?_
    refine th_ldcS C T 11 rfl dX8_spelling_90 ?_
    obtain rfl := os1 h
    exact th_aret hQ C hr hk T (Nat.le_of_ble_eq_true rfl) (Nat.le_of_ble_eq_true rfl) dX8_spelling_92 (Or.inl ⟨_, rfl⟩)
  replace h := of_ c11 h
  have n12 := th_ne (n := 0) c1 (by decide)
  have n13 := th_ne (n := 1) c2 (by decide)
  have n14 := th_ne (n := 2) c3 (by decide)
  have n15 := th_ne (n := 3) c4 (by decide)
  have n16 := th_ne (n := 4) c5 (by decide)
  have n17 := th_ne (n := 5) c6 (by decide)
  have n18 := th_ne (n := 6) c7 (by decide)
  have n19 := th_ne (n := 7) c8 (by decide)
  have n20 := th_ne (n := 8) c9 (by decide)
  have n21 := th_ne (n := 9) c10 (by decide)
  have n22 := th_ne (n := 10) c11 (by decide)
  refine lv_tableOut (tgt := 93) hx hb dX8_spelling_1 (by omega) (by decide) ?_
  refine th_ldcS C T 12 rfl dX8_spelling_93 ?_
  obtain rfl := os1 h
  exact th_aret hQ C hr hk T (Nat.le_of_ble_eq_true rfl) (Nat.le_of_ble_eq_true rfl) dX8_spelling_95 (Or.inl ⟨_, rfl⟩)
