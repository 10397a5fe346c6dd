set_option maxRecDepth 100000 in
set_option maxHeartbeats 4000000 in
theorem c_X0_init {l : Launch} {G : th_G} {σ : th_S} {μ : th_M} {t : Nat} {x1 : Int32} {x2 : Int32}  {σ' : th_S} {μ' : th_M} (h : f_X0_init σ μ t x1 x2 = some (σ', μ')) : th_Met l G yX0_init cX0_init 3 none { frames := 1, cells := 2, slots := 12, locals := 80 } [.ref t, .int x1, .int x2] σ μ none σ' μ' := by
  refine th_ofW (by decide +kernel) (Nat.le_of_ble_eq_true rfl) ?_
  intro p e s m args below meth c ls Q hQ C hr hk hnm T hl
  have hx := C.1
  have hb := C.2.1
  have C : CallFix p m c cX0_init 3 s args th_ws RX0 := C
  have hl : lv_has ls 3 [(0, .ref t), (1, .int x1), (2, .int x2)] := hl
  unfold f_X0_init at h
  refine lv_aload_n hx hb dX0_init_0 rfl (lv_at hl 0 rfl) ?_
  refine W.objInit hx hb C.2.2.2.1 (C.2.2.2.2 _ w_357) (C.2.2.2.2 _ w_27) (C.2.2.2.2 _ w_28) rfl (by rw [C.2.2.1]; exact hl.1) rfl dX0_init_1 (Nat.le_of_ble_eq_true rfl) (Nat.le_of_ble_eq_true rfl) ?_
  refine W.eq (g2 := F0 m 4 ls []) rfl ?_
  refine lv_aload_n hx hb dX0_init_4 rfl (lv_at hl 0 rfl) ?_
  refine lv_bipush (v := 6) hx hb dX0_init_5 (by decide) ?_
  obtain ⟨a1, σ2, μ3, e4, h⟩ := ob3 h
  refine th_newa C T 6 e4 (by decide) (by decide) (by decide) w_66 (Nat.le_of_ble_eq_true rfl) (Nat.le_of_ble_eq_true rfl) dX0_init_7 (fun H T => ?_)
  refine W.eqc (c1 := 1) (s1 := 6) rfl rfl ?_
  obtain ⟨σ5, e6, h⟩ := ob_ h
  refine p_RX0_9 C T e6 hnm dX0_init_9 (fun H locs T => ?_)
  refine lv_aload_n hx hb dX0_init_12 rfl (lv_at hl 0 rfl) ?_
  refine lv_bipush (v := 6) hx hb dX0_init_13 (by decide) ?_
  obtain ⟨a7, σ8, μ9, e10, h⟩ := ob3 h
  refine th_newa C T 6 e10 (by decide) (by decide) (by decide) w_66 (Nat.le_of_ble_eq_true rfl) (Nat.le_of_ble_eq_true rfl) dX0_init_15 (fun H T => ?_)
  refine W.eqc (c1 := 2) (s1 := 12) rfl rfl ?_
  obtain ⟨σ11, e12, h⟩ := ob_ h
  refine p_RX0_15 C T e12 hnm dX0_init_17 (fun H locs T => ?_)
  refine lv_aload_n hx hb dX0_init_20 rfl (lv_at hl 0 rfl) ?_
  obtain ⟨a13, e14, h⟩ := ob_ h
  refine g_RX0_9 C T e14 dX0_init_21 ?_
  refine lv_iconst (v := 0) hx hb dX0_init_24 (by decide) ?_
  refine lv_iload_n hx hb dX0_init_25 rfl (lv_at hl 1 rfl) ?_
  refine lv_bipush (v := 100) hx hb dX0_init_26 (by decide) ?_
  refine lv_idiv hx hb dX0_init_28 (by decide) ?_
  obtain ⟨μ15, e16, h⟩ := ob_ h
  refine th_iastn C T e16 (by decide) (by decide) dX0_init_29 (fun H locs T => ?_)
  refine lv_aload_n hx hb dX0_init_30 rfl (lv_at hl 0 rfl) ?_
  obtain ⟨a17, e18, h⟩ := ob_ h
  refine g_RX0_9 C T e18 dX0_init_31 ?_
  refine lv_iconst (v := 3) hx hb dX0_init_34 (by decide) ?_
  refine lv_iload_n hx hb dX0_init_35 rfl (lv_at hl 1 rfl) ?_
  refine lv_bipush (v := 100) hx hb dX0_init_36 (by decide) ?_
  refine th_irem C dX0_init_38 (by decide) ?_
  obtain ⟨μ19, e20, h⟩ := ob_ h
  refine th_iastn C T e20 (by decide) (by decide) dX0_init_39 (fun H locs T => ?_)
  refine lv_aload_n hx hb dX0_init_40 rfl (lv_at hl 0 rfl) ?_
  obtain ⟨a21, e22, h⟩ := ob_ h
  refine g_RX0_9 C T e22 dX0_init_41 ?_
  refine lv_iconst (v := 2) hx hb dX0_init_44 (by decide) ?_
  refine lv_iload_n hx hb dX0_init_45 rfl (lv_at hl 2 rfl) ?_
  refine lv_sipush (v := 1000) hx hb dX0_init_46 (by decide) ?_
  refine lv_idiv hx hb dX0_init_49 (by decide) ?_
  obtain ⟨μ23, e24, h⟩ := ob_ h
  refine th_iastn C T e24 (by decide) (by decide) dX0_init_50 (fun H locs T => ?_)
  refine lv_aload_n hx hb dX0_init_51 rfl (lv_at hl 0 rfl) ?_
  obtain ⟨a25, e26, h⟩ := ob_ h
  refine g_RX0_9 C T e26 dX0_init_52 ?_
  refine lv_iconst (v := 1) hx hb dX0_init_55 (by decide) ?_
  refine lv_iload_n hx hb dX0_init_56 rfl (lv_at hl 2 rfl) ?_
  refine lv_sipush (v := 1000) hx hb dX0_init_57 (by decide) ?_
  refine th_irem C dX0_init_60 (by decide) ?_
  obtain ⟨μ27, e28, h⟩ := ob_ h
  refine th_iastn C T e28 (by decide) (by decide) dX0_init_61 (fun H locs T => ?_)
  refine lv_aload_n hx hb dX0_init_62 rfl (lv_at hl 0 rfl) ?_
  obtain ⟨a29, e30, h⟩ := ob_ h
  refine g_RX0_9 C T e30 dX0_init_63 ?_
  refine lv_iconst (v := 4) hx hb dX0_init_66 (by decide) ?_
  refine lv_iconst (v := 0) hx hb dX0_init_67 (by decide) ?_
  obtain ⟨μ31, e32, h⟩ := ob_ h
  refine th_iastn C T e32 (by decide) (by decide) dX0_init_68 (fun H locs T => ?_)
  refine lv_aload_n hx hb dX0_init_69 rfl (lv_at hl 0 rfl) ?_
  obtain ⟨a33, e34, h⟩ := ob_ h
  refine g_RX0_9 C T e34 dX0_init_70 ?_
  refine lv_iconst (v := 5) hx hb dX0_init_73 (by decide) ?_
  refine lv_iconst (v := -1) hx hb dX0_init_74 (by decide) ?_
  obtain ⟨μ35, e36, h⟩ := ob_ h
  refine th_iastn C T e36 (by decide) (by decide) dX0_init_75 (fun H locs T => ?_)
  obtain ⟨rfl, rfl⟩ := os2 h
  exact th_vret hQ C hr hk T (Nat.le_of_ble_eq_true rfl) (Nat.le_of_ble_eq_true rfl) dX0_init_76
set_option maxRecDepth 100000 in
set_option maxHeartbeats 4000000 in
theorem c_X0_kind {l : Launch} {G : th_G} {σ : th_S} {μ : th_M} {t : Nat} {r : Int32} (h : f_X0_kind σ μ t = some r) : th_Met l G yX0_kind cX0_kind 1 (some FieldType.int) { frames := 0, cells := 0, slots := 0, locals := 0 } [.ref t] σ μ (some (.int r)) σ μ := by
  refine th_ofW (by decide +kernel) (Nat.le_of_ble_eq_true rfl) ?_
  intro p e s m args below meth c ls Q hQ C hr hk hnm T hl
  have hx := C.1
  have hb := C.2.1
  have C : CallFix p m c cX0_kind 1 s args th_ws RX0 := C
  have hl : lv_has ls 1 [(0, .ref t)] := hl
  unfold f_X0_kind at h
  refine lv_iconst (v := 0) hx hb dX0_kind_0 (by decide) ?_
  obtain rfl := os1 h
  exact th_iret hQ C hr hk T (Nat.le_of_ble_eq_true rfl) (Nat.le_of_ble_eq_true rfl) dX0_kind_1
set_option maxRecDepth 100000 in
set_option maxHeartbeats 4000000 in
theorem c_X0_rows {l : Launch} {G : th_G} {σ : th_S} {μ : th_M} {t : Nat} {x1 : Int32} {r : Int32} (h : f_X0_rows σ μ t x1 = some r) : th_Met l G yX0_rows cX0_rows 2 (some FieldType.int) { frames := 0, cells := 0, slots := 0, locals := 0 } [.ref t, .int x1] σ μ (some (.int r)) σ μ := by
  refine th_ofW (by decide +kernel) (Nat.le_of_ble_eq_true rfl) ?_
  intro p e s m args below meth c ls Q hQ C hr hk hnm T hl
  have hx := C.1
  have hb := C.2.1
  have C : CallFix p m c cX0_rows 2 s args th_ws RX0 := C
  have hl : lv_has ls 2 [(0, .ref t), (1, .int x1)] := hl
  unfold f_X0_rows at h
  refine lv_iconst (v := 2) hx hb dX0_rows_0 (by decide) ?_
  refine lv_iload_n hx hb dX0_rows_1 rfl (lv_at hl 1 rfl) ?_
  refine lv_iconst (v := 2) hx hb dX0_rows_2 (by decide) ?_
  refine lv_idiv hx hb dX0_rows_3 (by decide) ?_
  refine lv_iadd hx hb dX0_rows_4 ?_
  obtain rfl := os1 h
  exact th_iret hQ C hr hk T (Nat.le_of_ble_eq_true rfl) (Nat.le_of_ble_eq_true rfl) dX0_rows_5
set_option maxRecDepth 100000 in
set_option maxHeartbeats 4000000 in
theorem c_X0_hears {l : Launch} {G : th_G} {σ : th_S} {μ : th_M} {t : Nat} {x1 : Int32} {r : Int32} (h : f_X0_hears σ μ t x1 = some r) : th_Met l G yX0_hears cX0_hears 2 (some FieldType.int) { frames := 0, cells := 0, slots := 0, locals := 0 } [.ref t, .int x1] σ μ (some (.int r)) σ μ := by
  refine th_ofW (by decide +kernel) (Nat.le_of_ble_eq_true rfl) ?_
  intro p e s m args below meth c ls Q hQ C hr hk hnm T hl
  have hx := C.1
  have hb := C.2.1
  have C : CallFix p m c cX0_hears 2 s args th_ws RX0 := C
  have hl : lv_has ls 2 [(0, .ref t), (1, .int x1)] := hl
  unfold f_X0_hears at h
  refine lv_bipush (v := 12) hx hb dX0_hears_0 (by decide) ?_
  refine lv_iload_n hx hb dX0_hears_2 rfl (lv_at hl 1 rfl) ?_
  refine lv_isub hx hb dX0_hears_3 ?_
  obtain rfl := os1 h
  exact th_iret hQ C hr hk T (Nat.le_of_ble_eq_true rfl) (Nat.le_of_ble_eq_true rfl) dX0_hears_4
set_option maxRecDepth 100000 in
set_option maxHeartbeats 4000000 in
theorem c_X0_owes {l : Launch} {G : th_G} {σ : th_S} {μ : th_M} {t : Nat} {x1 : Int32} {x2 : Int32} {r : Int32} (h : f_X0_owes σ μ t x1 x2 = some r) : th_Met l G yX0_owes cX0_owes 3 (some FieldType.int) { frames := 0, cells := 0, slots := 0, locals := 0 } [.ref t, .int x1, .int x2] σ μ (some (.int r)) σ μ := by
  refine th_ofW (by decide +kernel) (Nat.le_of_ble_eq_true rfl) ?_
  intro p e s m args below meth c ls Q hQ C hr hk hnm T hl
  have hx := C.1
  have hb := C.2.1
  have C : CallFix p m c cX0_owes 3 s args th_ws RX0 := C
  have hl : lv_has ls 3 [(0, .ref t), (1, .int x1), (2, .int x2)] := hl
  unfold f_X0_owes at h
  refine lv_iload_n hx hb dX0_owes_0 rfl (lv_at hl 1 rfl) ?_
  refine lv_bipush (v := 14) hx hb dX0_owes_1 (by decide) ?_
  refine lv_iadd hx hb dX0_owes_3 ?_
  refine lv_bipush (v := 15) hx hb dX0_owes_4 (by decide) ?_
  refine lv_idiv hx hb dX0_owes_6 (by decide) ?_
  refine lv_iload_n hx hb dX0_owes_7 rfl (lv_at hl 2 rfl) ?_
  refine lv_imul hx hb dX0_owes_8 ?_
  obtain rfl := os1 h
  exact th_iret hQ C hr hk T (Nat.le_of_ble_eq_true rfl) (Nat.le_of_ble_eq_true rfl) dX0_owes_9
set_option maxRecDepth 100000 in
set_option maxHeartbeats 4000000 in
theorem c_X4_rows {l : Launch} {G : th_G} {σ : th_S} {μ : th_M} {t : Nat} {x1 : Int32} {r : Int32} (h : f_X4_rows σ μ t x1 = some r) : th_Met l G yX4_rows cX4_rows 2 (some FieldType.int) { frames := 1, cells := 0, slots := 0, locals := 21 } [.ref t, .int x1] σ μ (some (.int r)) σ μ := by
  refine th_ofW (by decide +kernel) (Nat.le_of_ble_eq_true rfl) ?_
  intro p e s m args below meth c ls Q hQ C hr hk hnm T hl
  have hx := C.1
  have hb := C.2.1
  have C : CallFix p m c cX4_rows 2 s args th_ws RX4 := C
  have hl : lv_has ls 2 [(0, .ref t), (1, .int x1)] := hl
  unfold f_X4_rows at h
  refine lv_aload_n hx hb dX4_rows_0 rfl (lv_at hl 0 rfl) ?_
  refine lv_iload_n hx hb dX4_rows_1 rfl (lv_at hl 1 rfl) ?_
  obtain ⟨k1, h⟩ := ogg h
  obtain ⟨v2, e3, h⟩ := ob_ h
  refine th_callPB (As := [.int x1]) (rest := []) C T (c_X0_rows e3) k_RX4_7 k1 rfl hl.1 rfl (st1 := [.int v2]) rfl (cells1 := 0) rfl (slots1 := 0) rfl (Nat.le_of_ble_eq_true rfl) ⟨Nat.le_of_ble_eq_true rfl, Nat.le_of_ble_eq_true rfl⟩ ⟨Nat.le_of_ble_eq_true rfl, Nat.le_of_ble_eq_true rfl⟩ dX4_rows_2 (fun H locs T => ?_)
  refine lv_iload_n hx hb dX4_rows_5 rfl (lv_at hl 1 rfl) ?_
  refine lv_iadd hx hb dX4_rows_6 ?_
  obtain rfl := os1 h
  exact th_iret hQ C hr hk T (Nat.le_of_ble_eq_true rfl) (Nat.le_of_ble_eq_true rfl) dX4_rows_7
set_option maxRecDepth 100000 in
set_option maxHeartbeats 4000000 in
theorem c_X7_rows {l : Launch} {G : th_G} {σ : th_S} {μ : th_M} {t : Nat} {x1 : Int32} {r : Int32} (h : f_X7_rows σ μ t x1 = some r) : th_Met l G yX7_rows cX7_rows 2 (some FieldType.int) { frames := 1, cells := 0, slots := 0, locals := 21 } [.ref t, .int x1] σ μ (some (.int r)) σ μ := by
  refine th_ofW (by decide +kernel) (Nat.le_of_ble_eq_true rfl) ?_
  intro p e s m args below meth c ls Q hQ C hr hk hnm T hl
  have hx := C.1
  have hb := C.2.1
  have C : CallFix p m c cX7_rows 2 s args th_ws RX7 := C
  have hl : lv_has ls 2 [(0, .ref t), (1, .int x1)] := hl
  unfold f_X7_rows at h
  refine lv_aload_n hx hb dX7_rows_0 rfl (lv_at hl 0 rfl) ?_
  refine lv_iload_n hx hb dX7_rows_1 rfl (lv_at hl 1 rfl) ?_
  obtain ⟨k1, h⟩ := ogg h
  obtain ⟨v2, e3, h⟩ := ob_ h
  refine th_callPB (As := [.int x1]) (rest := []) C T (c_X0_rows e3) k_RX7_9 k1 rfl hl.1 rfl (st1 := [.int v2]) rfl (cells1 := 0) rfl (slots1 := 0) rfl (Nat.le_of_ble_eq_true rfl) ⟨Nat.le_of_ble_eq_true rfl, Nat.le_of_ble_eq_true rfl⟩ ⟨Nat.le_of_ble_eq_true rfl, Nat.le_of_ble_eq_true rfl⟩ dX7_rows_2 (fun H locs T => ?_)
  refine lv_iconst (v := 1) hx hb dX7_rows_5 (by decide) ?_
  refine lv_isub hx hb dX7_rows_6 ?_
  obtain rfl := os1 h
  exact th_iret hQ C hr hk T (Nat.le_of_ble_eq_true rfl) (Nat.le_of_ble_eq_true rfl) dX7_rows_7
set_option maxRecDepth 100000 in
set_option maxHeartbeats 4000000 in
theorem c_X2_rows {l : Launch} {G : th_G} {σ : th_S} {μ : th_M} {t : Nat} {x1 : Int32} {r : Int32} (h : f_X2_rows σ μ t x1 = some r) : th_Met l G yX2_rows cX2_rows 2 (some FieldType.int) { frames := 2, cells := 0, slots := 0, locals := 42 } [.ref t, .int x1] σ μ (some (.int r)) σ μ := by
  refine th_ofW (by decide +kernel) (Nat.le_of_ble_eq_true rfl) ?_
  intro p e s m args below meth c ls Q hQ C hr hk hnm T hl
  have hx := C.1
  have hb := C.2.1
  have C : CallFix p m c cX2_rows 2 s args th_ws RX2 := C
  have hl : lv_has ls 2 [(0, .ref t), (1, .int x1)] := hl
  unfold f_X2_rows at h
  refine lv_aload_n hx hb dX2_rows_0 rfl (lv_at hl 0 rfl) ?_
  refine lv_iload_n hx hb dX2_rows_1 rfl (lv_at hl 1 rfl) ?_
  obtain ⟨k1, h⟩ := ogg h
  obtain ⟨v2, e3, h⟩ := ob_ h
  refine th_callPB (As := [.int x1]) (rest := []) C T (c_X7_rows e3) k_RX2_9 k1 rfl hl.1 rfl (st1 := [.int v2]) rfl (cells1 := 0) rfl (slots1 := 0) rfl (Nat.le_of_ble_eq_true rfl) ⟨Nat.le_of_ble_eq_true rfl, Nat.le_of_ble_eq_true rfl⟩ ⟨Nat.le_of_ble_eq_true rfl, Nat.le_of_ble_eq_true rfl⟩ dX2_rows_2 (fun H locs T => ?_)
  refine lv_aload_n hx hb dX2_rows_5 rfl (lv_at hl 0 rfl) ?_
  obtain ⟨a4, e5, h⟩ := ob_ h
  refine g_RX2_13 C T e5 dX2_rows_6 ?_
  refine lv_iconst (v := 3) hx hb dX2_rows_9 (by decide) ?_
  obtain ⟨v6, e7, h⟩ := ob_ h
  refine th_ialdn C T e7 (by decide) (by decide) dX2_rows_10 ?_
  refine lv_iadd hx hb dX2_rows_11 ?_
  obtain rfl := os1 h
  exact th_iret hQ C hr hk T (Nat.le_of_ble_eq_true rfl) (Nat.le_of_ble_eq_true rfl) dX2_rows_12
set_option maxRecDepth 100000 in
set_option maxHeartbeats 4000000 in
theorem c_X3_rows {l : Launch} {G : th_G} {σ : th_S} {μ : th_M} {t : Nat} {x1 : Int32} {r : Int32} (h : f_X3_rows σ μ t x1 = some r) : th_Met l G yX3_rows cX3_rows 2 (some FieldType.int) { frames := 1, cells := 0, slots := 0, locals := 21 } [.ref t, .int x1] σ μ (some (.int r)) σ μ := by
  refine th_ofW (by decide +kernel) (Nat.le_of_ble_eq_true rfl) ?_
  intro p e s m args below meth c ls Q hQ C hr hk hnm T hl
  have hx := C.1
  have hb := C.2.1
  have C : CallFix p m c cX3_rows 2 s args th_ws RX3 := C
  have hl : lv_has ls 2 [(0, .ref t), (1, .int x1)] := hl
  unfold f_X3_rows at h
  refine lv_iconst (v := 2) hx hb dX3_rows_0 (by decide) ?_
  refine lv_aload_n hx hb dX3_rows_1 rfl (lv_at hl 0 rfl) ?_
  refine lv_iload_n hx hb dX3_rows_2 rfl (lv_at hl 1 rfl) ?_
  obtain ⟨k1, h⟩ := ogg h
  obtain ⟨v2, e3, h⟩ := ob_ h
  refine th_callPB (As := [.int x1]) (rest := [.int 2]) C T (c_X0_rows e3) k_RX3_9 k1 rfl hl.1 rfl (st1 := [.int v2, .int 2]) rfl (cells1 := 0) rfl (slots1 := 0) rfl (Nat.le_of_ble_eq_true rfl) ⟨Nat.le_of_ble_eq_true rfl, Nat.le_of_ble_eq_true rfl⟩ ⟨Nat.le_of_ble_eq_true rfl, Nat.le_of_ble_eq_true rfl⟩ dX3_rows_3 (fun H locs T => ?_)
  refine lv_imul hx hb dX3_rows_6 ?_
  obtain rfl := os1 h
  exact th_iret hQ C hr hk T (Nat.le_of_ble_eq_true rfl) (Nat.le_of_ble_eq_true rfl) dX3_rows_7
section TV
variable {p : Program} {l : Launch} {e : Env} {R : Room} {s : State} {m : MethodId} {args : Array Value} {below : List Frame} {meth : Method} {c : Code} {H : Heap} {locs : List Loc} {cells slots : Nat} {Q : State → Prop}
variable {cc : ByteArray} {pc nL : Nat} {ls : Array Slot} {rest : List Value} {G : th_G} {σ : th_S} {μ : th_M}
set_option maxRecDepth 100000 in
set_option maxHeartbeats 4000000 in
theorem vc_RX0_18 (C : CallFix p m c cc nL s args th_ws RX0) (T : th_R G s H locs σ μ) {t : Nat} {x1 : Int32} {r : Int32} (h : fD_rows σ μ t x1 = some r) (hls : ls.size = nL) {st1 : List Value} (hst1 : (some (.int r)).toList ++ rest = st1) (h8 : (rest.map fun v => v.category).sum ≤ 8) (hR : 2 + 1 ≤ R.frames ∧ 63 ≤ R.locals) (hf : cells + 0 ≤ R.cells ∧ slots + 0 ≤ R.slots) (hdg : decode cc pc = .ok (.invokevirtual 18, 3))
    (kk : ∀ (H : Heap) (locs : List Loc), th_R G s H locs σ μ → W p l e R s m args below meth c H locs cells slots Q (F0 m (pc + 3) ls st1)) : W p l e R s m args below meth c H locs cells slots Q (F0 m pc ls ([.int x1].reverse ++ .ref t :: rest)) := by
  unfold fD_rows at h
  by_cases h0 : σ.1 t = 0
  · replace h := ot_ h0 h
    exact th_callV (n := 1) (As := [.int x1]) C T (c_X0_rows h) ⟨w_455, w_456, w_457, w_14, w_476, by decide +kernel⟩ 0 rfl rfl (by decide) h0 rfl hls rfl hst1 rfl rfl h8 ⟨by have := hR.1; show 0 + 1 ≤ _; omega, by have := hR.2; show 8 + (2 + 11) + 0 ≤ _; omega⟩ hf hdg kk
  replace h := of_ h0 h
  by_cases h1 : σ.1 t = 1
  · replace h := ot_ h1 h
    exact th_callU (n := 1) (As := [.int x1]) C T (c_X4_rows h) (x := yX0_rows) (Cn := RX1) (owner := RX0) ⟨w_455, w_458, w_459, w_460, w_16, w_461, Or.inr ⟨w_456, _, _, _, w_476⟩, by decide +kernel⟩ 1 rfl rfl (by decide) h1 rfl hls rfl hst1 rfl rfl h8 ⟨by have := hR.1; show 1 + 1 ≤ _; omega, by have := hR.2; show 8 + (2 + 11) + 21 ≤ _; omega⟩ hf hdg kk
  replace h := of_ h1 h
  by_cases h2 : σ.1 t = 2
  · replace h := ot_ h2 h
    exact th_callU (n := 1) (As := [.int x1]) C T (c_X2_rows h) (x := yX0_rows) (Cn := RX2) (owner := RX0) ⟨w_455, w_458, w_463, w_464, w_17, w_465, Or.inr ⟨w_456, _, _, _, w_476⟩, by decide +kernel⟩ 2 rfl rfl (by decide) h2 rfl hls rfl hst1 rfl rfl h8 ⟨by have := hR.1; show 2 + 1 ≤ _; omega, by have := hR.2; show 8 + (2 + 11) + 42 ≤ _; omega⟩ hf hdg kk
  replace h := of_ h2 h
  by_cases h3 : σ.1 t = 3
  · replace h := ot_ h3 h
    exact th_callU (n := 1) (As := [.int x1]) C T (c_X3_rows h) (x := yX0_rows) (Cn := RX3) (owner := RX0) ⟨w_455, w_458, w_470, w_471, w_19, w_472, Or.inr ⟨w_456, _, _, _, w_476⟩, by decide +kernel⟩ 3 rfl rfl (by decide) h3 rfl hls rfl hst1 rfl rfl h8 ⟨by have := hR.1; show 1 + 1 ≤ _; omega, by have := hR.2; show 8 + (2 + 11) + 21 ≤ _; omega⟩ hf hdg kk
  replace h := of_ h3 h
  by_cases h4 : σ.1 t = 4
  · replace h := ot_ h4 h
    exact th_callU (n := 1) (As := [.int x1]) C T (c_X4_rows h) (x := yX0_rows) (Cn := RX4) (owner := RX0) ⟨w_455, w_458, w_474, w_460, w_16, w_461, Or.inr ⟨w_456, _, _, _, w_476⟩, by decide +kernel⟩ 4 rfl rfl (by decide) h4 rfl hls rfl hst1 rfl rfl h8 ⟨by have := hR.1; show 1 + 1 ≤ _; omega, by have := hR.2; show 8 + (2 + 11) + 21 ≤ _; omega⟩ hf hdg kk
  replace h := of_ h4 h
  by_cases h7 : σ.1 t = 7
  · replace h := ot_ h7 h
    exact th_callU (n := 1) (As := [.int x1]) C T (c_X7_rows h) (x := yX0_rows) (Cn := RX7) (owner := RX0) ⟨w_455, w_458, w_475, w_467, w_15, w_468, Or.inr ⟨w_456, _, _, _, w_476⟩, by decide +kernel⟩ 7 rfl rfl (by decide) h7 rfl hls rfl hst1 rfl rfl h8 ⟨by have := hR.1; show 1 + 1 ≤ _; omega, by have := hR.2; show 8 + (2 + 11) + 21 ≤ _; omega⟩ hf hdg kk
  replace h := of_ h7 h
  cases h
end TV
set_option maxRecDepth 100000 in
set_option maxHeartbeats 4000000 in
theorem c_X0_rowsBy {l : Launch} {G : th_G} {σ : th_S} {μ : th_M} {t : Nat} {x1 : Int32} {r : Int32} (h : f_X0_rowsBy σ μ t x1 = some r) : th_Met l G yX0_rowsBy cX0_rowsBy 2 (some FieldType.int) { frames := 3, cells := 0, slots := 0, locals := 80 } [.ref t, .int x1] σ μ (some (.int r)) σ μ := by
  refine th_ofW (by decide +kernel) (Nat.le_of_ble_eq_true rfl) ?_
  intro p e s m args below meth c ls Q hQ C hr hk hnm T hl
  have hx := C.1
  have hb := C.2.1
  have C : CallFix p m c cX0_rowsBy 2 s args th_ws RX0 := C
  have hl : lv_has ls 2 [(0, .ref t), (1, .int x1)] := hl
  unfold f_X0_rowsBy at h
  refine lv_iconst (v := 1) hx hb dX0_rowsBy_0 (by decide) ?_
  refine lv_aload_n hx hb dX0_rowsBy_1 rfl (lv_at hl 0 rfl) ?_
  refine lv_iload_n hx hb dX0_rowsBy_2 rfl (lv_at hl 1 rfl) ?_
  obtain ⟨v1, e2, h⟩ := ob_ h
  refine vc_RX0_18 (rest := [.int 1]) C T e2 hl.1 (st1 := [.int v1, .int 1]) rfl (Nat.le_of_ble_eq_true rfl) ⟨Nat.le_of_ble_eq_true rfl, Nat.le_of_ble_eq_true rfl⟩ ⟨Nat.le_of_ble_eq_true rfl, Nat.le_of_ble_eq_true rfl⟩ dX0_rowsBy_3 (fun H locs T => ?_)
  refine th_max C hl.1 w_477 w_478 w_11 w_479 (Nat.le_of_ble_eq_true rfl) (Nat.le_of_ble_eq_true rfl) (Nat.zero_le _) (Nat.zero_le _) dX0_rowsBy_6 ?_
  obtain rfl := os1 h
  exact th_iret hQ C hr hk T (Nat.le_of_ble_eq_true rfl) (Nat.le_of_ble_eq_true rfl) dX0_rowsBy_9
section TV
variable {p : Program} {l : Launch} {e : Env} {R : Room} {s : State} {m : MethodId} {args : Array Value} {below : List Frame} {meth : Method} {c : Code} {H : Heap} {locs : List Loc} {cells slots : Nat} {Q : State → Prop}
variable {cc : ByteArray} {pc nL : Nat} {ls : Array Slot} {rest : List Value} {G : th_G} {σ : th_S} {μ : th_M}
set_option maxRecDepth 100000 in
set_option maxHeartbeats 4000000 in
theorem vc_RX10_108 (C : CallFix p m c cc nL s args th_ws RX10) (T : th_R G s H locs σ μ) {t : Nat} {x1 : Int32} {r : Int32} (h : fD_rowsBy σ μ t x1 = some r) (hls : ls.size = nL) {st1 : List Value} (hst1 : (some (.int r)).toList ++ rest = st1) (h8 : (rest.map fun v => v.category).sum ≤ 8) (hR : 3 + 1 ≤ R.frames ∧ 101 ≤ R.locals) (hf : cells + 0 ≤ R.cells ∧ slots + 0 ≤ R.slots) (hdg : decode cc pc = .ok (.invokevirtual 108, 3))
    (kk : ∀ (H : Heap) (locs : List Loc), th_R G s H locs σ μ → W p l e R s m args below meth c H locs cells slots Q (F0 m (pc + 3) ls st1)) : W p l e R s m args below meth c H locs cells slots Q (F0 m pc ls ([.int x1].reverse ++ .ref t :: rest)) := by
  unfold fD_rowsBy at h
  by_cases h0 : σ.1 t = 0
  · replace h := ot_ h0 h
    exact th_callV (n := 1) (As := [.int x1]) C T (c_X0_rowsBy h) ⟨w_445, w_446, w_447, w_14, w_454, by decide +kernel⟩ 0 rfl rfl (by decide) h0 rfl hls rfl hst1 rfl rfl h8 ⟨by have := hR.1; show 3 + 1 ≤ _; omega, by have := hR.2; show 8 + (2 + 11) + 80 ≤ _; omega⟩ hf hdg kk
  replace h := of_ h0 h
  by_cases h1 : σ.1 t = 1
  · replace h := ot_ h1 h
    exact th_callU (n := 1) (As := [.int x1]) C T (c_X0_rowsBy h) (x := yX0_rowsBy) (Cn := RX1) (owner := RX0) ⟨w_445, w_448, w_449, w_446, w_14, w_454, Or.inl rfl, by decide +kernel⟩ 1 rfl rfl (by decide) h1 rfl hls rfl hst1 rfl rfl h8 ⟨by have := hR.1; show 3 + 1 ≤ _; omega, by have := hR.2; show 8 + (2 + 11) + 80 ≤ _; omega⟩ hf hdg kk
  replace h := of_ h1 h
  by_cases h2 : σ.1 t = 2
  · replace h := ot_ h2 h
    exact th_callU (n := 1) (As := [.int x1]) C T (c_X0_rowsBy h) (x := yX0_rowsBy) (Cn := RX2) (owner := RX0) ⟨w_445, w_448, w_450, w_446, w_14, w_454, Or.inl rfl, by decide +kernel⟩ 2 rfl rfl (by decide) h2 rfl hls rfl hst1 rfl rfl h8 ⟨by have := hR.1; show 3 + 1 ≤ _; omega, by have := hR.2; show 8 + (2 + 11) + 80 ≤ _; omega⟩ hf hdg kk
  replace h := of_ h2 h
  by_cases h3 : σ.1 t = 3
  · replace h := ot_ h3 h
    exact th_callU (n := 1) (As := [.int x1]) C T (c_X0_rowsBy h) (x := yX0_rowsBy) (Cn := RX3) (owner := RX0) ⟨w_445, w_448, w_451, w_446, w_14, w_454, Or.inl rfl, by decide +kernel⟩ 3 rfl rfl (by decide) h3 rfl hls rfl hst1 rfl rfl h8 ⟨by have := hR.1; show 3 + 1 ≤ _; omega, by have := hR.2; show 8 + (2 + 11) + 80 ≤ _; omega⟩ hf hdg kk
  replace h := of_ h3 h
  by_cases h4 : σ.1 t = 4
  · replace h := ot_ h4 h
    exact th_callU (n := 1) (As := [.int x1]) C T (c_X0_rowsBy h) (x := yX0_rowsBy) (Cn := RX4) (owner := RX0) ⟨w_445, w_448, w_452, w_446, w_14, w_454, Or.inl rfl, by decide +kernel⟩ 4 rfl rfl (by decide) h4 rfl hls rfl hst1 rfl rfl h8 ⟨by have := hR.1; show 3 + 1 ≤ _; omega, by have := hR.2; show 8 + (2 + 11) + 80 ≤ _; omega⟩ hf hdg kk
  replace h := of_ h4 h
  by_cases h7 : σ.1 t = 7
  · replace h := ot_ h7 h
    exact th_callU (n := 1) (As := [.int x1]) C T (c_X0_rowsBy h) (x := yX0_rowsBy) (Cn := RX7) (owner := RX0) ⟨w_445, w_448, w_453, w_446, w_14, w_454, Or.inl rfl, by decide +kernel⟩ 7 rfl rfl (by decide) h7 rfl hls rfl hst1 rfl rfl h8 ⟨by have := hR.1; show 3 + 1 ≤ _; omega, by have := hR.2; show 8 + (2 + 11) + 80 ≤ _; omega⟩ hf hdg kk
  replace h := of_ h7 h
  cases h
end TV
set_option maxRecDepth 100000 in
set_option maxHeartbeats 4000000 in
theorem c_X4_hears {l : Launch} {G : th_G} {σ : th_S} {μ : th_M} {t : Nat} {x1 : Int32} {r : Int32} (h : f_X4_hears σ μ t x1 = some r) : th_Met l G yX4_hears cX4_hears 2 (some FieldType.int) { frames := 1, cells := 0, slots := 0, locals := 21 } [.ref t, .int x1] σ μ (some (.int r)) σ μ := by
  refine th_ofW (by decide +kernel) (Nat.le_of_ble_eq_true rfl) ?_
  intro p e s m args below meth c ls Q hQ C hr hk hnm T hl
  have hx := C.1
  have hb := C.2.1
  have C : CallFix p m c cX4_hears 2 s args th_ws RX4 := C
  have hl : lv_has ls 2 [(0, .ref t), (1, .int x1)] := hl
  unfold f_X4_hears at h
  refine lv_aload_n hx hb dX4_hears_0 rfl (lv_at hl 0 rfl) ?_
  refine lv_iload_n hx hb dX4_hears_1 rfl (lv_at hl 1 rfl) ?_
  obtain ⟨k1, h⟩ := ogg h
  obtain ⟨v2, e3, h⟩ := ob_ h
  refine th_callPB (As := [.int x1]) (rest := []) C T (c_X0_hears e3) k_RX4_11 k1 rfl hl.1 rfl (st1 := [.int v2]) rfl (cells1 := 0) rfl (slots1 := 0) rfl (Nat.le_of_ble_eq_true rfl) ⟨Nat.le_of_ble_eq_true rfl, Nat.le_of_ble_eq_true rfl⟩ ⟨Nat.le_of_ble_eq_true rfl, Nat.le_of_ble_eq_true rfl⟩ dX4_hears_2 (fun H locs T => ?_)
  refine lv_iconst (v := 3) hx hb dX4_hears_5 (by decide) ?_
  refine lv_isub hx hb dX4_hears_6 ?_
  obtain rfl := os1 h
  exact th_iret hQ C hr hk T (Nat.le_of_ble_eq_true rfl) (Nat.le_of_ble_eq_true rfl) dX4_hears_7
set_option maxRecDepth 100000 in
set_option maxHeartbeats 4000000 in
theorem c_X1_hears {l : Launch} {G : th_G} {σ : th_S} {μ : th_M} {t : Nat} {x1 : Int32} {r : Int32} (h : f_X1_hears σ μ t x1 = some r) : th_Met l G yX1_hears cX1_hears 2 (some FieldType.int) { frames := 2, cells := 0, slots := 0, locals := 42 } [.ref t, .int x1] σ μ (some (.int r)) σ μ := by
  refine th_ofW (by decide +kernel) (Nat.le_of_ble_eq_true rfl) ?_
  intro p e s m args below meth c ls Q hQ C hr hk hnm T hl
  have hx := C.1
  have hb := C.2.1
  have C : CallFix p m c cX1_hears 2 s args th_ws RX1 := C
  have hl : lv_has ls 2 [(0, .ref t), (1, .int x1)] := hl
  unfold f_X1_hears at h
  refine lv_aload_n hx hb dX1_hears_0 rfl (lv_at hl 0 rfl) ?_
  refine lv_iload_n hx hb dX1_hears_1 rfl (lv_at hl 1 rfl) ?_
  obtain ⟨k1, h⟩ := ogg h
  obtain ⟨v2, e3, h⟩ := ob_ h
  refine th_callPB (As := [.int x1]) (rest := []) C T (c_X4_hears e3) k_RX1_7 k1 rfl hl.1 rfl (st1 := [.int v2]) rfl (cells1 := 0) rfl (slots1 := 0) rfl (Nat.le_of_ble_eq_true rfl) ⟨Nat.le_of_ble_eq_true rfl, Nat.le_of_ble_eq_true rfl⟩ ⟨Nat.le_of_ble_eq_true rfl, Nat.le_of_ble_eq_true rfl⟩ dX1_hears_2 (fun H locs T => ?_)
  refine lv_iconst (v := 2) hx hb dX1_hears_5 (by decide) ?_
  refine lv_idiv hx hb dX1_hears_6 (by decide) ?_
  obtain rfl := os1 h
  exact th_iret hQ C hr hk T (Nat.le_of_ble_eq_true rfl) (Nat.le_of_ble_eq_true rfl) dX1_hears_7
set_option maxRecDepth 100000 in
set_option maxHeartbeats 4000000 in
theorem c_X7_hears {l : Launch} {G : th_G} {σ : th_S} {μ : th_M} {t : Nat} {x1 : Int32} {r : Int32} (h : f_X7_hears σ μ t x1 = some r) : th_Met l G yX7_hears cX7_hears 2 (some FieldType.int) { frames := 1, cells := 0, slots := 0, locals := 21 } [.ref t, .int x1] σ μ (some (.int r)) σ μ := by
  refine th_ofW (by decide +kernel) (Nat.le_of_ble_eq_true rfl) ?_
  intro p e s m args below meth c ls Q hQ C hr hk hnm T hl
  have hx := C.1
  have hb := C.2.1
  have C : CallFix p m c cX7_hears 2 s args th_ws RX7 := C
  have hl : lv_has ls 2 [(0, .ref t), (1, .int x1)] := hl
  unfold f_X7_hears at h
  refine lv_aload_n hx hb dX7_hears_0 rfl (lv_at hl 0 rfl) ?_
  refine lv_iload_n hx hb dX7_hears_1 rfl (lv_at hl 1 rfl) ?_
  obtain ⟨k1, h⟩ := ogg h
  obtain ⟨v2, e3, h⟩ := ob_ h
  refine th_callPB (As := [.int x1]) (rest := []) C T (c_X0_hears e3) k_RX7_13 k1 rfl hl.1 rfl (st1 := [.int v2]) rfl (cells1 := 0) rfl (slots1 := 0) rfl (Nat.le_of_ble_eq_true rfl) ⟨Nat.le_of_ble_eq_true rfl, Nat.le_of_ble_eq_true rfl⟩ ⟨Nat.le_of_ble_eq_true rfl, Nat.le_of_ble_eq_true rfl⟩ dX7_hears_2 (fun H locs T => ?_)
  refine lv_aload_n hx hb dX7_hears_5 rfl (lv_at hl 0 rfl) ?_
  obtain ⟨a4, e5, h⟩ := ob_ h
  refine g_RX7_16 C T e5 dX7_hears_6 ?_
  refine lv_iconst (v := 3) hx hb dX7_hears_9 (by decide) ?_
  obtain ⟨v6, e7, h⟩ := ob_ h
  refine th_ialdn C T e7 (by decide) (by decide) dX7_hears_10 ?_
  refine lv_iadd hx hb dX7_hears_11 ?_
  obtain rfl := os1 h
  exact th_iret hQ C hr hk T (Nat.le_of_ble_eq_true rfl) (Nat.le_of_ble_eq_true rfl) dX7_hears_12
set_option maxRecDepth 100000 in
set_option maxHeartbeats 4000000 in
theorem c_X3_hears {l : Launch} {G : th_G} {σ : th_S} {μ : th_M} {t : Nat} {x1 : Int32} {r : Int32} (h : f_X3_hears σ μ t x1 = some r) : th_Met l G yX3_hears cX3_hears 2 (some FieldType.int) { frames := 1, cells := 0, slots := 0, locals := 21 } [.ref t, .int x1] σ μ (some (.int r)) σ μ := by
  refine th_ofW (by decide +kernel) (Nat.le_of_ble_eq_true rfl) ?_
  intro p e s m args below meth c ls Q hQ C hr hk hnm T hl
  have hx := C.1
  have hb := C.2.1
  have C : CallFix p m c cX3_hears 2 s args th_ws RX3 := C
  have hl : lv_has ls 2 [(0, .ref t), (1, .int x1)] := hl
  unfold f_X3_hears at h
  refine lv_aload_n hx hb dX3_hears_0 rfl (lv_at hl 0 rfl) ?_
  obtain ⟨a1, e2, h⟩ := ob_ h
  refine g_RX3_13 C T e2 dX3_hears_1 ?_
  refine lv_iconst (v := 3) hx hb dX3_hears_4 (by decide) ?_
  obtain ⟨v3, e4, h⟩ := ob_ h
  refine th_ialdn C T e4 (by decide) (by decide) dX3_hears_5 ?_
  refine lv_iconst (v := 2) hx hb dX3_hears_6 (by decide) ?_
  refine th_irem C dX3_hears_7 (by decide) ?_
  refine lv_if_eq (tgt := 15) hx hb dX3_hears_8 (by decide) (fun c5 => ?_) (fun c5 => ?_)
  · replace h := ot_ c5 h
    refine lv_aload_n hx hb dX3_hears_15 rfl (lv_at hl 0 rfl) ?_
    refine lv_iload_n hx hb dX3_hears_16 rfl (lv_at hl 1 rfl) ?_
    obtain ⟨k6, h⟩ := ogg h
    obtain ⟨v7, e8, h⟩ := ob_ h
    refine th_callPB (As := [.int x1]) (rest := []) C T (c_X0_hears e8) k_RX3_19 k6 rfl hl.1 rfl (st1 := [.int v7]) rfl (cells1 := 0) rfl (slots1 := 0) rfl (Nat.le_of_ble_eq_true rfl) ⟨Nat.le_of_ble_eq_true rfl, Nat.le_of_ble_eq_true rfl⟩ ⟨Nat.le_of_ble_eq_true rfl, Nat.le_of_ble_eq_true rfl⟩ dX3_hears_17 (fun H locs T => ?_)
    obtain rfl := os1 h
    exact th_iret hQ C hr hk T (Nat.le_of_ble_eq_true rfl) (Nat.le_of_ble_eq_true rfl) dX3_hears_20
  · replace h := of_ c5 h
    refine lv_iconst (v := 0) hx hb dX3_hears_11 (by decide) ?_
    refine lv_goto (tgt := 20) hx hb dX3_hears_12 (by decide) ?_
    obtain rfl := os1 h
    exact th_iret hQ C hr hk T (Nat.le_of_ble_eq_true rfl) (Nat.le_of_ble_eq_true rfl) dX3_hears_20
section TV
variable {p : Program} {l : Launch} {e : Env} {R : Room} {s : State} {m : MethodId} {args : Array Value} {below : List Frame} {meth : Method} {c : Code} {H : Heap} {locs : List Loc} {cells slots : Nat} {Q : State → Prop}
variable {cc : ByteArray} {pc nL : Nat} {ls : Array Slot} {rest : List Value} {G : th_G} {σ : th_S} {μ : th_M}
set_option maxRecDepth 100000 in
set_option maxHeartbeats 4000000 in
theorem vc_RX0_28 (C : CallFix p m c cc nL s args th_ws RX0) (T : th_R G s H locs σ μ) {t : Nat} {x1 : Int32} {r : Int32} (h : fD_hears σ μ t x1 = some r) (hls : ls.size = nL) {st1 : List Value} (hst1 : (some (.int r)).toList ++ rest = st1) (h8 : (rest.map fun v => v.category).sum ≤ 8) (hR : 2 + 1 ≤ R.frames ∧ 63 ≤ R.locals) (hf : cells + 0 ≤ R.cells ∧ slots + 0 ≤ R.slots) (hdg : decode cc pc = .ok (.invokevirtual 28, 3))
    (kk : ∀ (H : Heap) (locs : List Loc), th_R G s H locs σ μ → W p l e R s m args below meth c H locs cells slots Q (F0 m (pc + 3) ls st1)) : W p l e R s m args below meth c H locs cells slots Q (F0 m pc ls ([.int x1].reverse ++ .ref t :: rest)) := by
  unfold fD_hears at h
  by_cases h0 : σ.1 t = 0
  · replace h := ot_ h0 h
    exact th_callV (n := 1) (As := [.int x1]) C T (c_X0_hears h) ⟨w_490, w_491, w_492, w_14, w_511, by decide +kernel⟩ 0 rfl rfl (by decide) h0 rfl hls rfl hst1 rfl rfl h8 ⟨by have := hR.1; show 0 + 1 ≤ _; omega, by have := hR.2; show 8 + (2 + 11) + 0 ≤ _; omega⟩ hf hdg kk
  replace h := of_ h0 h
  by_cases h1 : σ.1 t = 1
  · replace h := ot_ h1 h
    exact th_callU (n := 1) (As := [.int x1]) C T (c_X1_hears h) (x := yX0_hears) (Cn := RX1) (owner := RX0) ⟨w_490, w_493, w_494, w_495, w_18, w_496, Or.inr ⟨w_491, _, _, _, w_511⟩, by decide +kernel⟩ 1 rfl rfl (by decide) h1 rfl hls rfl hst1 rfl rfl h8 ⟨by have := hR.1; show 2 + 1 ≤ _; omega, by have := hR.2; show 8 + (2 + 11) + 42 ≤ _; omega⟩ hf hdg kk
  replace h := of_ h1 h
  by_cases h2 : σ.1 t = 2
  · replace h := ot_ h2 h
    exact th_callU (n := 1) (As := [.int x1]) C T (c_X7_hears h) (x := yX0_hears) (Cn := RX2) (owner := RX0) ⟨w_490, w_493, w_501, w_502, w_15, w_503, Or.inr ⟨w_491, _, _, _, w_511⟩, by decide +kernel⟩ 2 rfl rfl (by decide) h2 rfl hls rfl hst1 rfl rfl h8 ⟨by have := hR.1; show 1 + 1 ≤ _; omega, by have := hR.2; show 8 + (2 + 11) + 21 ≤ _; omega⟩ hf hdg kk
  replace h := of_ h2 h
  by_cases h3 : σ.1 t = 3
  · replace h := ot_ h3 h
    exact th_callU (n := 1) (As := [.int x1]) C T (c_X3_hears h) (x := yX0_hears) (Cn := RX3) (owner := RX0) ⟨w_490, w_493, w_505, w_506, w_19, w_507, Or.inr ⟨w_491, _, _, _, w_511⟩, by decide +kernel⟩ 3 rfl rfl (by decide) h3 rfl hls rfl hst1 rfl rfl h8 ⟨by have := hR.1; show 1 + 1 ≤ _; omega, by have := hR.2; show 8 + (2 + 11) + 21 ≤ _; omega⟩ hf hdg kk
  replace h := of_ h3 h
  by_cases h4 : σ.1 t = 4
  · replace h := ot_ h4 h
    exact th_callU (n := 1) (As := [.int x1]) C T (c_X4_hears h) (x := yX0_hears) (Cn := RX4) (owner := RX0) ⟨w_490, w_493, w_509, w_498, w_16, w_499, Or.inr ⟨w_491, _, _, _, w_511⟩, by decide +kernel⟩ 4 rfl rfl (by decide) h4 rfl hls rfl hst1 rfl rfl h8 ⟨by have := hR.1; show 1 + 1 ≤ _; omega, by have := hR.2; show 8 + (2 + 11) + 21 ≤ _; omega⟩ hf hdg kk
  replace h := of_ h4 h
  by_cases h7 : σ.1 t = 7
  · replace h := ot_ h7 h
    exact th_callU (n := 1) (As := [.int x1]) C T (c_X7_hears h) (x := yX0_hears) (Cn := RX7) (owner := RX0) ⟨w_490, w_493, w_510, w_502, w_15, w_503, Or.inr ⟨w_491, _, _, _, w_511⟩, by decide +kernel⟩ 7 rfl rfl (by decide) h7 rfl hls rfl hst1 rfl rfl h8 ⟨by have := hR.1; show 1 + 1 ≤ _; omega, by have := hR.2; show 8 + (2 + 11) + 21 ≤ _; omega⟩ hf hdg kk
  replace h := of_ h7 h
  cases h
end TV
set_option maxRecDepth 100000 in
set_option maxHeartbeats 4000000 in
theorem c_X0_hearsBy {l : Launch} {G : th_G} {σ : th_S} {μ : th_M} {t : Nat} {x1 : Int32} {r : Int32} (h : f_X0_hearsBy σ μ t x1 = some r) : th_Met l G yX0_hearsBy cX0_hearsBy 2 (some FieldType.int) { frames := 3, cells := 0, slots := 0, locals := 80 } [.ref t, .int x1] σ μ (some (.int r)) σ μ := by
  refine th_ofW (by decide +kernel) (Nat.le_of_ble_eq_true rfl) ?_
  intro p e s m args below meth c ls Q hQ C hr hk hnm T hl
  have hx := C.1
  have hb := C.2.1
  have C : CallFix p m c cX0_hearsBy 2 s args th_ws RX0 := C
  have hl : lv_has ls 2 [(0, .ref t), (1, .int x1)] := hl
  unfold f_X0_hearsBy at h
  refine lv_iconst (v := 0) hx hb dX0_hearsBy_0 (by decide) ?_
  refine lv_aload_n hx hb dX0_hearsBy_1 rfl (lv_at hl 0 rfl) ?_
  refine lv_iload_n hx hb dX0_hearsBy_2 rfl (lv_at hl 1 rfl) ?_
  obtain ⟨v1, e2, h⟩ := ob_ h
  refine vc_RX0_28 (rest := [.int 0]) C T e2 hl.1 (st1 := [.int v1, .int 0]) rfl (Nat.le_of_ble_eq_true rfl) ⟨Nat.le_of_ble_eq_true rfl, Nat.le_of_ble_eq_true rfl⟩ ⟨Nat.le_of_ble_eq_true rfl, Nat.le_of_ble_eq_true rfl⟩ dX0_hearsBy_3 (fun H locs T => ?_)
  refine th_max C hl.1 w_477 w_478 w_11 w_479 (Nat.le_of_ble_eq_true rfl) (Nat.le_of_ble_eq_true rfl) (Nat.zero_le _) (Nat.zero_le _) dX0_hearsBy_6 ?_
  obtain rfl := os1 h
  exact th_iret hQ C hr hk T (Nat.le_of_ble_eq_true rfl) (Nat.le_of_ble_eq_true rfl) dX0_hearsBy_9
section TV
variable {p : Program} {l : Launch} {e : Env} {R : Room} {s : State} {m : MethodId} {args : Array Value} {below : List Frame} {meth : Method} {c : Code} {H : Heap} {locs : List Loc} {cells slots : Nat} {Q : State → Prop}
variable {cc : ByteArray} {pc nL : Nat} {ls : Array Slot} {rest : List Value} {G : th_G} {σ : th_S} {μ : th_M}
set_option maxRecDepth 100000 in
set_option maxHeartbeats 4000000 in
theorem vc_RX10_112 (C : CallFix p m c cc nL s args th_ws RX10) (T : th_R G s H locs σ μ) {t : Nat} {x1 : Int32} {r : Int32} (h : fD_hearsBy σ μ t x1 = some r) (hls : ls.size = nL) {st1 : List Value} (hst1 : (some (.int r)).toList ++ rest = st1) (h8 : (rest.map fun v => v.category).sum ≤ 8) (hR : 3 + 1 ≤ R.frames ∧ 101 ≤ R.locals) (hf : cells + 0 ≤ R.cells ∧ slots + 0 ≤ R.slots) (hdg : decode cc pc = .ok (.invokevirtual 112, 3))
    (kk : ∀ (H : Heap) (locs : List Loc), th_R G s H locs σ μ → W p l e R s m args below meth c H locs cells slots Q (F0 m (pc + 3) ls st1)) : W p l e R s m args below meth c H locs cells slots Q (F0 m pc ls ([.int x1].reverse ++ .ref t :: rest)) := by
  unfold fD_hearsBy at h
  by_cases h0 : σ.1 t = 0
  · replace h := ot_ h0 h
    exact th_callV (n := 1) (As := [.int x1]) C T (c_X0_hearsBy h) ⟨w_480, w_481, w_482, w_14, w_489, by decide +kernel⟩ 0 rfl rfl (by decide) h0 rfl hls rfl hst1 rfl rfl h8 ⟨by have := hR.1; show 3 + 1 ≤ _; omega, by have := hR.2; show 8 + (2 + 11) + 80 ≤ _; omega⟩ hf hdg kk
  replace h := of_ h0 h
  by_cases h1 : σ.1 t = 1
  · replace h := ot_ h1 h
    exact th_callU (n := 1) (As := [.int x1]) C T (c_X0_hearsBy h) (x := yX0_hearsBy) (Cn := RX1) (owner := RX0) ⟨w_480, w_483, w_484, w_481, w_14, w_489, Or.inl rfl, by decide +kernel⟩ 1 rfl rfl (by decide) h1 rfl hls rfl hst1 rfl rfl h8 ⟨by have := hR.1; show 3 + 1 ≤ _; omega, by have := hR.2; show 8 + (2 + 11) + 80 ≤ _; omega⟩ hf hdg kk
  replace h := of_ h1 h
  by_cases h2 : σ.1 t = 2
  · replace h := ot_ h2 h
    exact th_callU (n := 1) (As := [.int x1]) C T (c_X0_hearsBy h) (x := yX0_hearsBy) (Cn := RX2) (owner := RX0) ⟨w_480, w_483, w_485, w_481, w_14, w_489, Or.inl rfl, by decide +kernel⟩ 2 rfl rfl (by decide) h2 rfl hls rfl hst1 rfl rfl h8 ⟨by have := hR.1; show 3 + 1 ≤ _; omega, by have := hR.2; show 8 + (2 + 11) + 80 ≤ _; omega⟩ hf hdg kk
  replace h := of_ h2 h
  by_cases h3 : σ.1 t = 3
  · replace h := ot_ h3 h
    exact th_callU (n := 1) (As := [.int x1]) C T (c_X0_hearsBy h) (x := yX0_hearsBy) (Cn := RX3) (owner := RX0) ⟨w_480, w_483, w_486, w_481, w_14, w_489, Or.inl rfl, by decide +kernel⟩ 3 rfl rfl (by decide) h3 rfl hls rfl hst1 rfl rfl h8 ⟨by have := hR.1; show 3 + 1 ≤ _; omega, by have := hR.2; show 8 + (2 + 11) + 80 ≤ _; omega⟩ hf hdg kk
  replace h := of_ h3 h
  by_cases h4 : σ.1 t = 4
  · replace h := ot_ h4 h
    exact th_callU (n := 1) (As := [.int x1]) C T (c_X0_hearsBy h) (x := yX0_hearsBy) (Cn := RX4) (owner := RX0) ⟨w_480, w_483, w_487, w_481, w_14, w_489, Or.inl rfl, by decide +kernel⟩ 4 rfl rfl (by decide) h4 rfl hls rfl hst1 rfl rfl h8 ⟨by have := hR.1; show 3 + 1 ≤ _; omega, by have := hR.2; show 8 + (2 + 11) + 80 ≤ _; omega⟩ hf hdg kk
  replace h := of_ h4 h
  by_cases h7 : σ.1 t = 7
  · replace h := ot_ h7 h
    exact th_callU (n := 1) (As := [.int x1]) C T (c_X0_hearsBy h) (x := yX0_hearsBy) (Cn := RX7) (owner := RX0) ⟨w_480, w_483, w_488, w_481, w_14, w_489, Or.inl rfl, by decide +kernel⟩ 7 rfl rfl (by decide) h7 rfl hls rfl hst1 rfl rfl h8 ⟨by have := hR.1; show 3 + 1 ≤ _; omega, by have := hR.2; show 8 + (2 + 11) + 80 ≤ _; omega⟩ hf hdg kk
  replace h := of_ h7 h
  cases h
end TV
set_option maxRecDepth 100000 in
set_option maxHeartbeats 4000000 in
theorem c_X4_owes {l : Launch} {G : th_G} {σ : th_S} {μ : th_M} {t : Nat} {x1 : Int32} {x2 : Int32} {r : Int32} (h : f_X4_owes σ μ t x1 x2 = some r) : th_Met l G yX4_owes cX4_owes 3 (some FieldType.int) { frames := 1, cells := 0, slots := 0, locals := 22 } [.ref t, .int x1, .int x2] σ μ (some (.int r)) σ μ := by
  refine th_ofW (by decide +kernel) (Nat.le_of_ble_eq_true rfl) ?_
  intro p e s m args below meth c ls Q hQ C hr hk hnm T hl
  have hx := C.1
  have hb := C.2.1
  have C : CallFix p m c cX4_owes 3 s args th_ws RX4 := C
  have hl : lv_has ls 3 [(0, .ref t), (1, .int x1), (2, .int x2)] := hl
  unfold f_X4_owes at h
  refine lv_aload_n hx hb dX4_owes_0 rfl (lv_at hl 0 rfl) ?_
  refine lv_iload_n hx hb dX4_owes_1 rfl (lv_at hl 1 rfl) ?_
  refine lv_iload_n hx hb dX4_owes_2 rfl (lv_at hl 2 rfl) ?_
  obtain ⟨k1, h⟩ := ogg h
  obtain ⟨v2, e3, h⟩ := ob_ h
  refine th_callPB (As := [.int x1, .int x2]) (rest := []) C T (c_X0_owes e3) k_RX4_14 k1 rfl hl.1 rfl (st1 := [.int v2]) rfl (cells1 := 0) rfl (slots1 := 0) rfl (Nat.le_of_ble_eq_true rfl) ⟨Nat.le_of_ble_eq_true rfl, Nat.le_of_ble_eq_true rfl⟩ ⟨Nat.le_of_ble_eq_true rfl, Nat.le_of_ble_eq_true rfl⟩ dX4_owes_3 (fun H locs T => ?_)
  refine lv_iconst (v := 2) hx hb dX4_owes_6 (by decide) ?_
  refine lv_idiv hx hb dX4_owes_7 (by decide) ?_
  obtain rfl := os1 h
  exact th_iret hQ C hr hk T (Nat.le_of_ble_eq_true rfl) (Nat.le_of_ble_eq_true rfl) dX4_owes_8
set_option maxRecDepth 100000 in
set_option maxHeartbeats 4000000 in
theorem c_X1_owes {l : Launch} {G : th_G} {σ : th_S} {μ : th_M} {t : Nat} {x1 : Int32} {x2 : Int32} {r : Int32} (h : f_X1_owes σ μ t x1 x2 = some r) : th_Met l G yX1_owes cX1_owes 3 (some FieldType.int) { frames := 2, cells := 0, slots := 0, locals := 44 } [.ref t, .int x1, .int x2] σ μ (some (.int r)) σ μ := by
  refine th_ofW (by decide +kernel) (Nat.le_of_ble_eq_true rfl) ?_
  intro p e s m args below meth c ls Q hQ C hr hk hnm T hl
  have hx := C.1
  have hb := C.2.1
  have C : CallFix p m c cX1_owes 3 s args th_ws RX1 := C
  have hl : lv_has ls 3 [(0, .ref t), (1, .int x1), (2, .int x2)] := hl
  unfold f_X1_owes at h
  refine lv_aload_n hx hb dX1_owes_0 rfl (lv_at hl 0 rfl) ?_
  refine lv_iload_n hx hb dX1_owes_1 rfl (lv_at hl 1 rfl) ?_
  refine lv_iload_n hx hb dX1_owes_2 rfl (lv_at hl 2 rfl) ?_
  obtain ⟨k1, h⟩ := ogg h
  obtain ⟨v2, e3, h⟩ := ob_ h
  refine th_callPB (As := [.int x1, .int x2]) (rest := []) C T (c_X4_owes e3) k_RX1_11 k1 rfl hl.1 rfl (st1 := [.int v2]) rfl (cells1 := 0) rfl (slots1 := 0) rfl (Nat.le_of_ble_eq_true rfl) ⟨Nat.le_of_ble_eq_true rfl, Nat.le_of_ble_eq_true rfl⟩ ⟨Nat.le_of_ble_eq_true rfl, Nat.le_of_ble_eq_true rfl⟩ dX1_owes_3 (fun H locs T => ?_)
  refine lv_iconst (v := 2) hx hb dX1_owes_6 (by decide) ?_
  refine lv_iadd hx hb dX1_owes_7 ?_
  obtain rfl := os1 h
  exact th_iret hQ C hr hk T (Nat.le_of_ble_eq_true rfl) (Nat.le_of_ble_eq_true rfl) dX1_owes_8
set_option maxRecDepth 100000 in
set_option maxHeartbeats 4000000 in
theorem c_X2_owes {l : Launch} {G : th_G} {σ : th_S} {μ : th_M} {t : Nat} {x1 : Int32} {x2 : Int32} {r : Int32} (h : f_X2_owes σ μ t x1 x2 = some r) : th_Met l G yX2_owes cX2_owes 3 (some FieldType.int) { frames := 0, cells := 0, slots := 0, locals := 0 } [.ref t, .int x1, .int x2] σ μ (some (.int r)) σ μ := by
  refine th_ofW (by decide +kernel) (Nat.le_of_ble_eq_true rfl) ?_
  intro p e s m args below meth c ls Q hQ C hr hk hnm T hl
  have hx := C.1
  have hb := C.2.1
  have C : CallFix p m c cX2_owes 3 s args th_ws RX2 := C
  have hl : lv_has ls 3 [(0, .ref t), (1, .int x1), (2, .int x2)] := hl
  unfold f_X2_owes at h
  refine lv_iconst (v := 0) hx hb dX2_owes_0 (by decide) ?_
  obtain rfl := os1 h
  exact th_iret hQ C hr hk T (Nat.le_of_ble_eq_true rfl) (Nat.le_of_ble_eq_true rfl) dX2_owes_1
set_option maxRecDepth 100000 in
set_option maxHeartbeats 4000000 in
theorem c_X3_owes {l : Launch} {G : th_G} {σ : th_S} {μ : th_M} {t : Nat} {x1 : Int32} {x2 : Int32} {r : Int32} (h : f_X3_owes σ μ t x1 x2 = some r) : th_Met l G yX3_owes cX3_owes 4 (some FieldType.int) { frames := 1, cells := 0, slots := 0, locals := 22 } [.ref t, .int x1, .int x2] σ μ (some (.int r)) σ μ := by
  refine th_ofW (by decide +kernel) (Nat.le_of_ble_eq_true rfl) ?_
  intro p e s m args below meth c ls Q hQ C hr hk hnm T hl
  have hx := C.1
  have hb := C.2.1
  have C : CallFix p m c cX3_owes 4 s args th_ws RX3 := C
  have hl : lv_has ls 4 [(0, .ref t), (1, .int x1), (2, .int x2)] := hl
  unfold f_X3_owes at h
  refine lv_aload_n hx hb dX3_owes_0 rfl (lv_at hl 0 rfl) ?_
  refine lv_iload_n hx hb dX3_owes_1 rfl (lv_at hl 1 rfl) ?_
  refine lv_iload_n hx hb dX3_owes_2 rfl (lv_at hl 2 rfl) ?_
  obtain ⟨k1, h⟩ := ogg h
  obtain ⟨v2, e3, h⟩ := ob_ h
  refine th_callPB (As := [.int x1, .int x2]) (rest := []) C T (c_X0_owes e3) k_RX3_22 k1 rfl hl.1 rfl (st1 := [.int v2]) rfl (cells1 := 0) rfl (slots1 := 0) rfl (Nat.le_of_ble_eq_true rfl) ⟨Nat.le_of_ble_eq_true rfl, Nat.le_of_ble_eq_true rfl⟩ ⟨Nat.le_of_ble_eq_true rfl, Nat.le_of_ble_eq_true rfl⟩ dX3_owes_3 (fun H locs T => ?_)
  refine lv_istore_n (lv' := [(3, .int v2), (0, .ref t), (1, .int x1), (2, .int x2)]) hx hb dX3_owes_6 rfl hl (by decide) rfl (fun ls hl => ?_)
  refine lv_iload_n hx hb dX3_owes_7 rfl (lv_at hl 0 rfl) ?_
  refine lv_if_le (tgt := 22) hx hb dX3_owes_8 (by decide) (fun c4 => ?_) (fun c4 => ?_)
  · replace h := ot_ c4 h
    refine lv_iconst (v := 0) hx hb dX3_owes_22 (by decide) ?_
    obtain rfl := os1 h
    exact th_iret hQ C hr hk T (Nat.le_of_ble_eq_true rfl) (Nat.le_of_ble_eq_true rfl) dX3_owes_23
  · replace h := of_ c4 h
    refine lv_iload_n hx hb dX3_owes_11 rfl (lv_at hl 0 rfl) ?_
    refine lv_aload_n hx hb dX3_owes_12 rfl (lv_at hl 1 rfl) ?_
    obtain ⟨a5, e6, h⟩ := ob_ h
    refine g_RX3_13 C T e6 dX3_owes_13 ?_
    refine lv_iconst (v := 3) hx hb dX3_owes_16 (by decide) ?_
    obtain ⟨v7, e8, h⟩ := ob_ h
    refine th_ialdn C T e8 (by decide) (by decide) dX3_owes_17 ?_
    refine lv_iadd hx hb dX3_owes_18 ?_
    refine lv_goto (tgt := 23) hx hb dX3_owes_19 (by decide) ?_
    obtain rfl := os1 h
    exact th_iret hQ C hr hk T (Nat.le_of_ble_eq_true rfl) (Nat.le_of_ble_eq_true rfl) dX3_owes_23
section TV
variable {p : Program} {l : Launch} {e : Env} {R : Room} {s : State} {m : MethodId} {args : Array Value} {below : List Frame} {meth : Method} {c : Code} {H : Heap} {locs : List Loc} {cells slots : Nat} {Q : State → Prop}
variable {cc : ByteArray} {pc nL : Nat} {ls : Array Slot} {rest : List Value} {G : th_G} {σ : th_S} {μ : th_M}
set_option maxRecDepth 100000 in
set_option maxHeartbeats 4000000 in
theorem vc_RX0_31 (C : CallFix p m c cc nL s args th_ws RX0) (T : th_R G s H locs σ μ) {t : Nat} {x1 : Int32} {x2 : Int32} {r : Int32} (h : fD_owes σ μ t x1 x2 = some r) (hls : ls.size = nL) {st1 : List Value} (hst1 : (some (.int r)).toList ++ rest = st1) (h8 : (rest.map fun v => v.category).sum ≤ 8) (hR : 2 + 1 ≤ R.frames ∧ 66 ≤ R.locals) (hf : cells + 0 ≤ R.cells ∧ slots + 0 ≤ R.slots) (hdg : decode cc pc = .ok (.invokevirtual 31, 3))
    (kk : ∀ (H : Heap) (locs : List Loc), th_R G s H locs σ μ → W p l e R s m args below meth c H locs cells slots Q (F0 m (pc + 3) ls st1)) : W p l e R s m args below meth c H locs cells slots Q (F0 m pc ls ([.int x1, .int x2].reverse ++ .ref t :: rest)) := by
  unfold fD_owes at h
  by_cases h0 : σ.1 t = 0
  · replace h := ot_ h0 h
    exact th_callV (n := 2) (As := [.int x1, .int x2]) C T (c_X0_owes h) ⟨w_579, w_580, w_581, w_14, w_599, by decide +kernel⟩ 0 rfl rfl (by decide) h0 rfl hls rfl hst1 rfl rfl h8 ⟨by have := hR.1; show 0 + 1 ≤ _; omega, by have := hR.2; show 8 + (3 + 11) + 0 ≤ _; omega⟩ hf hdg kk
  replace h := of_ h0 h
  by_cases h1 : σ.1 t = 1
  · replace h := ot_ h1 h
    exact th_callU (n := 2) (As := [.int x1, .int x2]) C T (c_X1_owes h) (x := yX0_owes) (Cn := RX1) (owner := RX0) ⟨w_579, w_582, w_583, w_584, w_18, w_585, Or.inr ⟨w_580, _, _, _, w_599⟩, by decide +kernel⟩ 1 rfl rfl (by decide) h1 rfl hls rfl hst1 rfl rfl h8 ⟨by have := hR.1; show 2 + 1 ≤ _; omega, by have := hR.2; show 8 + (3 + 11) + 44 ≤ _; omega⟩ hf hdg kk
  replace h := of_ h1 h
  by_cases h2 : σ.1 t = 2
  · replace h := ot_ h2 h
    exact th_callU (n := 2) (As := [.int x1, .int x2]) C T (c_X2_owes h) (x := yX0_owes) (Cn := RX2) (owner := RX0) ⟨w_579, w_582, w_590, w_591, w_17, w_592, Or.inr ⟨w_580, _, _, _, w_599⟩, by decide +kernel⟩ 2 rfl rfl (by decide) h2 rfl hls rfl hst1 rfl rfl h8 ⟨by have := hR.1; show 0 + 1 ≤ _; omega, by have := hR.2; show 8 + (3 + 11) + 0 ≤ _; omega⟩ hf hdg kk
  replace h := of_ h2 h
  by_cases h3 : σ.1 t = 3
  · replace h := ot_ h3 h
    exact th_callU (n := 2) (As := [.int x1, .int x2]) C T (c_X3_owes h) (x := yX0_owes) (Cn := RX3) (owner := RX0) ⟨w_579, w_582, w_593, w_594, w_19, w_595, Or.inr ⟨w_580, _, _, _, w_599⟩, by decide +kernel⟩ 3 rfl rfl (by decide) h3 rfl hls rfl hst1 rfl rfl h8 ⟨by have := hR.1; show 1 + 1 ≤ _; omega, by have := hR.2; show 8 + (4 + 11) + 22 ≤ _; omega⟩ hf hdg kk
  replace h := of_ h3 h
  by_cases h4 : σ.1 t = 4
  · replace h := ot_ h4 h
    exact th_callU (n := 2) (As := [.int x1, .int x2]) C T (c_X4_owes h) (x := yX0_owes) (Cn := RX4) (owner := RX0) ⟨w_579, w_582, w_597, w_587, w_16, w_588, Or.inr ⟨w_580, _, _, _, w_599⟩, by decide +kernel⟩ 4 rfl rfl (by decide) h4 rfl hls rfl hst1 rfl rfl h8 ⟨by have := hR.1; show 1 + 1 ≤ _; omega, by have := hR.2; show 8 + (3 + 11) + 22 ≤ _; omega⟩ hf hdg kk
  replace h := of_ h4 h
  by_cases h7 : σ.1 t = 7
  · replace h := ot_ h7 h
    exact th_callU (n := 2) (As := [.int x1, .int x2]) C T (c_X0_owes h) (x := yX0_owes) (Cn := RX7) (owner := RX0) ⟨w_579, w_582, w_598, w_580, w_14, w_599, Or.inl rfl, by decide +kernel⟩ 7 rfl rfl (by decide) h7 rfl hls rfl hst1 rfl rfl h8 ⟨by have := hR.1; show 0 + 1 ≤ _; omega, by have := hR.2; show 8 + (3 + 11) + 0 ≤ _; omega⟩ hf hdg kk
  replace h := of_ h7 h
  cases h
end TV
set_option maxRecDepth 100000 in
set_option maxHeartbeats 4000000 in
theorem c_X0_owesBy {l : Launch} {G : th_G} {σ : th_S} {μ : th_M} {t : Nat} {x1 : Int32} {x2 : Int32} {r : Int32} (h : f_X0_owesBy σ μ t x1 x2 = some r) : th_Met l G yX0_owesBy cX0_owesBy 3 (some FieldType.int) { frames := 3, cells := 0, slots := 0, locals := 80 } [.ref t, .int x1, .int x2] σ μ (some (.int r)) σ μ := by
  refine th_ofW (by decide +kernel) (Nat.le_of_ble_eq_true rfl) ?_
  intro p e s m args below meth c ls Q hQ C hr hk hnm T hl
  have hx := C.1
  have hb := C.2.1
  have C : CallFix p m c cX0_owesBy 3 s args th_ws RX0 := C
  have hl : lv_has ls 3 [(0, .ref t), (1, .int x1), (2, .int x2)] := hl
  unfold f_X0_owesBy at h
  refine lv_iconst (v := 0) hx hb dX0_owesBy_0 (by decide) ?_
  refine lv_aload_n hx hb dX0_owesBy_1 rfl (lv_at hl 0 rfl) ?_
  refine lv_iload_n hx hb dX0_owesBy_2 rfl (lv_at hl 1 rfl) ?_
  refine lv_iload_n hx hb dX0_owesBy_3 rfl (lv_at hl 2 rfl) ?_
  obtain ⟨v1, e2, h⟩ := ob_ h
  refine vc_RX0_31 (rest := [.int 0]) C T e2 hl.1 (st1 := [.int v1, .int 0]) rfl (Nat.le_of_ble_eq_true rfl) ⟨Nat.le_of_ble_eq_true rfl, Nat.le_of_ble_eq_true rfl⟩ ⟨Nat.le_of_ble_eq_true rfl, Nat.le_of_ble_eq_true rfl⟩ dX0_owesBy_4 (fun H locs T => ?_)
  refine th_max C hl.1 w_477 w_478 w_11 w_479 (Nat.le_of_ble_eq_true rfl) (Nat.le_of_ble_eq_true rfl) (Nat.zero_le _) (Nat.zero_le _) dX0_owesBy_7 ?_
  obtain rfl := os1 h
  exact th_iret hQ C hr hk T (Nat.le_of_ble_eq_true rfl) (Nat.le_of_ble_eq_true rfl) dX0_owesBy_10
section TV
variable {p : Program} {l : Launch} {e : Env} {R : Room} {s : State} {m : MethodId} {args : Array Value} {below : List Frame} {meth : Method} {c : Code} {H : Heap} {locs : List Loc} {cells slots : Nat} {Q : State → Prop}
variable {cc : ByteArray} {pc nL : Nat} {ls : Array Slot} {rest : List Value} {G : th_G} {σ : th_S} {μ : th_M}
set_option maxRecDepth 100000 in
set_option maxHeartbeats 4000000 in
theorem vc_RX10_199 (C : CallFix p m c cc nL s args th_ws RX10) (T : th_R G s H locs σ μ) {t : Nat} {x1 : Int32} {x2 : Int32} {r : Int32} (h : fD_owesBy σ μ t x1 x2 = some r) (hls : ls.size = nL) {st1 : List Value} (hst1 : (some (.int r)).toList ++ rest = st1) (h8 : (rest.map fun v => v.category).sum ≤ 8) (hR : 3 + 1 ≤ R.frames ∧ 102 ≤ R.locals) (hf : cells + 0 ≤ R.cells ∧ slots + 0 ≤ R.slots) (hdg : decode cc pc = .ok (.invokevirtual 199, 3))
    (kk : ∀ (H : Heap) (locs : List Loc), th_R G s H locs σ μ → W p l e R s m args below meth c H locs cells slots Q (F0 m (pc + 3) ls st1)) : W p l e R s m args below meth c H locs cells slots Q (F0 m pc ls ([.int x1, .int x2].reverse ++ .ref t :: rest)) := by
  unfold fD_owesBy at h
  by_cases h0 : σ.1 t = 0
  · replace h := ot_ h0 h
    exact th_callV (n := 2) (As := [.int x1, .int x2]) C T (c_X0_owesBy h) ⟨w_569, w_570, w_571, w_14, w_578, by decide +kernel⟩ 0 rfl rfl (by decide) h0 rfl hls rfl hst1 rfl rfl h8 ⟨by have := hR.1; show 3 + 1 ≤ _; omega, by have := hR.2; show 8 + (3 + 11) + 80 ≤ _; omega⟩ hf hdg kk
  replace h := of_ h0 h
  by_cases h1 : σ.1 t = 1
  · replace h := ot_ h1 h
    exact th_callU (n := 2) (As := [.int x1, .int x2]) C T (c_X0_owesBy h) (x := yX0_owesBy) (Cn := RX1) (owner := RX0) ⟨w_569, w_572, w_573, w_570, w_14, w_578, Or.inl rfl, by decide +kernel⟩ 1 rfl rfl (by decide) h1 rfl hls rfl hst1 rfl rfl h8 ⟨by have := hR.1; show 3 + 1 ≤ _; omega, by have := hR.2; show 8 + (3 + 11) + 80 ≤ _; omega⟩ hf hdg kk
  replace h := of_ h1 h
  by_cases h2 : σ.1 t = 2
  · replace h := ot_ h2 h
    exact th_callU (n := 2) (As := [.int x1, .int x2]) C T (c_X0_owesBy h) (x := yX0_owesBy) (Cn := RX2) (owner := RX0) ⟨w_569, w_572, w_574, w_570, w_14, w_578, Or.inl rfl, by decide +kernel⟩ 2 rfl rfl (by decide) h2 rfl hls rfl hst1 rfl rfl h8 ⟨by have := hR.1; show 3 + 1 ≤ _; omega, by have := hR.2; show 8 + (3 + 11) + 80 ≤ _; omega⟩ hf hdg kk
  replace h := of_ h2 h
  by_cases h3 : σ.1 t = 3
  · replace h := ot_ h3 h
    exact th_callU (n := 2) (As := [.int x1, .int x2]) C T (c_X0_owesBy h) (x := yX0_owesBy) (Cn := RX3) (owner := RX0) ⟨w_569, w_572, w_575, w_570, w_14, w_578, Or.inl rfl, by decide +kernel⟩ 3 rfl rfl (by decide) h3 rfl hls rfl hst1 rfl rfl h8 ⟨by have := hR.1; show 3 + 1 ≤ _; omega, by have := hR.2; show 8 + (3 + 11) + 80 ≤ _; omega⟩ hf hdg kk
  replace h := of_ h3 h
  by_cases h4 : σ.1 t = 4
  · replace h := ot_ h4 h
    exact th_callU (n := 2) (As := [.int x1, .int x2]) C T (c_X0_owesBy h) (x := yX0_owesBy) (Cn := RX4) (owner := RX0) ⟨w_569, w_572, w_576, w_570, w_14, w_578, Or.inl rfl, by decide +kernel⟩ 4 rfl rfl (by decide) h4 rfl hls rfl hst1 rfl rfl h8 ⟨by have := hR.1; show 3 + 1 ≤ _; omega, by have := hR.2; show 8 + (3 + 11) + 80 ≤ _; omega⟩ hf hdg kk
  replace h := of_ h4 h
  by_cases h7 : σ.1 t = 7
  · replace h := ot_ h7 h
    exact th_callU (n := 2) (As := [.int x1, .int x2]) C T (c_X0_owesBy h) (x := yX0_owesBy) (Cn := RX7) (owner := RX0) ⟨w_569, w_572, w_577, w_570, w_14, w_578, Or.inl rfl, by decide +kernel⟩ 7 rfl rfl (by decide) h7 rfl hls rfl hst1 rfl rfl h8 ⟨by have := hR.1; show 3 + 1 ≤ _; omega, by have := hR.2; show 8 + (3 + 11) + 80 ≤ _; omega⟩ hf hdg kk
  replace h := of_ h7 h
  cases h
end TV
set_option maxRecDepth 100000 in
set_option maxHeartbeats 4000000 in
theorem c_X0_due {l : Launch} {G : th_G} {σ : th_S} {μ : th_M} {t : Nat} {r : Int32} (h : f_X0_due σ μ t = some r) : th_Met l G yX0_due cX0_due 1 (some FieldType.int) { frames := 0, cells := 0, slots := 0, locals := 0 } [.ref t] σ μ (some (.int r)) σ μ := by
  refine th_ofW (by decide +kernel) (Nat.le_of_ble_eq_true rfl) ?_
  intro p e s m args below meth c ls Q hQ C hr hk hnm T hl
  have hx := C.1
  have hb := C.2.1
  have C : CallFix p m c cX0_due 1 s args th_ws RX0 := C
  have hl : lv_has ls 1 [(0, .ref t)] := hl
  unfold f_X0_due at h
  refine lv_aload_n hx hb dX0_due_0 rfl (lv_at hl 0 rfl) ?_
  obtain ⟨a1, e2, h⟩ := ob_ h
  refine g_RX0_9 C T e2 dX0_due_1 ?_
  refine lv_iconst (v := 1) hx hb dX0_due_4 (by decide) ?_
  obtain ⟨v3, e4, h⟩ := ob_ h
  refine th_ialdn C T e4 (by decide) (by decide) dX0_due_5 ?_
  refine lv_aload_n hx hb dX0_due_6 rfl (lv_at hl 0 rfl) ?_
  obtain ⟨a5, e6, h⟩ := ob_ h
  refine g_RX0_9 C T e6 dX0_due_7 ?_
  refine lv_iconst (v := 2) hx hb dX0_due_10 (by decide) ?_
  obtain ⟨v7, e8, h⟩ := ob_ h
  refine th_ialdn C T e8 (by decide) (by decide) dX0_due_11 ?_
  refine lv_iadd hx hb dX0_due_12 ?_
  obtain rfl := os1 h
  exact th_iret hQ C hr hk T (Nat.le_of_ble_eq_true rfl) (Nat.le_of_ble_eq_true rfl) dX0_due_13
section TV
variable {p : Program} {l : Launch} {e : Env} {R : Room} {s : State} {m : MethodId} {args : Array Value} {below : List Frame} {meth : Method} {c : Code} {H : Heap} {locs : List Loc} {cells slots : Nat} {Q : State → Prop}
variable {cc : ByteArray} {pc nL : Nat} {ls : Array Slot} {rest : List Value} {G : th_G} {σ : th_S} {μ : th_M}
set_option maxRecDepth 100000 in
set_option maxHeartbeats 4000000 in
theorem vc_RX10_152 (C : CallFix p m c cc nL s args th_ws RX10) (T : th_R G s H locs σ μ) {t : Nat} {r : Int32} (h : fD_due σ μ t = some r) (hls : ls.size = nL) {st1 : List Value} (hst1 : (some (.int r)).toList ++ rest = st1) (h8 : (rest.map fun v => v.category).sum ≤ 8) (hR : 0 + 1 ≤ R.frames ∧ 20 ≤ R.locals) (hf : cells + 0 ≤ R.cells ∧ slots + 0 ≤ R.slots) (hdg : decode cc pc = .ok (.invokevirtual 152, 3))
    (kk : ∀ (H : Heap) (locs : List Loc), th_R G s H locs σ μ → W p l e R s m args below meth c H locs cells slots Q (F0 m (pc + 3) ls st1)) : W p l e R s m args below meth c H locs cells slots Q (F0 m pc ls ([].reverse ++ .ref t :: rest)) := by
  unfold fD_due at h
  by_cases h0 : σ.1 t = 0
  · replace h := ot_ h0 h
    exact th_callV (n := 0) (As := []) C T (c_X0_due h) ⟨w_530, w_531, w_532, w_14, w_539, by decide +kernel⟩ 0 rfl rfl (by decide) h0 rfl hls rfl hst1 rfl rfl h8 ⟨by have := hR.1; show 0 + 1 ≤ _; omega, by have := hR.2; show 8 + (1 + 11) + 0 ≤ _; omega⟩ hf hdg kk
  replace h := of_ h0 h
  by_cases h1 : σ.1 t = 1
  · replace h := ot_ h1 h
    exact th_callU (n := 0) (As := []) C T (c_X0_due h) (x := yX0_due) (Cn := RX1) (owner := RX0) ⟨w_530, w_533, w_534, w_531, w_14, w_539, Or.inl rfl, by decide +kernel⟩ 1 rfl rfl (by decide) h1 rfl hls rfl hst1 rfl rfl h8 ⟨by have := hR.1; show 0 + 1 ≤ _; omega, by have := hR.2; show 8 + (1 + 11) + 0 ≤ _; omega⟩ hf hdg kk
  replace h := of_ h1 h
  by_cases h2 : σ.1 t = 2
  · replace h := ot_ h2 h
    exact th_callU (n := 0) (As := []) C T (c_X0_due h) (x := yX0_due) (Cn := RX2) (owner := RX0) ⟨w_530, w_533, w_535, w_531, w_14, w_539, Or.inl rfl, by decide +kernel⟩ 2 rfl rfl (by decide) h2 rfl hls rfl hst1 rfl rfl h8 ⟨by have := hR.1; show 0 + 1 ≤ _; omega, by have := hR.2; show 8 + (1 + 11) + 0 ≤ _; omega⟩ hf hdg kk
  replace h := of_ h2 h
  by_cases h3 : σ.1 t = 3
  · replace h := ot_ h3 h
    exact th_callU (n := 0) (As := []) C T (c_X0_due h) (x := yX0_due) (Cn := RX3) (owner := RX0) ⟨w_530, w_533, w_536, w_531, w_14, w_539, Or.inl rfl, by decide +kernel⟩ 3 rfl rfl (by decide) h3 rfl hls rfl hst1 rfl rfl h8 ⟨by have := hR.1; show 0 + 1 ≤ _; omega, by have := hR.2; show 8 + (1 + 11) + 0 ≤ _; omega⟩ hf hdg kk
  replace h := of_ h3 h
  by_cases h4 : σ.1 t = 4
  · replace h := ot_ h4 h
    exact th_callU (n := 0) (As := []) C T (c_X0_due h) (x := yX0_due) (Cn := RX4) (owner := RX0) ⟨w_530, w_533, w_537, w_531, w_14, w_539, Or.inl rfl, by decide +kernel⟩ 4 rfl rfl (by decide) h4 rfl hls rfl hst1 rfl rfl h8 ⟨by have := hR.1; show 0 + 1 ≤ _; omega, by have := hR.2; show 8 + (1 + 11) + 0 ≤ _; omega⟩ hf hdg kk
  replace h := of_ h4 h
  by_cases h7 : σ.1 t = 7
  · replace h := ot_ h7 h
    exact th_callU (n := 0) (As := []) C T (c_X0_due h) (x := yX0_due) (Cn := RX7) (owner := RX0) ⟨w_530, w_533, w_538, w_531, w_14, w_539, Or.inl rfl, by decide +kernel⟩ 7 rfl rfl (by decide) h7 rfl hls rfl hst1 rfl rfl h8 ⟨by have := hR.1; show 0 + 1 ≤ _; omega, by have := hR.2; show 8 + (1 + 11) + 0 ≤ _; omega⟩ hf hdg kk
  replace h := of_ h7 h
  cases h
end TV
set_option maxRecDepth 100000 in
set_option maxHeartbeats 4000000 in
theorem c_X0_keep {l : Launch} {G : th_G} {σ : th_S} {μ : th_M} {t : Nat}  {μ' : th_M} (h : f_X0_keep σ μ t = some μ') : th_Met l G yX0_keep cX0_keep 1 none { frames := 1, cells := 0, slots := 0, locals := 80 } [.ref t] σ μ none σ μ' := by
  refine th_ofW (by decide +kernel) (Nat.le_of_ble_eq_true rfl) ?_
  intro p e s m args below meth c ls Q hQ C hr hk hnm T hl
  have hx := C.1
  have hb := C.2.1
  have C : CallFix p m c cX0_keep 1 s args th_ws RX0 := C
  have hl : lv_has ls 1 [(0, .ref t)] := hl
  unfold f_X0_keep at h
  refine lv_aload_n hx hb dX0_keep_0 rfl (lv_at hl 0 rfl) ?_
  obtain ⟨a1, e2, h⟩ := ob_ h
  refine g_RX0_9 C T e2 dX0_keep_1 ?_
  refine lv_iconst (v := 0) hx hb dX0_keep_4 (by decide) ?_
  refine lv_aload_n hx hb dX0_keep_5 rfl (lv_at hl 0 rfl) ?_
  obtain ⟨a3, e4, h⟩ := ob_ h
  refine g_RX0_15 C T e4 dX0_keep_6 ?_
  refine lv_iconst (v := 0) hx hb dX0_keep_9 (by decide) ?_
  refine lv_bipush (v := 6) hx hb dX0_keep_10 (by decide) ?_
  obtain ⟨μ5, e6, h⟩ := ob_ h
  refine th_copyn C T e6 (by decide) (by decide) hl.1 w_785 w_275 w_274 w_12 (Nat.le_of_ble_eq_true rfl) (Nat.le_of_ble_eq_true rfl) dX0_keep_12 (fun H locs T => ?_)
  obtain rfl := os1 h
  exact th_vret hQ C hr hk T (Nat.le_of_ble_eq_true rfl) (Nat.le_of_ble_eq_true rfl) dX0_keep_15
section TV
variable {p : Program} {l : Launch} {e : Env} {R : Room} {s : State} {m : MethodId} {args : Array Value} {below : List Frame} {meth : Method} {c : Code} {H : Heap} {locs : List Loc} {cells slots : Nat} {Q : State → Prop}
variable {cc : ByteArray} {pc nL : Nat} {ls : Array Slot} {rest : List Value} {G : th_G} {σ : th_S} {μ : th_M}
set_option maxRecDepth 100000 in
set_option maxHeartbeats 4000000 in
theorem vc_RX10_265 (C : CallFix p m c cc nL s args th_ws RX10) (T : th_R G s H locs σ μ) {t : Nat}  {μ' : th_M} (h : fD_keep σ μ t = some μ') (hls : ls.size = nL) {st1 : List Value} (hst1 : none.toList ++ rest = st1) (h8 : (rest.map fun v => v.category).sum ≤ 8) (hR : 1 + 1 ≤ R.frames ∧ 100 ≤ R.locals) (hf : cells + 0 ≤ R.cells ∧ slots + 0 ≤ R.slots) (hdg : decode cc pc = .ok (.invokevirtual 265, 3))
    (kk : ∀ (H : Heap) (locs : List Loc), th_R G s H locs σ μ' → W p l e R s m args below meth c H locs cells slots Q (F0 m (pc + 3) ls st1)) : W p l e R s m args below meth c H locs cells slots Q (F0 m pc ls ([].reverse ++ .ref t :: rest)) := by
  unfold fD_keep at h
  by_cases h0 : σ.1 t = 0
  · replace h := ot_ h0 h
    exact th_callV (n := 0) (As := []) C T (c_X0_keep h) ⟨w_775, w_776, w_777, w_14, w_784, by decide +kernel⟩ 0 rfl rfl (by decide) h0 rfl hls rfl hst1 rfl rfl h8 ⟨by have := hR.1; show 1 + 1 ≤ _; omega, by have := hR.2; show 8 + (1 + 11) + 80 ≤ _; omega⟩ hf hdg kk
  replace h := of_ h0 h
  by_cases h1 : σ.1 t = 1
  · replace h := ot_ h1 h
    exact th_callU (n := 0) (As := []) C T (c_X0_keep h) (x := yX0_keep) (Cn := RX1) (owner := RX0) ⟨w_775, w_778, w_779, w_776, w_14, w_784, Or.inl rfl, by decide +kernel⟩ 1 rfl rfl (by decide) h1 rfl hls rfl hst1 rfl rfl h8 ⟨by have := hR.1; show 1 + 1 ≤ _; omega, by have := hR.2; show 8 + (1 + 11) + 80 ≤ _; omega⟩ hf hdg kk
  replace h := of_ h1 h
  by_cases h2 : σ.1 t = 2
  · replace h := ot_ h2 h
    exact th_callU (n := 0) (As := []) C T (c_X0_keep h) (x := yX0_keep) (Cn := RX2) (owner := RX0) ⟨w_775, w_778, w_780, w_776, w_14, w_784, Or.inl rfl, by decide +kernel⟩ 2 rfl rfl (by decide) h2 rfl hls rfl hst1 rfl rfl h8 ⟨by have := hR.1; show 1 + 1 ≤ _; omega, by have := hR.2; show 8 + (1 + 11) + 80 ≤ _; omega⟩ hf hdg kk
  replace h := of_ h2 h
  by_cases h3 : σ.1 t = 3
  · replace h := ot_ h3 h
    exact th_callU (n := 0) (As := []) C T (c_X0_keep h) (x := yX0_keep) (Cn := RX3) (owner := RX0) ⟨w_775, w_778, w_781, w_776, w_14, w_784, Or.inl rfl, by decide +kernel⟩ 3 rfl rfl (by decide) h3 rfl hls rfl hst1 rfl rfl h8 ⟨by have := hR.1; show 1 + 1 ≤ _; omega, by have := hR.2; show 8 + (1 + 11) + 80 ≤ _; omega⟩ hf hdg kk
  replace h := of_ h3 h
  by_cases h4 : σ.1 t = 4
  · replace h := ot_ h4 h
    exact th_callU (n := 0) (As := []) C T (c_X0_keep h) (x := yX0_keep) (Cn := RX4) (owner := RX0) ⟨w_775, w_778, w_782, w_776, w_14, w_784, Or.inl rfl, by decide +kernel⟩ 4 rfl rfl (by decide) h4 rfl hls rfl hst1 rfl rfl h8 ⟨by have := hR.1; show 1 + 1 ≤ _; omega, by have := hR.2; show 8 + (1 + 11) + 80 ≤ _; omega⟩ hf hdg kk
  replace h := of_ h4 h
  by_cases h7 : σ.1 t = 7
  · replace h := ot_ h7 h
    exact th_callU (n := 0) (As := []) C T (c_X0_keep h) (x := yX0_keep) (Cn := RX7) (owner := RX0) ⟨w_775, w_778, w_783, w_776, w_14, w_784, Or.inl rfl, by decide +kernel⟩ 7 rfl rfl (by decide) h7 rfl hls rfl hst1 rfl rfl h8 ⟨by have := hR.1; show 1 + 1 ≤ _; omega, by have := hR.2; show 8 + (1 + 11) + 80 ≤ _; omega⟩ hf hdg kk
  replace h := of_ h7 h
  cases h
end TV
set_option maxRecDepth 100000 in
set_option maxHeartbeats 4000000 in
theorem c_X0_layBack {l : Launch} {G : th_G} {σ : th_S} {μ : th_M} {t : Nat}  {μ' : th_M} (h : f_X0_layBack σ μ t = some μ') : th_Met l G yX0_layBack cX0_layBack 1 none { frames := 1, cells := 0, slots := 0, locals := 80 } [.ref t] σ μ none σ μ' := by
  refine th_ofW (by decide +kernel) (Nat.le_of_ble_eq_true rfl) ?_
  intro p e s m args below meth c ls Q hQ C hr hk hnm T hl
  have hx := C.1
  have hb := C.2.1
  have C : CallFix p m c cX0_layBack 1 s args th_ws RX0 := C
  have hl : lv_has ls 1 [(0, .ref t)] := hl
  unfold f_X0_layBack at h
  refine lv_aload_n hx hb dX0_layBack_0 rfl (lv_at hl 0 rfl) ?_
  obtain ⟨a1, e2, h⟩ := ob_ h
  refine g_RX0_15 C T e2 dX0_layBack_1 ?_
  refine lv_iconst (v := 0) hx hb dX0_layBack_4 (by decide) ?_
  refine lv_aload_n hx hb dX0_layBack_5 rfl (lv_at hl 0 rfl) ?_
  obtain ⟨a3, e4, h⟩ := ob_ h
  refine g_RX0_9 C T e4 dX0_layBack_6 ?_
  refine lv_iconst (v := 0) hx hb dX0_layBack_9 (by decide) ?_
  refine lv_bipush (v := 6) hx hb dX0_layBack_10 (by decide) ?_
  obtain ⟨μ5, e6, h⟩ := ob_ h
  refine th_copyn C T e6 (by decide) (by decide) hl.1 w_785 w_275 w_274 w_12 (Nat.le_of_ble_eq_true rfl) (Nat.le_of_ble_eq_true rfl) dX0_layBack_12 (fun H locs T => ?_)
  obtain rfl := os1 h
  exact th_vret hQ C hr hk T (Nat.le_of_ble_eq_true rfl) (Nat.le_of_ble_eq_true rfl) dX0_layBack_15
section TV
variable {p : Program} {l : Launch} {e : Env} {R : Room} {s : State} {m : MethodId} {args : Array Value} {below : List Frame} {meth : Method} {c : Code} {H : Heap} {locs : List Loc} {cells slots : Nat} {Q : State → Prop}
variable {cc : ByteArray} {pc nL : Nat} {ls : Array Slot} {rest : List Value} {G : th_G} {σ : th_S} {μ : th_M}
set_option maxRecDepth 100000 in
set_option maxHeartbeats 4000000 in
theorem vc_RX10_268 (C : CallFix p m c cc nL s args th_ws RX10) (T : th_R G s H locs σ μ) {t : Nat}  {μ' : th_M} (h : fD_layBack σ μ t = some μ') (hls : ls.size = nL) {st1 : List Value} (hst1 : none.toList ++ rest = st1) (h8 : (rest.map fun v => v.category).sum ≤ 8) (hR : 1 + 1 ≤ R.frames ∧ 100 ≤ R.locals) (hf : cells + 0 ≤ R.cells ∧ slots + 0 ≤ R.slots) (hdg : decode cc pc = .ok (.invokevirtual 268, 3))
    (kk : ∀ (H : Heap) (locs : List Loc), th_R G s H locs σ μ' → W p l e R s m args below meth c H locs cells slots Q (F0 m (pc + 3) ls st1)) : W p l e R s m args below meth c H locs cells slots Q (F0 m pc ls ([].reverse ++ .ref t :: rest)) := by
  unfold fD_layBack at h
  by_cases h0 : σ.1 t = 0
  · replace h := ot_ h0 h
    exact th_callV (n := 0) (As := []) C T (c_X0_layBack h) ⟨w_790, w_791, w_792, w_14, w_799, by decide +kernel⟩ 0 rfl rfl (by decide) h0 rfl hls rfl hst1 rfl rfl h8 ⟨by have := hR.1; show 1 + 1 ≤ _; omega, by have := hR.2; show 8 + (1 + 11) + 80 ≤ _; omega⟩ hf hdg kk
  replace h := of_ h0 h
  by_cases h1 : σ.1 t = 1
  · replace h := ot_ h1 h
    exact th_callU (n := 0) (As := []) C T (c_X0_layBack h) (x := yX0_layBack) (Cn := RX1) (owner := RX0) ⟨w_790, w_793, w_794, w_791, w_14, w_799, Or.inl rfl, by decide +kernel⟩ 1 rfl rfl (by decide) h1 rfl hls rfl hst1 rfl rfl h8 ⟨by have := hR.1; show 1 + 1 ≤ _; omega, by have := hR.2; show 8 + (1 + 11) + 80 ≤ _; omega⟩ hf hdg kk
  replace h := of_ h1 h
  by_cases h2 : σ.1 t = 2
  · replace h := ot_ h2 h
    exact th_callU (n := 0) (As := []) C T (c_X0_layBack h) (x := yX0_layBack) (Cn := RX2) (owner := RX0) ⟨w_790, w_793, w_795, w_791, w_14, w_799, Or.inl rfl, by decide +kernel⟩ 2 rfl rfl (by decide) h2 rfl hls rfl hst1 rfl rfl h8 ⟨by have := hR.1; show 1 + 1 ≤ _; omega, by have := hR.2; show 8 + (1 + 11) + 80 ≤ _; omega⟩ hf hdg kk
  replace h := of_ h2 h
  by_cases h3 : σ.1 t = 3
  · replace h := ot_ h3 h
    exact th_callU (n := 0) (As := []) C T (c_X0_layBack h) (x := yX0_layBack) (Cn := RX3) (owner := RX0) ⟨w_790, w_793, w_796, w_791, w_14, w_799, Or.inl rfl, by decide +kernel⟩ 3 rfl rfl (by decide) h3 rfl hls rfl hst1 rfl rfl h8 ⟨by have := hR.1; show 1 + 1 ≤ _; omega, by have := hR.2; show 8 + (1 + 11) + 80 ≤ _; omega⟩ hf hdg kk
  replace h := of_ h3 h
  by_cases h4 : σ.1 t = 4
  · replace h := ot_ h4 h
    exact th_callU (n := 0) (As := []) C T (c_X0_layBack h) (x := yX0_layBack) (Cn := RX4) (owner := RX0) ⟨w_790, w_793, w_797, w_791, w_14, w_799, Or.inl rfl, by decide +kernel⟩ 4 rfl rfl (by decide) h4 rfl hls rfl hst1 rfl rfl h8 ⟨by have := hR.1; show 1 + 1 ≤ _; omega, by have := hR.2; show 8 + (1 + 11) + 80 ≤ _; omega⟩ hf hdg kk
  replace h := of_ h4 h
  by_cases h7 : σ.1 t = 7
  · replace h := ot_ h7 h
    exact th_callU (n := 0) (As := []) C T (c_X0_layBack h) (x := yX0_layBack) (Cn := RX7) (owner := RX0) ⟨w_790, w_793, w_798, w_791, w_14, w_799, Or.inl rfl, by decide +kernel⟩ 7 rfl rfl (by decide) h7 rfl hls rfl hst1 rfl rfl h8 ⟨by have := hR.1; show 1 + 1 ≤ _; omega, by have := hR.2; show 8 + (1 + 11) + 80 ≤ _; omega⟩ hf hdg kk
  replace h := of_ h7 h
  cases h
end TV
set_option maxRecDepth 100000 in
set_option maxHeartbeats 4000000 in
theorem c_X4_init {l : Launch} {G : th_G} {σ : th_S} {μ : th_M} {t : Nat} {x1 : Int32} {x2 : Int32}  {σ' : th_S} {μ' : th_M} (h : f_X4_init σ μ t x1 x2 = some (σ', μ')) : th_Met l G yX4_init cX4_init 3 none { frames := 2, cells := 2, slots := 12, locals := 102 } [.ref t, .int x1, .int x2] σ μ none σ' μ' := by
  refine th_ofW (by decide +kernel) (Nat.le_of_ble_eq_true rfl) ?_
  intro p e s m args below meth c ls Q hQ C hr hk hnm T hl
  have hx := C.1
  have hb := C.2.1
  have C : CallFix p m c cX4_init 3 s args th_ws RX4 := C
  have hl : lv_has ls 3 [(0, .ref t), (1, .int x1), (2, .int x2)] := hl
  unfold f_X4_init at h
  refine lv_aload_n hx hb dX4_init_0 rfl (lv_at hl 0 rfl) ?_
  refine lv_iload_n hx hb dX4_init_1 rfl (lv_at hl 1 rfl) ?_
  refine lv_iload_n hx hb dX4_init_2 rfl (lv_at hl 2 rfl) ?_
  obtain ⟨σ1, μ2, e3, h⟩ := ob2 h
  refine th_callI (As := [.int x1, .int x2]) (rest := []) C T (c_X0_init e3) k_RX4_1 rfl hl.1 rfl (st1 := []) rfl (cells1 := 2) rfl (slots1 := 12) rfl (Nat.le_of_ble_eq_true rfl) ⟨Nat.le_of_ble_eq_true rfl, Nat.le_of_ble_eq_true rfl⟩ ⟨Nat.le_of_ble_eq_true rfl, Nat.le_of_ble_eq_true rfl⟩ dX4_init_3 (fun H locs T => ?_)
  obtain ⟨rfl, rfl⟩ := os2 h
  exact th_vret hQ C hr hk T (Nat.le_of_ble_eq_true rfl) (Nat.le_of_ble_eq_true rfl) dX4_init_6
set_option maxRecDepth 100000 in
set_option maxHeartbeats 4000000 in
theorem c_X1_init {l : Launch} {G : th_G} {σ : th_S} {μ : th_M} {t : Nat} {x1 : Int32} {x2 : Int32}  {σ' : th_S} {μ' : th_M} (h : f_X1_init σ μ t x1 x2 = some (σ', μ')) : th_Met l G yX1_init cX1_init 3 none { frames := 3, cells := 2, slots := 12, locals := 124 } [.ref t, .int x1, .int x2] σ μ none σ' μ' := by
  refine th_ofW (by decide +kernel) (Nat.le_of_ble_eq_true rfl) ?_
  intro p e s m args below meth c ls Q hQ C hr hk hnm T hl
  have hx := C.1
  have hb := C.2.1
  have C : CallFix p m c cX1_init 3 s args th_ws RX1 := C
  have hl : lv_has ls 3 [(0, .ref t), (1, .int x1), (2, .int x2)] := hl
  unfold f_X1_init at h
  refine lv_aload_n hx hb dX1_init_0 rfl (lv_at hl 0 rfl) ?_
  refine lv_iload_n hx hb dX1_init_1 rfl (lv_at hl 1 rfl) ?_
  refine lv_iload_n hx hb dX1_init_2 rfl (lv_at hl 2 rfl) ?_
  obtain ⟨σ1, μ2, e3, h⟩ := ob2 h
  refine th_callI (As := [.int x1, .int x2]) (rest := []) C T (c_X4_init e3) k_RX1_1 rfl hl.1 rfl (st1 := []) rfl (cells1 := 2) rfl (slots1 := 12) rfl (Nat.le_of_ble_eq_true rfl) ⟨Nat.le_of_ble_eq_true rfl, Nat.le_of_ble_eq_true rfl⟩ ⟨Nat.le_of_ble_eq_true rfl, Nat.le_of_ble_eq_true rfl⟩ dX1_init_3 (fun H locs T => ?_)
  obtain ⟨rfl, rfl⟩ := os2 h
  exact th_vret hQ C hr hk T (Nat.le_of_ble_eq_true rfl) (Nat.le_of_ble_eq_true rfl) dX1_init_6
set_option maxRecDepth 100000 in
set_option maxHeartbeats 4000000 in
theorem c_X1_kind {l : Launch} {G : th_G} {σ : th_S} {μ : th_M} {t : Nat} {r : Int32} (h : f_X1_kind σ μ t = some r) : th_Met l G yX1_kind cX1_kind 1 (some FieldType.int) { frames := 0, cells := 0, slots := 0, locals := 0 } [.ref t] σ μ (some (.int r)) σ μ := by
  refine th_ofW (by decide +kernel) (Nat.le_of_ble_eq_true rfl) ?_
  intro p e s m args below meth c ls Q hQ C hr hk hnm T hl
  have hx := C.1
  have hb := C.2.1
  have C : CallFix p m c cX1_kind 1 s args th_ws RX1 := C
  have hl : lv_has ls 1 [(0, .ref t)] := hl
  unfold f_X1_kind at h
  refine lv_iconst (v := 4) hx hb dX1_kind_0 (by decide) ?_
  obtain rfl := os1 h
  exact th_iret hQ C hr hk T (Nat.le_of_ble_eq_true rfl) (Nat.le_of_ble_eq_true rfl) dX1_kind_1
set_option maxRecDepth 100000 in
set_option maxHeartbeats 4000000 in
theorem c_X7_init {l : Launch} {G : th_G} {σ : th_S} {μ : th_M} {t : Nat} {x1 : Int32} {x2 : Int32}  {σ' : th_S} {μ' : th_M} (h : f_X7_init σ μ t x1 x2 = some (σ', μ')) : th_Met l G yX7_init cX7_init 3 none { frames := 2, cells := 2, slots := 12, locals := 102 } [.ref t, .int x1, .int x2] σ μ none σ' μ' := by
  refine th_ofW (by decide +kernel) (Nat.le_of_ble_eq_true rfl) ?_
  intro p e s m args below meth c ls Q hQ C hr hk hnm T hl
  have hx := C.1
  have hb := C.2.1
  have C : CallFix p m c cX7_init 3 s args th_ws RX7 := C
  have hl : lv_has ls 3 [(0, .ref t), (1, .int x1), (2, .int x2)] := hl
  unfold f_X7_init at h
  refine lv_aload_n hx hb dX7_init_0 rfl (lv_at hl 0 rfl) ?_
  refine lv_iload_n hx hb dX7_init_1 rfl (lv_at hl 1 rfl) ?_
  refine lv_iload_n hx hb dX7_init_2 rfl (lv_at hl 2 rfl) ?_
  obtain ⟨σ1, μ2, e3, h⟩ := ob2 h
  refine th_callI (As := [.int x1, .int x2]) (rest := []) C T (c_X0_init e3) k_RX7_3 rfl hl.1 rfl (st1 := []) rfl (cells1 := 2) rfl (slots1 := 12) rfl (Nat.le_of_ble_eq_true rfl) ⟨Nat.le_of_ble_eq_true rfl, Nat.le_of_ble_eq_true rfl⟩ ⟨Nat.le_of_ble_eq_true rfl, Nat.le_of_ble_eq_true rfl⟩ dX7_init_3 (fun H locs T => ?_)
  obtain ⟨rfl, rfl⟩ := os2 h
  exact th_vret hQ C hr hk T (Nat.le_of_ble_eq_true rfl) (Nat.le_of_ble_eq_true rfl) dX7_init_6
