set_option maxRecDepth 100000 in
set_option maxHeartbeats 4000000 in
theorem c_X8_clauseOf {l : Launch} {G : th_G} {σ : th_S} {μ : th_M} {t : Nat} {x1 : Int32} {r : Int32} {μ' : th_M} (h : f_X8_clauseOf σ μ t x1 = some (r, μ')) : th_Met l G yX8_clauseOf cX8_clauseOf 2 (some FieldType.boolean) { frames := 74, cells := 0, slots := 0, locals := 1839 } [.ref t, .int x1] σ μ (some (.int r)) σ μ' := by
  refine th_ofW (by decide +kernel) (Nat.le_of_ble_eq_true rfl) ?_
  intro p e s m args below meth c ls Q hQ C hr hk hnm T hl
  have hx := C.1
  have hb := C.2.1
  have C : CallFix p m c cX8_clauseOf 2 s args th_ws RX8 := C
  have hl : lv_has ls 2 [(0, .ref t), (1, .int x1)] := hl
  unfold f_X8_clauseOf at h
  refine lv_aload_n hx hb dX8_clauseOf_0 rfl (lv_at hl 0 rfl) ?_
  refine lv_iload_n hx hb dX8_clauseOf_1 rfl (lv_at hl 1 rfl) ?_
  obtain ⟨k1, h⟩ := oc_ h
  obtain ⟨v2, μ3, e4, h⟩ := ob2 h
  refine th_callV (As := [.int x1]) (rest := []) C T (c_X8_skip e4) k_RX8_55 8 rfl rfl (by decide) k1 rfl hl.1 rfl (st1 := [.int v2]) rfl (cells1 := 0) rfl (slots1 := 0) rfl (Nat.le_of_ble_eq_true rfl) ⟨Nat.le_of_ble_eq_true rfl, Nat.le_of_ble_eq_true rfl⟩ ⟨Nat.le_of_ble_eq_true rfl, Nat.le_of_ble_eq_true rfl⟩ dX8_clauseOf_2 (fun H locs T => ?_)
  refine lv_if_eq (tgt := 29) hx hb dX8_clauseOf_5 (by decide) (fun c5 => ?_) (fun c5 => ?_)
  · replace h := ot_ c5 h
    refine lv_iconst (v := 0) hx hb dX8_clauseOf_29 (by decide) ?_
    obtain ⟨rfl, rfl⟩ := os2 h
    exact th_zret hQ C hr hk T (Nat.le_of_ble_eq_true rfl) (Nat.le_of_ble_eq_true rfl) dX8_clauseOf_30 rfl
  · replace h := of_ c5 h
    refine lv_aload_n hx hb dX8_clauseOf_8 rfl (lv_at hl 0 rfl) ?_
    refine lv_iconst (v := 0) hx hb dX8_clauseOf_9 (by decide) ?_
    obtain ⟨v6, μ7, e8, h⟩ := ob2 h
    refine th_callV (As := [.int 0]) (rest := []) C T (c_X8_either e8) k_RX8_58 8 rfl rfl (by decide) k1 rfl hl.1 rfl (st1 := [.int v6]) rfl (cells1 := 0) rfl (slots1 := 0) rfl (Nat.le_of_ble_eq_true rfl) ⟨Nat.le_of_ble_eq_true rfl, Nat.le_of_ble_eq_true rfl⟩ ⟨Nat.le_of_ble_eq_true rfl, Nat.le_of_ble_eq_true rfl⟩ dX8_clauseOf_10 (fun H locs T => ?_)
    refine lv_if_eq (tgt := 29) hx hb dX8_clauseOf_13 (by decide) (fun c9 => ?_) (fun c9 => ?_)
    · replace h := ot_ c9 h
      refine lv_iconst (v := 0) hx hb dX8_clauseOf_29 (by decide) ?_
      obtain ⟨rfl, rfl⟩ := os2 h
      exact th_zret hQ C hr hk T (Nat.le_of_ble_eq_true rfl) (Nat.le_of_ble_eq_true rfl) dX8_clauseOf_30 rfl
    · replace h := of_ c9 h
      refine lv_aload_n hx hb dX8_clauseOf_16 rfl (lv_at hl 0 rfl) ?_
      refine lv_bipush (v := 59) hx hb dX8_clauseOf_17 (by decide) ?_
      obtain ⟨v10, μ11, e12, h⟩ := ob2 h
      refine th_callV (As := [.int 59]) (rest := []) C T (c_X8_skip e12) k_RX8_55 8 rfl rfl (by decide) k1 rfl hl.1 rfl (st1 := [.int v10]) rfl (cells1 := 0) rfl (slots1 := 0) rfl (Nat.le_of_ble_eq_true rfl) ⟨Nat.le_of_ble_eq_true rfl, Nat.le_of_ble_eq_true rfl⟩ ⟨Nat.le_of_ble_eq_true rfl, Nat.le_of_ble_eq_true rfl⟩ dX8_clauseOf_19 (fun H locs T => ?_)
      refine lv_if_eq (tgt := 29) hx hb dX8_clauseOf_22 (by decide) (fun c13 => ?_) (fun c13 => ?_)
      · replace h := ot_ c13 h
        refine lv_iconst (v := 0) hx hb dX8_clauseOf_29 (by decide) ?_
        obtain ⟨rfl, rfl⟩ := os2 h
        exact th_zret hQ C hr hk T (Nat.le_of_ble_eq_true rfl) (Nat.le_of_ble_eq_true rfl) dX8_clauseOf_30 rfl
      · replace h := of_ c13 h
        refine lv_iconst (v := 1) hx hb dX8_clauseOf_25 (by decide) ?_
        refine lv_goto (tgt := 30) hx hb dX8_clauseOf_26 (by decide) ?_
        obtain ⟨rfl, rfl⟩ := os2 h
        exact th_zret hQ C hr hk T (Nat.le_of_ble_eq_true rfl) (Nat.le_of_ble_eq_true rfl) dX8_clauseOf_30 rfl
set_option maxRecDepth 100000 in
set_option maxHeartbeats 4000000 in
theorem c_X8_read {l : Launch} {G : th_G} {σ : th_S} {μ : th_M} {t : Nat} {r : Int32} {μ' : th_M} (h : f_X8_read σ μ t = some (r, μ')) : th_Met l G yX8_read cX8_read 2 (some FieldType.int) { frames := 75, cells := 0, slots := 0, locals := 1860 } [.ref t] σ μ (some (.int r)) σ μ' := by
  refine th_ofW (by decide +kernel) (Nat.le_of_ble_eq_true rfl) ?_
  intro p e s m args below meth c ls Q hQ C hr hk hnm T hl
  have hx := C.1
  have hb := C.2.1
  have C : CallFix p m c cX8_read 2 s args th_ws RX8 := C
  have hl : lv_has ls 2 [(0, .ref t)] := hl
  have J16 : ∀ (n : Nat) (μ : th_M) (t : Nat) (x1 : Int32) (H : Heap) (locs : List Loc) (ls : Array Slot), th_R G s H locs σ μ → lv_has ls 2 [(0, .ref t), (1, .int x1)] → f_X8_read_b16  n σ μ t x1 = some (r, μ') → W p l e { frames := 75, cells := 0, slots := 0, locals := 1860 } s m args below meth c H locs 0 0 Q (F0 m 16 ls []) := by
    intro n
    induction n with
    | zero => intro μ t x1 H locs ls T hl h; unfold f_X8_read_b16 at h; cases h
    | succ n16 ih16 =>
      intro μ t x1 H locs ls T hl h
      unfold f_X8_read_b16 at h
      refine lv_iload_n hx hb dX8_read_16 rfl (lv_at hl 1 rfl) ?_
      refine lv_iconst (v := 3) hx hb dX8_read_17 (by decide) ?_
      refine lv_icmp_ge (tgt := 53) hx hb dX8_read_18 (by decide) (fun c1 => ?_) (fun c1 => ?_)
      · replace h := ot_ c1 h
        refine lv_aload_n hx hb dX8_read_53 rfl (lv_at hl 0 rfl) ?_
        obtain ⟨v2, e3, h⟩ := ob_ h
        refine g_RX8_41 C T e3 dX8_read_54 ?_
        refine lv_iconst (v := -1) hx hb dX8_read_57 (by decide) ?_
        refine lv_icmp_ne (tgt := 65) hx hb dX8_read_58 (by decide) (fun c4 => ?_) (fun c4 => ?_)
        · replace h := of_ c4 h
          refine lv_aload_n hx hb dX8_read_65 rfl (lv_at hl 0 rfl) ?_
          obtain ⟨v5, e6, h⟩ := ob_ h
          refine g_RX8_38 C T e6 dX8_read_66 ?_
          obtain ⟨rfl, rfl⟩ := os2 h
          exact th_iret hQ C hr hk T (Nat.le_of_ble_eq_true rfl) (Nat.le_of_ble_eq_true rfl) dX8_read_69
        · replace h := ot_ c4 h
          refine lv_iconst (v := -1) hx hb dX8_read_61 (by decide) ?_
          refine lv_goto (tgt := 69) hx hb dX8_read_62 (by decide) ?_
          obtain ⟨rfl, rfl⟩ := os2 h
          exact th_iret hQ C hr hk T (Nat.le_of_ble_eq_true rfl) (Nat.le_of_ble_eq_true rfl) dX8_read_69
      · replace h := of_ c1 h
        refine lv_aload_n hx hb dX8_read_21 rfl (lv_at hl 0 rfl) ?_
        refine lv_bipush (v := 6) hx hb dX8_read_22 (by decide) ?_
        refine lv_iload_n hx hb dX8_read_24 rfl (lv_at hl 1 rfl) ?_
        refine lv_iadd hx hb dX8_read_25 ?_
        obtain ⟨k7, h⟩ := oc_ h
        obtain ⟨v8, μ9, e10, h⟩ := ob2 h
        refine th_callV (As := [.int (6 + x1)]) (rest := []) C T (c_X8_clauseOf e10) k_RX8_34 8 rfl rfl (by decide) k7 rfl hl.1 rfl (st1 := [.int v8]) rfl (cells1 := 0) rfl (slots1 := 0) rfl (Nat.le_of_ble_eq_true rfl) ⟨Nat.le_of_ble_eq_true rfl, Nat.le_of_ble_eq_true rfl⟩ ⟨Nat.le_of_ble_eq_true rfl, Nat.le_of_ble_eq_true rfl⟩ dX8_read_26 (fun H locs T => ?_)
        refine lv_if_ne (tgt := 37) hx hb dX8_read_29 (by decide) (fun c11 => ?_) (fun c11 => ?_)
        · replace h := of_ c11 h
          refine lv_aload_n hx hb dX8_read_37 rfl (lv_at hl 0 rfl) ?_
          obtain ⟨a12, e13, h⟩ := ob_ h
          refine g_RX8_18 C T e13 dX8_read_38 ?_
          refine lv_iload_n hx hb dX8_read_41 rfl (lv_at hl 1 rfl) ?_
          refine lv_aload_n hx hb dX8_read_42 rfl (lv_at hl 0 rfl) ?_
          obtain ⟨v14, e15, h⟩ := ob_ h
          refine g_RX8_25 C T e15 dX8_read_43 ?_
          obtain ⟨μ16, e17, h⟩ := ob_ h
          refine th_iast C T e17 dX8_read_46 (fun H locs T => ?_)
          refine lv_iinc (v := x1 + 1) (lv' := [(1, .int (x1 + 1)), (0, .ref t)]) hx hb dX8_read_47 hl (k := 1) rfl rfl (by decide) rfl (fun ls hl => ?_)
          refine lv_goto (tgt := 16) hx hb dX8_read_50 (by decide) ?_
          exact ih16 _ _ _ _ _ _ T (lv_sub hl [1, 0] rfl) h
        · replace h := ot_ c11 h
          refine lv_aload_n hx hb dX8_read_32 rfl (lv_at hl 0 rfl) ?_
          obtain ⟨v18, e19, h⟩ := ob_ h
          refine g_RX8_38 C T e19 dX8_read_33 ?_
          obtain ⟨rfl, rfl⟩ := os2 h
          exact th_iret hQ C hr hk T (Nat.le_of_ble_eq_true rfl) (Nat.le_of_ble_eq_true rfl) dX8_read_36
  unfold f_X8_read at h
  refine lv_aload_n hx hb dX8_read_0 rfl (lv_at hl 0 rfl) ?_
  refine lv_iconst (v := 0) hx hb dX8_read_1 (by decide) ?_
  obtain ⟨μ1, e2, h⟩ := ob_ h
  refine p_RX8_25 C T e2 dX8_read_2 (fun H locs T => ?_)
  refine lv_aload_n hx hb dX8_read_5 rfl (lv_at hl 0 rfl) ?_
  refine lv_iconst (v := 0) hx hb dX8_read_6 (by decide) ?_
  obtain ⟨μ3, e4, h⟩ := ob_ h
  refine p_RX8_28 C T e4 dX8_read_7 (fun H locs T => ?_)
  refine lv_aload_n hx hb dX8_read_10 rfl (lv_at hl 0 rfl) ?_
  obtain ⟨k5, h⟩ := oc_ h
  obtain ⟨μ6, e7, h⟩ := ob_ h
  refine th_callV (As := []) (rest := []) C T (c_X8_step e7) k_RX8_31 8 rfl rfl (by decide) k5 rfl hl.1 rfl (st1 := []) rfl (cells1 := 0) rfl (slots1 := 0) rfl (Nat.le_of_ble_eq_true rfl) ⟨Nat.le_of_ble_eq_true rfl, Nat.le_of_ble_eq_true rfl⟩ ⟨Nat.le_of_ble_eq_true rfl, Nat.le_of_ble_eq_true rfl⟩ dX8_read_11 (fun H locs T => ?_)
  refine lv_iconst (v := 0) hx hb dX8_read_14 (by decide) ?_
  refine lv_istore_n (lv' := [(1, .int 0), (0, .ref t)]) hx hb dX8_read_15 rfl hl (by decide) rfl (fun ls hl => ?_)
  exact J16 fu _ _ _ _ _ _ T (lv_sub hl [1, 0] rfl) h
set_option maxRecDepth 100000 in
set_option maxHeartbeats 4000000 in
theorem c_X8_ruleRead {l : Launch} {G : th_G} {σ : th_S} {μ : th_M} {t : Nat} {r : Nat} {σ' : th_S} {μ' : th_M} (h : f_X8_ruleRead σ μ t = some (r, σ', μ')) : th_Met l G yX8_ruleRead cX8_ruleRead 1 (some (FieldType.object "BoatsCalledIn$Rule")) { frames := 3, cells := 4, slots := 435, locals := 142 } [.ref t] σ μ (some (.ref r)) σ' μ' := by
  refine th_ofW (by decide +kernel) (Nat.le_of_ble_eq_true rfl) ?_
  intro p e s m args below meth c ls Q hQ C hr hk hnm T hl
  have hx := C.1
  have hb := C.2.1
  have C : CallFix p m c cX8_ruleRead 1 s args th_ws RX8 := C
  have hl : lv_has ls 1 [(0, .ref t)] := hl
  unfold f_X8_ruleRead at h
  obtain ⟨a1, σ2, μ3, e4, h⟩ := ob3 h
  refine n_RX8_44 C T e4 (Nat.le_of_ble_eq_true rfl) (Nat.le_of_ble_eq_true rfl) dX8_ruleRead_0 (fun H T => ?_)
  refine W.eqc (c1 := 1) (s1 := 4) rfl rfl ?_
  refine lv_dup hx hb dX8_ruleRead_3 rfl ?_
  refine lv_aload_n hx hb dX8_ruleRead_4 rfl (lv_at hl 0 rfl) ?_
  obtain ⟨a5, e6, h⟩ := ob_ h
  refine g_RX8_15 C T e6 dX8_ruleRead_5 ?_
  refine lv_aload_n hx hb dX8_ruleRead_8 rfl (lv_at hl 0 rfl) ?_
  obtain ⟨v7, e8, h⟩ := ob_ h
  refine g_RX8_25 C T e8 dX8_ruleRead_9 ?_
  obtain ⟨a9, σ10, μ11, e12, h⟩ := ob3 h
  refine th_callS (As := [.ref a5, .int v7]) (rest := [.ref a1, .ref a1]) C T (c_J7_copyOf_59c91 e12) k_RX8_46 rfl hl.1 rfl (st1 := [.ref a9, .ref a1, .ref a1]) rfl (cells1 := 2) rfl (slots1 := 204) rfl (Nat.le_of_ble_eq_true rfl) ⟨Nat.le_of_ble_eq_true rfl, Nat.le_of_ble_eq_true rfl⟩ ⟨Nat.le_of_ble_eq_true rfl, Nat.le_of_ble_eq_true rfl⟩ dX8_ruleRead_12 (fun H locs T => ?_)
  refine lv_aload_n hx hb dX8_ruleRead_15 rfl (lv_at hl 0 rfl) ?_
  obtain ⟨a13, e14, h⟩ := ob_ h
  refine g_RX8_18 C T e14 dX8_ruleRead_16 ?_
  refine lv_iconst (v := 3) hx hb dX8_ruleRead_19 (by decide) ?_
  obtain ⟨a15, σ16, μ17, e18, h⟩ := ob3 h
  refine th_callS (As := [.ref a13, .int 3]) (rest := [.ref a9, .ref a1, .ref a1]) C T (c_J7_copyOf_59c91 e18) k_RX8_46 rfl hl.1 rfl (st1 := [.ref a15, .ref a9, .ref a1, .ref a1]) rfl (cells1 := 3) rfl (slots1 := 404) rfl (Nat.le_of_ble_eq_true rfl) ⟨Nat.le_of_ble_eq_true rfl, Nat.le_of_ble_eq_true rfl⟩ ⟨Nat.le_of_ble_eq_true rfl, Nat.le_of_ble_eq_true rfl⟩ dX8_ruleRead_20 (fun H locs T => ?_)
  obtain ⟨σ19, μ20, e21, h⟩ := ob2 h
  refine th_callI (As := [.ref a9, .ref a15]) (rest := [.ref a1]) C T (c_X5_init e21) k_RX8_52 rfl hl.1 rfl (st1 := [.ref a1]) rfl (cells1 := 4) rfl (slots1 := 435) rfl (Nat.le_of_ble_eq_true rfl) ⟨Nat.le_of_ble_eq_true rfl, Nat.le_of_ble_eq_true rfl⟩ ⟨Nat.le_of_ble_eq_true rfl, Nat.le_of_ble_eq_true rfl⟩ dX8_ruleRead_23 (fun H locs T => ?_)
  obtain ⟨rfl, rfl, rfl⟩ := os3 h
  exact th_aret hQ C hr hk T (Nat.le_of_ble_eq_true rfl) (Nat.le_of_ble_eq_true rfl) dX8_ruleRead_26 (Or.inl ⟨_, rfl⟩)
set_option maxRecDepth 100000 in
set_option maxHeartbeats 4000000 in
theorem c_X9_init {l : Launch} {G : th_G} {σ : th_S} {μ : th_M} {t : Nat}  {σ' : th_S} {μ' : th_M} (h : f_X9_init σ μ t = some (σ', μ')) : th_Met l G yX9_init cX9_init 1 none { frames := 1, cells := 2, slots := 903, locals := 80 } [.ref t] σ μ none σ' μ' := by
  refine th_ofW (by decide +kernel) (Nat.le_of_ble_eq_true rfl) ?_
  intro p e s m args below meth c ls Q hQ C hr hk hnm T hl
  have hx := C.1
  have hb := C.2.1
  have C : CallFix p m c cX9_init 1 s args th_ws RX9 := C
  have hl : lv_has ls 1 [(0, .ref t)] := hl
  unfold f_X9_init at h
  refine lv_aload_n hx hb dX9_init_0 rfl (lv_at hl 0 rfl) ?_
  refine W.objInit hx hb C.2.2.2.1 (C.2.2.2.2 _ w_74) (C.2.2.2.2 _ w_27) (C.2.2.2.2 _ w_28) rfl (by rw [C.2.2.1]; exact hl.1) rfl dX9_init_1 (Nat.le_of_ble_eq_true rfl) (Nat.le_of_ble_eq_true rfl) ?_
  refine W.eq (g2 := F0 m 4 ls []) rfl ?_
  refine lv_aload_n hx hb dX9_init_4 rfl (lv_at hl 0 rfl) ?_
  refine lv_bipush (v := 7) hx hb dX9_init_5 (by decide) ?_
  obtain ⟨a1, σ2, μ3, e4, h⟩ := ob3 h
  refine th_newa C T 7 e4 (by decide) (by decide) (by decide) w_66 (Nat.le_of_ble_eq_true rfl) (Nat.le_of_ble_eq_true rfl) dX9_init_7 (fun H T => ?_)
  refine W.eqc (c1 := 1) (s1 := 7) rfl rfl ?_
  obtain ⟨σ5, e6, h⟩ := ob_ h
  refine p_RX9_9 C T e6 hnm dX9_init_9 (fun H locs T => ?_)
  refine lv_aload_n hx hb dX9_init_12 rfl (lv_at hl 0 rfl) ?_
  refine lv_iconst (v := 1) hx hb dX9_init_13 (by decide) ?_
  obtain ⟨μ7, e8, h⟩ := ob_ h
  refine p_RX9_15 C T e8 dX9_init_14 (fun H locs T => ?_)
  refine lv_aload_n hx hb dX9_init_17 rfl (lv_at hl 0 rfl) ?_
  refine lv_iconst (v := 1) hx hb dX9_init_18 (by decide) ?_
  obtain ⟨μ9, e10, h⟩ := ob_ h
  refine p_RX9_19 C T e10 dX9_init_19 (fun H locs T => ?_)
  refine lv_aload_n hx hb dX9_init_22 rfl (lv_at hl 0 rfl) ?_
  refine lv_sipush (v := 896) hx hb dX9_init_23 (by decide) ?_
  obtain ⟨a11, σ12, μ13, e14, h⟩ := ob3 h
  refine th_newa C T 896 e14 (by decide) (by decide) (by decide) w_66 (Nat.le_of_ble_eq_true rfl) (Nat.le_of_ble_eq_true rfl) dX9_init_26 (fun H T => ?_)
  refine W.eqc (c1 := 2) (s1 := 903) rfl rfl ?_
  obtain ⟨σ15, e16, h⟩ := ob_ h
  refine p_RX9_22 C T e16 hnm dX9_init_28 (fun H locs T => ?_)
  obtain ⟨rfl, rfl⟩ := os2 h
  exact th_vret hQ C hr hk T (Nat.le_of_ble_eq_true rfl) (Nat.le_of_ble_eq_true rfl) dX9_init_31
set_option maxRecDepth 100000 in
set_option maxHeartbeats 4000000 in
theorem c_J6_bitCount_0f7a4 {l : Launch} {G : th_G} {σ : th_S} {μ : th_M} {x0 : Int32} {r : Int32} (h : f_J6_bitCount_0f7a4 x0 = some r) : th_Met l G yJ6_bitCount_0f7a4 cJ6_bitCount_0f7a4 1 (some FieldType.int) { frames := 0, cells := 0, slots := 0, locals := 0 } [.int x0] σ μ (some (.int r)) σ μ := by
  refine th_ofW (by decide +kernel) (Nat.le_of_ble_eq_true rfl) ?_
  intro p e s m args below meth c ls Q hQ C hr hk hnm T hl
  have hx := C.1
  have hb := C.2.1
  have C : CallFix p m c cJ6_bitCount_0f7a4 1 s args th_ws RJ6 := C
  have hl : lv_has ls 1 [(0, .int x0)] := hl
  unfold f_J6_bitCount_0f7a4 at h
  refine lv_iload_n hx hb dJ6_bitCount_0f7a4_0 rfl (lv_at hl 0 rfl) ?_
  refine lv_iload_n hx hb dJ6_bitCount_0f7a4_1 rfl (lv_at hl 0 rfl) ?_
  refine lv_iconst (v := 1) hx hb dJ6_bitCount_0f7a4_2 (by decide) ?_
  refine lv_iushr hx hb dJ6_bitCount_0f7a4_3 rfl ?_
  refine lv_ldcw hx hb C.2.2.2.1 (C.2.2.2.2 _ w_683) dJ6_bitCount_0f7a4_4 ?_
  refine lv_iand hx hb dJ6_bitCount_0f7a4_7 ?_
  refine lv_isub hx hb dJ6_bitCount_0f7a4_8 ?_
  refine lv_istore_n (lv' := [(0, .int (x0 - (((x0.toUInt32 >>> ((1 : Int32).toUInt32 &&& Int32.toUInt32 31)).toInt32) &&& 1431655765)))]) hx hb dJ6_bitCount_0f7a4_9 rfl hl (by decide) rfl (fun ls hl => ?_)
  refine lv_iload_n hx hb dJ6_bitCount_0f7a4_10 rfl (lv_at hl 0 rfl) ?_
  refine lv_ldcw hx hb C.2.2.2.1 (C.2.2.2.2 _ w_684) dJ6_bitCount_0f7a4_11 ?_
  refine lv_iand hx hb dJ6_bitCount_0f7a4_14 ?_
  refine lv_iload_n hx hb dJ6_bitCount_0f7a4_15 rfl (lv_at hl 0 rfl) ?_
  refine lv_iconst (v := 2) hx hb dJ6_bitCount_0f7a4_16 (by decide) ?_
  refine lv_iushr hx hb dJ6_bitCount_0f7a4_17 rfl ?_
  refine lv_ldcw hx hb C.2.2.2.1 (C.2.2.2.2 _ w_684) dJ6_bitCount_0f7a4_18 ?_
  refine lv_iand hx hb dJ6_bitCount_0f7a4_21 ?_
  refine lv_iadd hx hb dJ6_bitCount_0f7a4_22 ?_
  refine lv_istore_n (lv' := [(0, .int (((x0 - (((x0.toUInt32 >>> ((1 : Int32).toUInt32 &&& Int32.toUInt32 31)).toInt32) &&& 1431655765)) &&& 858993459) + ((((x0 - (((x0.toUInt32 >>> ((1 : Int32).toUInt32 &&& Int32.toUInt32 31)).toInt32) &&& 1431655765)).toUInt32 >>> ((2 : Int32).toUInt32 &&& Int32.toUInt32 31)).toInt32) &&& 858993459)))]) hx hb dJ6_bitCount_0f7a4_23 rfl hl (by decide) rfl (fun ls hl => ?_)
  refine lv_iload_n hx hb dJ6_bitCount_0f7a4_24 rfl (lv_at hl 0 rfl) ?_
  refine lv_iload_n hx hb dJ6_bitCount_0f7a4_25 rfl (lv_at hl 0 rfl) ?_
  refine lv_iconst (v := 4) hx hb dJ6_bitCount_0f7a4_26 (by decide) ?_
  refine lv_iushr hx hb dJ6_bitCount_0f7a4_27 rfl ?_
  refine lv_iadd hx hb dJ6_bitCount_0f7a4_28 ?_
  refine lv_ldcw hx hb C.2.2.2.1 (C.2.2.2.2 _ w_685) dJ6_bitCount_0f7a4_29 ?_
  refine lv_iand hx hb dJ6_bitCount_0f7a4_32 ?_
  refine lv_istore_n (lv' := [(0, .int (((((x0 - (((x0.toUInt32 >>> ((1 : Int32).toUInt32 &&& Int32.toUInt32 31)).toInt32) &&& 1431655765)) &&& 858993459) + ((((x0 - (((x0.toUInt32 >>> ((1 : Int32).toUInt32 &&& Int32.toUInt32 31)).toInt32) &&& 1431655765)).toUInt32 >>> ((2 : Int32).toUInt32 &&& Int32.toUInt32 31)).toInt32) &&& 858993459)) + (((((x0 - (((x0.toUInt32 >>> ((1 : Int32).toUInt32 &&& Int32.toUInt32 31)).toInt32) &&& 1431655765)) &&& 858993459) + ((((x0 - (((x0.toUInt32 >>> ((1 : Int32).toUInt32 &&& Int32.toUInt32 31)).toInt32) &&& 1431655765)).toUInt32 >>> ((2 : Int32).toUInt32 &&& Int32.toUInt32 31)).toInt32) &&& 858993459)).toUInt32 >>> ((4 : Int32).toUInt32 &&& Int32.toUInt32 31)).toInt32)) &&& 252645135))]) hx hb dJ6_bitCount_0f7a4_33 rfl hl (by decide) rfl (fun ls hl => ?_)
  refine lv_iload_n hx hb dJ6_bitCount_0f7a4_34 rfl (lv_at hl 0 rfl) ?_
  refine lv_iload_n hx hb dJ6_bitCount_0f7a4_35 rfl (lv_at hl 0 rfl) ?_
  refine lv_bipush (v := 8) hx hb dJ6_bitCount_0f7a4_36 (by decide) ?_
  refine lv_iushr hx hb dJ6_bitCount_0f7a4_38 rfl ?_
  refine lv_iadd hx hb dJ6_bitCount_0f7a4_39 ?_
  refine lv_istore_n (lv' := [(0, .int ((((((x0 - (((x0.toUInt32 >>> ((1 : Int32).toUInt32 &&& Int32.toUInt32 31)).toInt32) &&& 1431655765)) &&& 858993459) + ((((x0 - (((x0.toUInt32 >>> ((1 : Int32).toUInt32 &&& Int32.toUInt32 31)).toInt32) &&& 1431655765)).toUInt32 >>> ((2 : Int32).toUInt32 &&& Int32.toUInt32 31)).toInt32) &&& 858993459)) + (((((x0 - (((x0.toUInt32 >>> ((1 : Int32).toUInt32 &&& Int32.toUInt32 31)).toInt32) &&& 1431655765)) &&& 858993459) + ((((x0 - (((x0.toUInt32 >>> ((1 : Int32).toUInt32 &&& Int32.toUInt32 31)).toInt32) &&& 1431655765)).toUInt32 >>> ((2 : Int32).toUInt32 &&& Int32.toUInt32 31)).toInt32) &&& 858993459)).toUInt32 >>> ((4 : Int32).toUInt32 &&& Int32.toUInt32 31)).toInt32)) &&& 252645135) + (((((((x0 - (((x0.toUInt32 >>> ((1 : Int32).toUInt32 &&& Int32.toUInt32 31)).toInt32) &&& 1431655765)) &&& 858993459) + ((((x0 - (((x0.toUInt32 >>> ((1 : Int32).toUInt32 &&& Int32.toUInt32 31)).toInt32) &&& 1431655765)).toUInt32 >>> ((2 : Int32).toUInt32 &&& Int32.toUInt32 31)).toInt32) &&& 858993459)) + (((((x0 - (((x0.toUInt32 >>> ((1 : Int32).toUInt32 &&& Int32.toUInt32 31)).toInt32) &&& 1431655765)) &&& 858993459) + ((((x0 - (((x0.toUInt32 >>> ((1 : Int32).toUInt32 &&& Int32.toUInt32 31)).toInt32) &&& 1431655765)).toUInt32 >>> ((2 : Int32).toUInt32 &&& Int32.toUInt32 31)).toInt32) &&& 858993459)).toUInt32 >>> ((4 : Int32).toUInt32 &&& Int32.toUInt32 31)).toInt32)) &&& 252645135).toUInt32 >>> ((8 : Int32).toUInt32 &&& Int32.toUInt32 31)).toInt32)))]) hx hb dJ6_bitCount_0f7a4_40 rfl hl (by decide) rfl (fun ls hl => ?_)
  refine lv_iload_n hx hb dJ6_bitCount_0f7a4_41 rfl (lv_at hl 0 rfl) ?_
  refine lv_iload_n hx hb dJ6_bitCount_0f7a4_42 rfl (lv_at hl 0 rfl) ?_
  refine lv_bipush (v := 16) hx hb dJ6_bitCount_0f7a4_43 (by decide) ?_
  refine lv_iushr hx hb dJ6_bitCount_0f7a4_45 rfl ?_
  refine lv_iadd hx hb dJ6_bitCount_0f7a4_46 ?_
  refine lv_istore_n (lv' := [(0, .int (((((((x0 - (((x0.toUInt32 >>> ((1 : Int32).toUInt32 &&& Int32.toUInt32 31)).toInt32) &&& 1431655765)) &&& 858993459) + ((((x0 - (((x0.toUInt32 >>> ((1 : Int32).toUInt32 &&& Int32.toUInt32 31)).toInt32) &&& 1431655765)).toUInt32 >>> ((2 : Int32).toUInt32 &&& Int32.toUInt32 31)).toInt32) &&& 858993459)) + (((((x0 - (((x0.toUInt32 >>> ((1 : Int32).toUInt32 &&& Int32.toUInt32 31)).toInt32) &&& 1431655765)) &&& 858993459) + ((((x0 - (((x0.toUInt32 >>> ((1 : Int32).toUInt32 &&& Int32.toUInt32 31)).toInt32) &&& 1431655765)).toUInt32 >>> ((2 : Int32).toUInt32 &&& Int32.toUInt32 31)).toInt32) &&& 858993459)).toUInt32 >>> ((4 : Int32).toUInt32 &&& Int32.toUInt32 31)).toInt32)) &&& 252645135) + (((((((x0 - (((x0.toUInt32 >>> ((1 : Int32).toUInt32 &&& Int32.toUInt32 31)).toInt32) &&& 1431655765)) &&& 858993459) + ((((x0 - (((x0.toUInt32 >>> ((1 : Int32).toUInt32 &&& Int32.toUInt32 31)).toInt32) &&& 1431655765)).toUInt32 >>> ((2 : Int32).toUInt32 &&& Int32.toUInt32 31)).toInt32) &&& 858993459)) + (((((x0 - (((x0.toUInt32 >>> ((1 : Int32).toUInt32 &&& Int32.toUInt32 31)).toInt32) &&& 1431655765)) &&& 858993459) + ((((x0 - (((x0.toUInt32 >>> ((1 : Int32).toUInt32 &&& Int32.toUInt32 31)).toInt32) &&& 1431655765)).toUInt32 >>> ((2 : Int32).toUInt32 &&& Int32.toUInt32 31)).toInt32) &&& 858993459)).toUInt32 >>> ((4 : Int32).toUInt32 &&& Int32.toUInt32 31)).toInt32)) &&& 252645135).toUInt32 >>> ((8 : Int32).toUInt32 &&& Int32.toUInt32 31)).toInt32)) + ((((((((x0 - (((x0.toUInt32 >>> ((1 : Int32).toUInt32 &&& Int32.toUInt32 31)).toInt32) &&& 1431655765)) &&& 858993459) + ((((x0 - (((x0.toUInt32 >>> ((1 : Int32).toUInt32 &&& Int32.toUInt32 31)).toInt32) &&& 1431655765)).toUInt32 >>> ((2 : Int32).toUInt32 &&& Int32.toUInt32 31)).toInt32) &&& 858993459)) + (((((x0 - (((x0.toUInt32 >>> ((1 : Int32).toUInt32 &&& Int32.toUInt32 31)).toInt32) &&& 1431655765)) &&& 858993459) + ((((x0 - (((x0.toUInt32 >>> ((1 : Int32).toUInt32 &&& Int32.toUInt32 31)).toInt32) &&& 1431655765)).toUInt32 >>> ((2 : Int32).toUInt32 &&& Int32.toUInt32 31)).toInt32) &&& 858993459)).toUInt32 >>> ((4 : Int32).toUInt32 &&& Int32.toUInt32 31)).toInt32)) &&& 252645135) + (((((((x0 - (((x0.toUInt32 >>> ((1 : Int32).toUInt32 &&& Int32.toUInt32 31)).toInt32) &&& 1431655765)) &&& 858993459) + ((((x0 - (((x0.toUInt32 >>> ((1 : Int32).toUInt32 &&& Int32.toUInt32 31)).toInt32) &&& 1431655765)).toUInt32 >>> ((2 : Int32).toUInt32 &&& Int32.toUInt32 31)).toInt32) &&& 858993459)) + (((((x0 - (((x0.toUInt32 >>> ((1 : Int32).toUInt32 &&& Int32.toUInt32 31)).toInt32) &&& 1431655765)) &&& 858993459) + ((((x0 - (((x0.toUInt32 >>> ((1 : Int32).toUInt32 &&& Int32.toUInt32 31)).toInt32) &&& 1431655765)).toUInt32 >>> ((2 : Int32).toUInt32 &&& Int32.toUInt32 31)).toInt32) &&& 858993459)).toUInt32 >>> ((4 : Int32).toUInt32 &&& Int32.toUInt32 31)).toInt32)) &&& 252645135).toUInt32 >>> ((8 : Int32).toUInt32 &&& Int32.toUInt32 31)).toInt32)).toUInt32 >>> ((16 : Int32).toUInt32 &&& Int32.toUInt32 31)).toInt32)))]) hx hb dJ6_bitCount_0f7a4_47 rfl hl (by decide) rfl (fun ls hl => ?_)
  refine lv_iload_n hx hb dJ6_bitCount_0f7a4_48 rfl (lv_at hl 0 rfl) ?_
  refine lv_bipush (v := 63) hx hb dJ6_bitCount_0f7a4_49 (by decide) ?_
  refine lv_iand hx hb dJ6_bitCount_0f7a4_51 ?_
  obtain rfl := os1 h
  exact th_iret hQ C hr hk T (Nat.le_of_ble_eq_true rfl) (Nat.le_of_ble_eq_true rfl) dJ6_bitCount_0f7a4_52
set_option maxRecDepth 100000 in
set_option maxHeartbeats 4000000 in
theorem c_X10_far {l : Launch} {G : th_G} {σ : th_S} {μ : th_M} {x0 : Int32} {x1 : Int32} {r : Int32} (h : f_X10_far x0 x1 = some r) : th_Met l G yX10_far cX10_far 2 (some FieldType.int) { frames := 1, cells := 0, slots := 0, locals := 80 } [.int x0, .int x1] σ μ (some (.int r)) σ μ := by
  refine th_ofW (by decide +kernel) (Nat.le_of_ble_eq_true rfl) ?_
  intro p e s m args below meth c ls Q hQ C hr hk hnm T hl
  have hx := C.1
  have hb := C.2.1
  have C : CallFix p m c cX10_far 2 s args th_ws RX10 := C
  have hl : lv_has ls 2 [(0, .int x0), (1, .int x1)] := hl
  unfold f_X10_far at h
  refine lv_iload_n hx hb dX10_far_0 rfl (lv_at hl 0 rfl) ?_
  refine lv_bipush (v := 8) hx hb dX10_far_1 (by decide) ?_
  refine lv_idiv hx hb dX10_far_3 (by decide) ?_
  refine lv_iload_n hx hb dX10_far_4 rfl (lv_at hl 1 rfl) ?_
  refine lv_bipush (v := 8) hx hb dX10_far_5 (by decide) ?_
  refine lv_idiv hx hb dX10_far_7 (by decide) ?_
  refine lv_isub hx hb dX10_far_8 ?_
  refine th_abs C hl.1 w_523 w_524 w_11 w_525 (Nat.le_of_ble_eq_true rfl) (Nat.le_of_ble_eq_true rfl) (Nat.zero_le _) (Nat.zero_le _) dX10_far_9 ?_
  refine lv_iload_n hx hb dX10_far_12 rfl (lv_at hl 0 rfl) ?_
  refine lv_bipush (v := 8) hx hb dX10_far_13 (by decide) ?_
  refine th_irem C dX10_far_15 (by decide) ?_
  refine lv_iload_n hx hb dX10_far_16 rfl (lv_at hl 1 rfl) ?_
  refine lv_bipush (v := 8) hx hb dX10_far_17 (by decide) ?_
  refine th_irem C dX10_far_19 (by decide) ?_
  refine lv_isub hx hb dX10_far_20 ?_
  refine th_abs C hl.1 w_523 w_524 w_11 w_525 (Nat.le_of_ble_eq_true rfl) (Nat.le_of_ble_eq_true rfl) (Nat.zero_le _) (Nat.zero_le _) dX10_far_21 ?_
  refine lv_iadd hx hb dX10_far_24 ?_
  obtain rfl := os1 h
  exact th_iret hQ C hr hk T (Nat.le_of_ble_eq_true rfl) (Nat.le_of_ble_eq_true rfl) dX10_far_25
set_option maxRecDepth 100000 in
set_option maxHeartbeats 4000000 in
theorem c_X9_through {l : Launch} {G : th_G} {σ : th_S} {μ : th_M} {t : Nat} {x1 : Int32} {x2 : Int32} {x3 : Int32} {x4 : Int32} {r : Int32} (h : f_X9_through σ μ t x1 x2 x3 x4 = some r) : th_Met l G yX9_through cX9_through 9 (some FieldType.int) { frames := 2, cells := 0, slots := 0, locals := 101 } [.ref t, .int x1, .int x2, .int x3, .int x4] σ μ (some (.int r)) σ μ := by
  refine th_ofW (by decide +kernel) (Nat.le_of_ble_eq_true rfl) ?_
  intro p e s m args below meth c ls Q hQ C hr hk hnm T hl
  have hx := C.1
  have hb := C.2.1
  have C : CallFix p m c cX9_through 9 s args th_ws RX9 := C
  have hl : lv_has ls 9 [(0, .ref t), (1, .int x1), (2, .int x2), (3, .int x3), (4, .int x4)] := hl
  have J107 : ∀ (t : Nat) (x4 : Int32) (x7 : Int32) (x8 : Int32) (H : Heap) (locs : List Loc) (ls : Array Slot), th_R G s H locs σ μ → lv_has ls 9 [(0, .ref t), (4, .int x4), (7, .int x7), (8, .int x8)] → f_X9_through_b107 σ μ t x4 x7 x8 = some r → W p l e { frames := 2, cells := 0, slots := 0, locals := 101 } s m args below meth c H locs 0 0 Q (F0 m 107 ls []) := by
    intro t x4 x7 x8 H locs ls T hl h
    unfold f_X9_through_b107 at h
    refine lv_iload hx hb dX9_through_107 (lv_at hl 3 rfl) ?_
    refine lv_aload_n hx hb dX9_through_109 rfl (lv_at hl 0 rfl) ?_
    obtain ⟨a1, e2, h⟩ := ob_ h
    refine g_RX9_22 C T e2 dX9_through_110 ?_
    refine lv_iload hx hb dX9_through_113 (lv_at hl 2 rfl) ?_
    refine lv_bipush (v := 7) hx hb dX9_through_115 (by decide) ?_
    refine lv_imul hx hb dX9_through_117 ?_
    refine lv_iload hx hb dX9_through_118 (lv_at hl 1 rfl) ?_
    refine lv_iadd hx hb dX9_through_120 ?_
    obtain ⟨v3, e4, h⟩ := ob_ h
    refine th_iald C T e4 dX9_through_121 ?_
    refine lv_iadd hx hb dX9_through_122 ?_
    obtain rfl := os1 h
    exact th_iret hQ C hr hk T (Nat.le_of_ble_eq_true rfl) (Nat.le_of_ble_eq_true rfl) dX9_through_123
  have J81 : ∀ (t : Nat) (x4 : Int32) (x5 : Int32) (x7 : Int32) (x8 : Int32) (H : Heap) (locs : List Loc) (ls : Array Slot), th_R G s H locs σ μ → lv_has ls 9 [(0, .ref t), (4, .int x4), (5, .int x5), (7, .int x7), (8, .int x8)] → f_X9_through_b81 σ μ t x4 x5 x7 x8 = some r → W p l e { frames := 2, cells := 0, slots := 0, locals := 101 } s m args below meth c H locs 0 0 Q (F0 m 81 ls []) := by
    intro t x4 x5 x7 x8 H locs ls T hl h
    unfold f_X9_through_b81 at h
    refine lv_iload hx hb dX9_through_81 (lv_at hl 4 rfl) ?_
    refine lv_aload_n hx hb dX9_through_83 rfl (lv_at hl 0 rfl) ?_
    obtain ⟨a1, e2, h⟩ := ob_ h
    refine g_RX9_9 C T e2 dX9_through_84 ?_
    refine lv_iload hx hb dX9_through_87 (lv_at hl 1 rfl) ?_
    obtain ⟨v3, e4, h⟩ := ob_ h
    refine th_iald C T e4 dX9_through_89 ?_
    refine lv_iconst (v := 0) hx hb dX9_through_90 (by decide) ?_
    obtain ⟨v5, e6, h⟩ := ob_ h
    refine th_callSN (As := [.int v3, .int 0]) (rest := [.int x8]) C T (c_X10_far e6) k_RX9_42 rfl hl.1 rfl (st1 := [.int v5, .int x8]) rfl (cells1 := 0) rfl (slots1 := 0) rfl (Nat.le_of_ble_eq_true rfl) ⟨Nat.le_of_ble_eq_true rfl, Nat.le_of_ble_eq_true rfl⟩ ⟨Nat.le_of_ble_eq_true rfl, Nat.le_of_ble_eq_true rfl⟩ dX9_through_91 (fun H locs T => ?_)
    refine lv_aload_n hx hb dX9_through_94 rfl (lv_at hl 0 rfl) ?_
    obtain ⟨v7, e8, h⟩ := ob_ h
    refine g_RX9_19 C T e8 dX9_through_95 ?_
    refine lv_iload hx hb dX9_through_98 (lv_at hl 2 rfl) ?_
    refine lv_iadd hx hb dX9_through_100 ?_
    refine lv_iconst (v := 1) hx hb dX9_through_101 (by decide) ?_
    refine lv_iadd hx hb dX9_through_102 ?_
    refine lv_imul hx hb dX9_through_103 ?_
    refine lv_iadd hx hb dX9_through_104 ?_
    refine lv_istore (lv' := [(8, .int (x8 + (v5 * ((v7 + x5) + 1)))), (0, .ref t), (4, .int x4), (5, .int x5), (7, .int x7)]) hx hb dX9_through_105 hl (by decide) rfl (fun ls hl => ?_)
    exact J107 _ _ _ _ _ _ _ T (lv_sub hl [1, 2, 4, 0] rfl) h
  have J31 : ∀ (t : Nat) (x2 : Int32) (x4 : Int32) (x5 : Int32) (y0 : Int32) (H : Heap) (locs : List Loc) (ls : Array Slot), th_R G s H locs σ μ → lv_has ls 9 [(0, .ref t), (2, .int x2), (4, .int x4), (5, .int x5)] → f_X9_through_b31 σ μ t x2 x4 x5 y0 = some r → W p l e { frames := 2, cells := 0, slots := 0, locals := 101 } s m args below meth c H locs 0 0 Q (F0 m 31 ls [.int y0]) := by
    intro t x2 x4 x5 y0 H locs ls T hl h
    unfold f_X9_through_b31 at h
    refine lv_istore (lv' := [(6, .int y0), (0, .ref t), (2, .int x2), (4, .int x4), (5, .int x5)]) hx hb dX9_through_31 hl (by decide) rfl (fun ls hl => ?_)
    refine lv_iload_n hx hb dX9_through_33 rfl (lv_at hl 2 rfl) ?_
    refine lv_iconst (v := 1) hx hb dX9_through_34 (by decide) ?_
    refine lv_iload hx hb dX9_through_35 (lv_at hl 3 rfl) ?_
    refine th_ishl C dX9_through_37 ?_
    refine lv_iconst (v := -1) hx hb dX9_through_38 (by decide) ?_
    refine lv_ixor hx hb dX9_through_39 ?_
    refine lv_iand hx hb dX9_through_40 ?_
    refine lv_istore (lv' := [(7, .int (x2 &&& ((jshl 1 x4) ^^^ (-1)))), (6, .int y0), (0, .ref t), (2, .int x2), (4, .int x4), (5, .int x5)]) hx hb dX9_through_41 hl (by decide) rfl (fun ls hl => ?_)
    refine lv_iload hx hb dX9_through_43 (lv_at hl 1 rfl) ?_
    refine lv_aload_n hx hb dX9_through_45 rfl (lv_at hl 2 rfl) ?_
    obtain ⟨a1, e2, h⟩ := ob_ h
    refine g_RX9_9 C T e2 dX9_through_46 ?_
    refine lv_iload hx hb dX9_through_49 (lv_at hl 4 rfl) ?_
    obtain ⟨v3, e4, h⟩ := ob_ h
    refine th_iald C T e4 dX9_through_51 ?_
    obtain ⟨v5, e6, h⟩ := ob_ h
    refine th_callSN (As := [.int y0, .int v3]) (rest := []) C T (c_X10_far e6) k_RX9_42 rfl hl.1 rfl (st1 := [.int v5]) rfl (cells1 := 0) rfl (slots1 := 0) rfl (Nat.le_of_ble_eq_true rfl) ⟨Nat.le_of_ble_eq_true rfl, Nat.le_of_ble_eq_true rfl⟩ ⟨Nat.le_of_ble_eq_true rfl, Nat.le_of_ble_eq_true rfl⟩ dX9_through_52 (fun H locs T => ?_)
    refine lv_aload_n hx hb dX9_through_55 rfl (lv_at hl 2 rfl) ?_
    obtain ⟨v7, e8, h⟩ := ob_ h
    refine g_RX9_19 C T e8 dX9_through_56 ?_
    refine lv_iload hx hb dX9_through_59 (lv_at hl 5 rfl) ?_
    refine lv_iadd hx hb dX9_through_61 ?_
    refine lv_imul hx hb dX9_through_62 ?_
    refine lv_istore (lv' := [(8, .int (v5 * (v7 + x5))), (7, .int (x2 &&& ((jshl 1 x4) ^^^ (-1)))), (6, .int y0), (0, .ref t), (2, .int x2), (4, .int x4), (5, .int x5)]) hx hb dX9_through_63 hl (by decide) rfl (fun ls hl => ?_)
    refine lv_iload hx hb dX9_through_65 (lv_at hl 1 rfl) ?_
    refine lv_if_eq (tgt := 81) hx hb dX9_through_67 (by decide) (fun c9 => ?_) (fun c9 => ?_)
    · replace h := ot_ c9 h
      exact J81 _ _ _ _ _ _ _ _ T (lv_sub hl [3, 5, 6, 1, 0] rfl) h
    · replace h := of_ c9 h
      refine lv_iload hx hb dX9_through_70 (lv_at hl 6 rfl) ?_
      refine lv_iconst (v := 1) hx hb dX9_through_72 (by decide) ?_
      refine lv_iadd hx hb dX9_through_73 ?_
      refine lv_aload_n hx hb dX9_through_74 rfl (lv_at hl 3 rfl) ?_
      obtain ⟨v10, e11, h⟩ := ob_ h
      refine g_RX9_15 C T e11 dX9_through_75 ?_
      refine lv_icmp_ne (tgt := 107) hx hb dX9_through_78 (by decide) (fun c12 => ?_) (fun c12 => ?_)
      · replace h := of_ c12 h
        exact J107 _ _ _ _ _ _ _ T (lv_sub hl [3, 5, 1, 0] rfl) h
      · replace h := ot_ c12 h
        exact J81 _ _ _ _ _ _ _ _ T (lv_sub hl [3, 5, 6, 1, 0] rfl) h
  unfold f_X9_through at h
  refine lv_iload_n hx hb dX9_through_0 rfl (lv_at hl 1 rfl) ?_
  obtain ⟨v1, e2, h⟩ := ob_ h
  refine th_callS (As := [.int x1]) (rest := []) C T (c_J6_bitCount_0f7a4 e2) k_RX9_37 rfl hl.1 rfl (st1 := [.int v1]) rfl (cells1 := 0) rfl (slots1 := 0) rfl (Nat.le_of_ble_eq_true rfl) ⟨Nat.le_of_ble_eq_true rfl, Nat.le_of_ble_eq_true rfl⟩ ⟨Nat.le_of_ble_eq_true rfl, Nat.le_of_ble_eq_true rfl⟩ dX9_through_1 (fun H locs T => ?_)
  refine lv_iload_n hx hb dX9_through_4 rfl (lv_at hl 2 rfl) ?_
  obtain ⟨v3, e4, h⟩ := ob_ h
  refine th_callS (As := [.int x2]) (rest := [.int v1]) C T (c_J6_bitCount_0f7a4 e4) k_RX9_37 rfl hl.1 rfl (st1 := [.int v3, .int v1]) rfl (cells1 := 0) rfl (slots1 := 0) rfl (Nat.le_of_ble_eq_true rfl) ⟨Nat.le_of_ble_eq_true rfl, Nat.le_of_ble_eq_true rfl⟩ ⟨Nat.le_of_ble_eq_true rfl, Nat.le_of_ble_eq_true rfl⟩ dX9_through_5 (fun H locs T => ?_)
  refine lv_isub hx hb dX9_through_8 ?_
  refine lv_aload_n hx hb dX9_through_9 rfl (lv_at hl 0 rfl) ?_
  obtain ⟨v5, e6, h⟩ := ob_ h
  refine g_RX9_15 C T e6 dX9_through_10 ?_
  obtain ⟨g7, h⟩ := ogg h
  refine th_irem C dX9_through_13 g7 ?_
  refine lv_istore (lv' := [(5, .int (jrem (v1 - v3) v5)), (0, .ref t), (1, .int x1), (2, .int x2), (3, .int x3), (4, .int x4)]) hx hb dX9_through_14 hl (by decide) rfl (fun ls hl => ?_)
  refine lv_iload hx hb dX9_through_16 (lv_at hl 0 rfl) ?_
  refine lv_if_ne (tgt := 25) hx hb dX9_through_18 (by decide) (fun c8 => ?_) (fun c8 => ?_)
  · replace h := of_ c8 h
    refine lv_aload_n hx hb dX9_through_25 rfl (lv_at hl 1 rfl) ?_
    obtain ⟨a9, e10, h⟩ := ob_ h
    refine g_RX9_9 C T e10 dX9_through_26 ?_
    refine lv_iload_n hx hb dX9_through_29 rfl (lv_at hl 4 rfl) ?_
    obtain ⟨v11, e12, h⟩ := ob_ h
    refine th_iald C T e12 dX9_through_30 ?_
    exact J31 _ _ _ _ _ _ _ _ T (lv_sub hl [1, 3, 5, 0] rfl) h
  · replace h := ot_ c8 h
    refine lv_iconst (v := 0) hx hb dX9_through_21 (by decide) ?_
    refine lv_goto (tgt := 31) hx hb dX9_through_22 (by decide) ?_
    exact J31 _ _ _ _ _ _ _ _ T (lv_sub hl [1, 3, 5, 0] rfl) h
set_option maxRecDepth 100000 in
set_option maxHeartbeats 4000000 in
theorem c_X9_best {l : Launch} {G : th_G} {σ : th_S} {μ : th_M} {t : Nat} {x1 : Int32} {x2 : Int32} {x3 : Int32} {r : Int32} (h : f_X9_best σ μ t x1 x2 x3 = some r) : th_Met l G yX9_best cX9_best 8 (some FieldType.int) { frames := 3, cells := 0, slots := 0, locals := 129 } [.ref t, .int x1, .int x2, .int x3] σ μ (some (.int r)) σ μ := by
  refine th_ofW (by decide +kernel) (Nat.le_of_ble_eq_true rfl) ?_
  intro p e s m args below meth c ls Q hQ C hr hk hnm T hl
  have hx := C.1
  have hb := C.2.1
  have C : CallFix p m c cX9_best 8 s args th_ws RX9 := C
  have hl : lv_has ls 8 [(0, .ref t), (1, .int x1), (2, .int x2), (3, .int x3)] := hl
  have J9 : ∀ (n : Nat) (t : Nat) (x1 : Int32) (x2 : Int32) (x3 : Int32) (x4 : Int32) (x5 : Int32) (x6 : Int32) (H : Heap) (locs : List Loc) (ls : Array Slot), th_R G s H locs σ μ → lv_has ls 8 [(0, .ref t), (1, .int x1), (2, .int x2), (3, .int x3), (4, .int x4), (5, .int x5), (6, .int x6)] → f_X9_best_b9  n σ μ t x1 x2 x3 x4 x5 x6 = some r → W p l e { frames := 3, cells := 0, slots := 0, locals := 129 } s m args below meth c H locs 0 0 Q (F0 m 9 ls []) := by
    intro n
    induction n with
    | zero => intro t x1 x2 x3 x4 x5 x6 H locs ls T hl h; unfold f_X9_best_b9 at h; cases h
    | succ n9 ih9 =>
      intro t x1 x2 x3 x4 x5 x6 H locs ls T hl h
      unfold f_X9_best_b9 at h
      refine lv_iload hx hb dX9_best_9 (lv_at hl 6 rfl) ?_
      refine lv_bipush (v := 7) hx hb dX9_best_11 (by decide) ?_
      refine lv_icmp_ge (tgt := 66) hx hb dX9_best_13 (by decide) (fun c1 => ?_) (fun c1 => ?_)
      · replace h := ot_ c1 h
        refine lv_iload hx hb dX9_best_66 (lv_at hl 4 rfl) ?_
        obtain rfl := os1 h
        exact th_iret hQ C hr hk T (Nat.le_of_ble_eq_true rfl) (Nat.le_of_ble_eq_true rfl) dX9_best_68
      · replace h := of_ c1 h
        refine lv_iload_n hx hb dX9_best_16 rfl (lv_at hl 2 rfl) ?_
        refine lv_iload hx hb dX9_best_17 (lv_at hl 6 rfl) ?_
        refine th_ishr C dX9_best_19 ?_
        refine lv_iconst (v := 1) hx hb dX9_best_20 (by decide) ?_
        refine lv_iand hx hb dX9_best_21 ?_
        refine lv_if_ne (tgt := 28) hx hb dX9_best_22 (by decide) (fun c2 => ?_) (fun c2 => ?_)
        · replace h := of_ c2 h
          refine lv_aload_n hx hb dX9_best_28 rfl (lv_at hl 0 rfl) ?_
          refine lv_iload_n hx hb dX9_best_29 rfl (lv_at hl 1 rfl) ?_
          refine lv_iload_n hx hb dX9_best_30 rfl (lv_at hl 2 rfl) ?_
          refine lv_iload_n hx hb dX9_best_31 rfl (lv_at hl 3 rfl) ?_
          refine lv_iload hx hb dX9_best_32 (lv_at hl 6 rfl) ?_
          obtain ⟨k3, h⟩ := oc_ h
          obtain ⟨v4, e5, h⟩ := ob_ h
          refine th_callV (As := [.int x1, .int x2, .int x3, .int x6]) (rest := []) C T (c_X9_through e5) k_RX9_29 9 rfl rfl (by decide) k3 rfl hl.1 rfl (st1 := [.int v4]) rfl (cells1 := 0) rfl (slots1 := 0) rfl (Nat.le_of_ble_eq_true rfl) ⟨Nat.le_of_ble_eq_true rfl, Nat.le_of_ble_eq_true rfl⟩ ⟨Nat.le_of_ble_eq_true rfl, Nat.le_of_ble_eq_true rfl⟩ dX9_best_34 (fun H locs T => ?_)
          refine lv_istore (lv' := [(7, .int v4), (0, .ref t), (1, .int x1), (2, .int x2), (3, .int x3), (4, .int x4), (5, .int x5), (6, .int x6)]) hx hb dX9_best_37 hl (by decide) rfl (fun ls hl => ?_)
          refine lv_iload hx hb dX9_best_39 (lv_at hl 5 rfl) ?_
          refine lv_iconst (v := -1) hx hb dX9_best_41 (by decide) ?_
          refine lv_icmp_eq (tgt := 52) hx hb dX9_best_42 (by decide) (fun c6 => ?_) (fun c6 => ?_)
          · replace h := ot_ c6 h
            refine lv_iload hx hb dX9_best_52 (lv_at hl 7 rfl) ?_
            refine lv_istore (lv' := [(4, .int x6), (7, .int v4), (0, .ref t), (1, .int x1), (2, .int x2), (3, .int x3), (5, .int x5), (6, .int x6)]) hx hb dX9_best_54 hl (by decide) rfl (fun ls hl => ?_)
            refine lv_iload hx hb dX9_best_56 (lv_at hl 1 rfl) ?_
            refine lv_istore (lv' := [(5, .int v4), (4, .int x6), (7, .int v4), (0, .ref t), (1, .int x1), (2, .int x2), (3, .int x3), (6, .int x6)]) hx hb dX9_best_58 hl (by decide) rfl (fun ls hl => ?_)
            refine lv_iinc (v := x6 + 1) (lv' := [(6, .int (x6 + 1)), (5, .int v4), (4, .int x6), (7, .int v4), (0, .ref t), (1, .int x1), (2, .int x2), (3, .int x3)]) hx hb dX9_best_60 hl (k := 7) rfl rfl (by decide) rfl (fun ls hl => ?_)
            refine lv_goto (tgt := 9) hx hb dX9_best_63 (by decide) ?_
            exact ih9 _ _ _ _ _ _ _ _ _ _ T (lv_sub hl [4, 5, 6, 7, 2, 1, 0] rfl) h
          · replace h := of_ c6 h
            refine lv_iload hx hb dX9_best_45 (lv_at hl 0 rfl) ?_
            refine lv_iload hx hb dX9_best_47 (lv_at hl 6 rfl) ?_
            refine lv_icmp_ge (tgt := 60) hx hb dX9_best_49 (by decide) (fun c7 => ?_) (fun c7 => ?_)
            · replace h := ot_ c7 h
              refine lv_iinc (v := x6 + 1) (lv' := [(6, .int (x6 + 1)), (7, .int v4), (0, .ref t), (1, .int x1), (2, .int x2), (3, .int x3), (4, .int x4), (5, .int x5)]) hx hb dX9_best_60 hl (k := 7) rfl rfl (by decide) rfl (fun ls hl => ?_)
              refine lv_goto (tgt := 9) hx hb dX9_best_63 (by decide) ?_
              exact ih9 _ _ _ _ _ _ _ _ _ _ T (lv_sub hl [2, 3, 4, 5, 6, 7, 0] rfl) h
            · replace h := of_ c7 h
              refine lv_iload hx hb dX9_best_52 (lv_at hl 7 rfl) ?_
              refine lv_istore (lv' := [(4, .int x6), (7, .int v4), (0, .ref t), (1, .int x1), (2, .int x2), (3, .int x3), (5, .int x5), (6, .int x6)]) hx hb dX9_best_54 hl (by decide) rfl (fun ls hl => ?_)
              refine lv_iload hx hb dX9_best_56 (lv_at hl 1 rfl) ?_
              refine lv_istore (lv' := [(5, .int v4), (4, .int x6), (7, .int v4), (0, .ref t), (1, .int x1), (2, .int x2), (3, .int x3), (6, .int x6)]) hx hb dX9_best_58 hl (by decide) rfl (fun ls hl => ?_)
              refine lv_iinc (v := x6 + 1) (lv' := [(6, .int (x6 + 1)), (5, .int v4), (4, .int x6), (7, .int v4), (0, .ref t), (1, .int x1), (2, .int x2), (3, .int x3)]) hx hb dX9_best_60 hl (k := 7) rfl rfl (by decide) rfl (fun ls hl => ?_)
              refine lv_goto (tgt := 9) hx hb dX9_best_63 (by decide) ?_
              exact ih9 _ _ _ _ _ _ _ _ _ _ T (lv_sub hl [4, 5, 6, 7, 2, 1, 0] rfl) h
        · replace h := ot_ c2 h
          refine lv_goto (tgt := 60) hx hb dX9_best_25 (by decide) ?_
          refine lv_iinc (v := x6 + 1) (lv' := [(6, .int (x6 + 1)), (0, .ref t), (1, .int x1), (2, .int x2), (3, .int x3), (4, .int x4), (5, .int x5)]) hx hb dX9_best_60 hl (k := 6) rfl rfl (by decide) rfl (fun ls hl => ?_)
          refine lv_goto (tgt := 9) hx hb dX9_best_63 (by decide) ?_
          exact ih9 _ _ _ _ _ _ _ _ _ _ T (lv_sub hl [1, 2, 3, 4, 5, 6, 0] rfl) h
  unfold f_X9_best at h
  refine lv_iconst (v := -1) hx hb dX9_best_0 (by decide) ?_
  refine lv_istore (lv' := [(4, .int (-1)), (0, .ref t), (1, .int x1), (2, .int x2), (3, .int x3)]) hx hb dX9_best_1 hl (by decide) rfl (fun ls hl => ?_)
  refine lv_iconst (v := 0) hx hb dX9_best_3 (by decide) ?_
  refine lv_istore (lv' := [(5, .int 0), (4, .int (-1)), (0, .ref t), (1, .int x1), (2, .int x2), (3, .int x3)]) hx hb dX9_best_4 hl (by decide) rfl (fun ls hl => ?_)
  refine lv_iconst (v := 0) hx hb dX9_best_6 (by decide) ?_
  refine lv_istore (lv' := [(6, .int 0), (5, .int 0), (4, .int (-1)), (0, .ref t), (1, .int x1), (2, .int x2), (3, .int x3)]) hx hb dX9_best_7 hl (by decide) rfl (fun ls hl => ?_)
  exact J9 fu _ _ _ _ _ _ _ _ _ _ T (lv_sub hl [3, 4, 5, 6, 2, 1, 0] rfl) h
set_option maxRecDepth 100000 in
set_option maxHeartbeats 4000000 in
theorem c_X9_minutes {l : Launch} {G : th_G} {σ : th_S} {μ : th_M} {t : Nat} {x1 : Int32} {r : Int32} {μ' : th_M} (h : f_X9_minutes σ μ t x1 = some (r, μ')) : th_Met l G yX9_minutes cX9_minutes 4 (some FieldType.int) { frames := 4, cells := 0, slots := 0, locals := 156 } [.ref t, .int x1] σ μ (some (.int r)) σ μ' := by
  refine th_ofW (by decide +kernel) (Nat.le_of_ble_eq_true rfl) ?_
  intro p e s m args below meth c ls Q hQ C hr hk hnm T hl
  have hx := C.1
  have hb := C.2.1
  have C : CallFix p m c cX9_minutes 4 s args th_ws RX9 := C
  have hl : lv_has ls 4 [(0, .ref t), (1, .int x1)] := hl
  have J2 : ∀ (n : Nat) (μ : th_M) (t : Nat) (x1 : Int32) (x2 : Int32) (H : Heap) (locs : List Loc) (ls : Array Slot), th_R G s H locs σ μ → lv_has ls 4 [(0, .ref t), (1, .int x1), (2, .int x2)] → f_X9_minutes_b2  n σ μ t x1 x2 = some (r, μ') → W p l e { frames := 4, cells := 0, slots := 0, locals := 156 } s m args below meth c H locs 0 0 Q (F0 m 2 ls []) := by
    intro n
    induction n with
    | zero => intro μ t x1 x2 H locs ls T hl h; unfold f_X9_minutes_b2 at h; cases h
    | succ n2 ih2 =>
      intro μ t x1 x2 H locs ls T hl h
      unfold f_X9_minutes_b2 at h
      have J20 : ∀ (n : Nat) (μ : th_M) (t : Nat) (x1 : Int32) (x2 : Int32) (x3 : Int32) (H : Heap) (locs : List Loc) (ls : Array Slot), th_R G s H locs σ μ → lv_has ls 4 [(0, .ref t), (1, .int x1), (2, .int x2), (3, .int x3)] → f_X9_minutes_b20 (f_X9_minutes_b2 n2) n σ μ t x1 x2 x3 = some (r, μ') → W p l e { frames := 4, cells := 0, slots := 0, locals := 156 } s m args below meth c H locs 0 0 Q (F0 m 20 ls []) := by
        intro n
        induction n with
        | zero => intro μ t x1 x2 x3 H locs ls T hl h; unfold f_X9_minutes_b20 at h; cases h
        | succ n20 ih20 =>
          intro μ t x1 x2 x3 H locs ls T hl h
          unfold f_X9_minutes_b20 at h
          have J43 : ∀ (μ : th_M) (t : Nat) (x1 : Int32) (x2 : Int32) (x3 : Int32) (H : Heap) (locs : List Loc) (ls : Array Slot), th_R G s H locs σ μ → lv_has ls 4 [(0, .ref t), (1, .int x1), (2, .int x2), (3, .int x3)] → f_X9_minutes_b43 (f_X9_minutes_b2 n2) (f_X9_minutes_b20 (f_X9_minutes_b2 n2) n20) σ μ t x1 x2 x3 = some (r, μ') → W p l e { frames := 4, cells := 0, slots := 0, locals := 156 } s m args below meth c H locs 0 0 Q (F0 m 43 ls []) := by
            intro μ t x1 x2 x3 H locs ls T hl h
            unfold f_X9_minutes_b43 at h
            refine lv_aload_n hx hb dX9_minutes_43 rfl (lv_at hl 0 rfl) ?_
            obtain ⟨a1, e2, h⟩ := ob_ h
            refine g_RX9_22 C T e2 dX9_minutes_44 ?_
            refine lv_iload_n hx hb dX9_minutes_47 rfl (lv_at hl 2 rfl) ?_
            refine lv_bipush (v := 7) hx hb dX9_minutes_48 (by decide) ?_
            refine lv_imul hx hb dX9_minutes_50 ?_
            refine lv_iload_n hx hb dX9_minutes_51 rfl (lv_at hl 3 rfl) ?_
            refine lv_iadd hx hb dX9_minutes_52 ?_
            refine lv_aload_n hx hb dX9_minutes_53 rfl (lv_at hl 0 rfl) ?_
            refine lv_iload_n hx hb dX9_minutes_54 rfl (lv_at hl 1 rfl) ?_
            refine lv_iload_n hx hb dX9_minutes_55 rfl (lv_at hl 2 rfl) ?_
            refine lv_iload_n hx hb dX9_minutes_56 rfl (lv_at hl 3 rfl) ?_
            refine lv_aload_n hx hb dX9_minutes_57 rfl (lv_at hl 0 rfl) ?_
            refine lv_iload_n hx hb dX9_minutes_58 rfl (lv_at hl 1 rfl) ?_
            refine lv_iload_n hx hb dX9_minutes_59 rfl (lv_at hl 2 rfl) ?_
            refine lv_iload_n hx hb dX9_minutes_60 rfl (lv_at hl 3 rfl) ?_
            obtain ⟨k3, h⟩ := oc_ h
            obtain ⟨v4, e5, h⟩ := ob_ h
            refine th_callV (As := [.int x1, .int x2, .int x3]) (rest := [.int x3, .int x2, .int x1, .ref t, .int ((x2 * 7) + x3), .ref a1]) C T (c_X9_best e5) k_RX9_25 9 rfl rfl (by decide) k3 rfl hl.1 rfl (st1 := [.int v4, .int x3, .int x2, .int x1, .ref t, .int ((x2 * 7) + x3), .ref a1]) rfl (cells1 := 0) rfl (slots1 := 0) rfl (Nat.le_of_ble_eq_true rfl) ⟨Nat.le_of_ble_eq_true rfl, Nat.le_of_ble_eq_true rfl⟩ ⟨Nat.le_of_ble_eq_true rfl, Nat.le_of_ble_eq_true rfl⟩ dX9_minutes_61 (fun H locs T => ?_)
            obtain ⟨v6, e7, h⟩ := ob_ h
            refine th_callV (As := [.int x1, .int x2, .int x3, .int v4]) (rest := [.int ((x2 * 7) + x3), .ref a1]) C T (c_X9_through e7) k_RX9_29 9 rfl rfl (by decide) k3 rfl hl.1 rfl (st1 := [.int v6, .int ((x2 * 7) + x3), .ref a1]) rfl (cells1 := 0) rfl (slots1 := 0) rfl (Nat.le_of_ble_eq_true rfl) ⟨Nat.le_of_ble_eq_true rfl, Nat.le_of_ble_eq_true rfl⟩ ⟨Nat.le_of_ble_eq_true rfl, Nat.le_of_ble_eq_true rfl⟩ dX9_minutes_64 (fun H locs T => ?_)
            obtain ⟨μ8, e9, h⟩ := ob_ h
            refine th_iast C T e9 dX9_minutes_67 (fun H locs T => ?_)
            refine lv_iinc (v := x3 + 1) (lv' := [(3, .int (x3 + 1)), (0, .ref t), (1, .int x1), (2, .int x2)]) hx hb dX9_minutes_68 hl (k := 3) rfl rfl (by decide) rfl (fun ls hl => ?_)
            refine lv_goto (tgt := 20) hx hb dX9_minutes_71 (by decide) ?_
            exact ih20 _ _ _ _ _ _ _ _ T (lv_sub hl [1, 2, 3, 0] rfl) h
          refine lv_iload_n hx hb dX9_minutes_20 rfl (lv_at hl 3 rfl) ?_
          refine lv_bipush (v := 7) hx hb dX9_minutes_21 (by decide) ?_
          refine lv_icmp_ge (tgt := 74) hx hb dX9_minutes_23 (by decide) (fun c1 => ?_) (fun c1 => ?_)
          · replace h := ot_ c1 h
            refine lv_iinc (v := x2 + 1) (lv' := [(2, .int (x2 + 1)), (0, .ref t), (1, .int x1), (3, .int x3)]) hx hb dX9_minutes_74 hl (k := 2) rfl rfl (by decide) rfl (fun ls hl => ?_)
            refine lv_goto (tgt := 2) hx hb dX9_minutes_77 (by decide) ?_
            exact ih2 _ _ _ _ _ _ _ T (lv_sub hl [1, 2, 0] rfl) h
          · replace h := of_ c1 h
            refine lv_iload_n hx hb dX9_minutes_26 rfl (lv_at hl 2 rfl) ?_
            refine lv_iload_n hx hb dX9_minutes_27 rfl (lv_at hl 1 rfl) ?_
            refine lv_icmp_eq (tgt := 43) hx hb dX9_minutes_28 (by decide) (fun c2 => ?_) (fun c2 => ?_)
            · replace h := ot_ c2 h
              exact J43 _ _ _ _ _ _ _ _ T (lv_sub hl [0, 1, 2, 3] rfl) h
            · replace h := of_ c2 h
              refine lv_iload_n hx hb dX9_minutes_31 rfl (lv_at hl 1 rfl) ?_
              refine lv_iload_n hx hb dX9_minutes_32 rfl (lv_at hl 2 rfl) ?_
              refine lv_iconst (v := -1) hx hb dX9_minutes_33 (by decide) ?_
              refine lv_ixor hx hb dX9_minutes_34 ?_
              refine lv_iand hx hb dX9_minutes_35 ?_
              refine lv_iconst (v := 1) hx hb dX9_minutes_36 (by decide) ?_
              refine lv_iload_n hx hb dX9_minutes_37 rfl (lv_at hl 3 rfl) ?_
              refine th_ishl C dX9_minutes_38 ?_
              refine lv_iand hx hb dX9_minutes_39 ?_
              refine lv_if_eq (tgt := 68) hx hb dX9_minutes_40 (by decide) (fun c3 => ?_) (fun c3 => ?_)
              · replace h := ot_ c3 h
                refine lv_iinc (v := x3 + 1) (lv' := [(3, .int (x3 + 1)), (0, .ref t), (1, .int x1), (2, .int x2)]) hx hb dX9_minutes_68 hl (k := 3) rfl rfl (by decide) rfl (fun ls hl => ?_)
                refine lv_goto (tgt := 20) hx hb dX9_minutes_71 (by decide) ?_
                exact ih20 _ _ _ _ _ _ _ _ T (lv_sub hl [1, 2, 3, 0] rfl) h
              · replace h := of_ c3 h
                exact J43 _ _ _ _ _ _ _ _ T (lv_sub hl [0, 1, 2, 3] rfl) h
      refine lv_iload_n hx hb dX9_minutes_2 rfl (lv_at hl 2 rfl) ?_
      refine lv_iload_n hx hb dX9_minutes_3 rfl (lv_at hl 1 rfl) ?_
      refine lv_icmp_gt (tgt := 80) hx hb dX9_minutes_4 (by decide) (fun c1 => ?_) (fun c1 => ?_)
      · replace h := ot_ c1 h
        refine lv_aload_n hx hb dX9_minutes_80 rfl (lv_at hl 0 rfl) ?_
        obtain ⟨a2, e3, h⟩ := ob_ h
        refine g_RX9_22 C T e3 dX9_minutes_81 ?_
        refine lv_iload_n hx hb dX9_minutes_84 rfl (lv_at hl 1 rfl) ?_
        refine lv_bipush (v := 7) hx hb dX9_minutes_85 (by decide) ?_
        refine lv_imul hx hb dX9_minutes_87 ?_
        obtain ⟨v4, e5, h⟩ := ob_ h
        refine th_iald C T e5 dX9_minutes_88 ?_
        obtain ⟨rfl, rfl⟩ := os2 h
        exact th_iret hQ C hr hk T (Nat.le_of_ble_eq_true rfl) (Nat.le_of_ble_eq_true rfl) dX9_minutes_89
      · replace h := of_ c1 h
        refine lv_iload_n hx hb dX9_minutes_7 rfl (lv_at hl 2 rfl) ?_
        refine lv_iload_n hx hb dX9_minutes_8 rfl (lv_at hl 1 rfl) ?_
        refine lv_iconst (v := -1) hx hb dX9_minutes_9 (by decide) ?_
        refine lv_ixor hx hb dX9_minutes_10 ?_
        refine lv_iand hx hb dX9_minutes_11 ?_
        refine lv_if_eq (tgt := 18) hx hb dX9_minutes_12 (by decide) (fun c6 => ?_) (fun c6 => ?_)
        · replace h := ot_ c6 h
          refine lv_iconst (v := 0) hx hb dX9_minutes_18 (by decide) ?_
          refine lv_istore_n (lv' := [(3, .int 0), (0, .ref t), (1, .int x1), (2, .int x2)]) hx hb dX9_minutes_19 rfl hl (by decide) rfl (fun ls hl => ?_)
          exact J20 fu _ _ _ _ _ _ _ _ T (lv_sub hl [1, 2, 3, 0] rfl) h
        · replace h := of_ c6 h
          refine lv_goto (tgt := 74) hx hb dX9_minutes_15 (by decide) ?_
          refine lv_iinc (v := x2 + 1) (lv' := [(2, .int (x2 + 1)), (0, .ref t), (1, .int x1)]) hx hb dX9_minutes_74 hl (k := 2) rfl rfl (by decide) rfl (fun ls hl => ?_)
          refine lv_goto (tgt := 2) hx hb dX9_minutes_77 (by decide) ?_
          exact ih2 _ _ _ _ _ _ _ T (lv_sub hl [1, 2, 0] rfl) h
  unfold f_X9_minutes at h
  refine lv_iconst (v := 1) hx hb dX9_minutes_0 (by decide) ?_
  refine lv_istore_n (lv' := [(2, .int 1), (0, .ref t), (1, .int x1)]) hx hb dX9_minutes_1 rfl hl (by decide) rfl (fun ls hl => ?_)
  exact J2 fu _ _ _ _ _ _ _ T (lv_sub hl [1, 2, 0] rfl) h
set_option maxRecDepth 100000 in
set_option maxHeartbeats 4000000 in
theorem c_X9_fetchedAs {l : Launch} {G : th_G} {σ : th_S} {μ : th_M} {t : Nat} {x1 : Int32} {x2 : Int32} {r : Int32} {μ' : th_M} (h : f_X9_fetchedAs σ μ t x1 x2 = some (r, μ')) : th_Met l G yX9_fetchedAs cX9_fetchedAs 6 (some FieldType.int) { frames := 5, cells := 0, slots := 0, locals := 179 } [.ref t, .int x1, .int x2] σ μ (some (.int r)) σ μ' := by
  refine th_ofW (by decide +kernel) (Nat.le_of_ble_eq_true rfl) ?_
  intro p e s m args below meth c ls Q hQ C hr hk hnm T hl
  have hx := C.1
  have hb := C.2.1
  have C : CallFix p m c cX9_fetchedAs 6 s args th_ws RX9 := C
  have hl : lv_has ls 6 [(0, .ref t), (1, .int x1), (2, .int x2)] := hl
  have J14 : ∀ (n : Nat) (μ : th_M) (t : Nat) (x1 : Int32) (x2 : Int32) (x3 : Int32) (x4 : Int32) (x5 : Int32) (H : Heap) (locs : List Loc) (ls : Array Slot), th_R G s H locs σ μ → lv_has ls 6 [(0, .ref t), (1, .int x1), (2, .int x2), (3, .int x3), (4, .int x4), (5, .int x5)] → f_X9_fetchedAs_b14  n σ μ t x1 x2 x3 x4 x5 = some (r, μ') → W p l e { frames := 5, cells := 0, slots := 0, locals := 179 } s m args below meth c H locs 0 0 Q (F0 m 14 ls []) := by
    intro n
    induction n with
    | zero => intro μ t x1 x2 x3 x4 x5 H locs ls T hl h; unfold f_X9_fetchedAs_b14 at h; cases h
    | succ n14 ih14 =>
      intro μ t x1 x2 x3 x4 x5 H locs ls T hl h
      unfold f_X9_fetchedAs_b14 at h
      refine lv_iload hx hb dX9_fetchedAs_14 (lv_at hl 5 rfl) ?_
      refine lv_iload_n hx hb dX9_fetchedAs_16 rfl (lv_at hl 2 rfl) ?_
      refine lv_icmp_gt (tgt := 58) hx hb dX9_fetchedAs_17 (by decide) (fun c1 => ?_) (fun c1 => ?_)
      · replace h := ot_ c1 h
        refine lv_iconst (v := -1) hx hb dX9_fetchedAs_58 (by decide) ?_
        obtain ⟨rfl, rfl⟩ := os2 h
        exact th_iret hQ C hr hk T (Nat.le_of_ble_eq_true rfl) (Nat.le_of_ble_eq_true rfl) dX9_fetchedAs_59
      · replace h := of_ c1 h
        refine lv_iload_n hx hb dX9_fetchedAs_20 rfl (lv_at hl 3 rfl) ?_
        refine lv_if_eq (tgt := 58) hx hb dX9_fetchedAs_21 (by decide) (fun c2 => ?_) (fun c2 => ?_)
        · replace h := ot_ c2 h
          refine lv_iconst (v := -1) hx hb dX9_fetchedAs_58 (by decide) ?_
          obtain ⟨rfl, rfl⟩ := os2 h
          exact th_iret hQ C hr hk T (Nat.le_of_ble_eq_true rfl) (Nat.le_of_ble_eq_true rfl) dX9_fetchedAs_59
        · replace h := of_ c2 h
          refine lv_aload_n hx hb dX9_fetchedAs_24 rfl (lv_at hl 0 rfl) ?_
          refine lv_iload_n hx hb dX9_fetchedAs_25 rfl (lv_at hl 1 rfl) ?_
          refine lv_iload_n hx hb dX9_fetchedAs_26 rfl (lv_at hl 3 rfl) ?_
          refine lv_iload hx hb dX9_fetchedAs_27 (lv_at hl 4 rfl) ?_
          obtain ⟨k3, h⟩ := oc_ h
          obtain ⟨v4, e5, h⟩ := ob_ h
          refine th_callV (As := [.int x1, .int x3, .int x4]) (rest := []) C T (c_X9_best e5) k_RX9_25 9 rfl rfl (by decide) k3 rfl hl.1 rfl (st1 := [.int v4]) rfl (cells1 := 0) rfl (slots1 := 0) rfl (Nat.le_of_ble_eq_true rfl) ⟨Nat.le_of_ble_eq_true rfl, Nat.le_of_ble_eq_true rfl⟩ ⟨Nat.le_of_ble_eq_true rfl, Nat.le_of_ble_eq_true rfl⟩ dX9_fetchedAs_29 (fun H locs T => ?_)
          refine lv_istore (lv' := [(4, .int v4), (0, .ref t), (1, .int x1), (2, .int x2), (3, .int x3), (5, .int x5)]) hx hb dX9_fetchedAs_32 hl (by decide) rfl (fun ls hl => ?_)
          refine lv_iload_n hx hb dX9_fetchedAs_34 rfl (lv_at hl 4 rfl) ?_
          refine lv_iconst (v := 1) hx hb dX9_fetchedAs_35 (by decide) ?_
          refine lv_iload hx hb dX9_fetchedAs_36 (lv_at hl 0 rfl) ?_
          refine th_ishl C dX9_fetchedAs_38 ?_
          refine lv_iconst (v := -1) hx hb dX9_fetchedAs_39 (by decide) ?_
          refine lv_ixor hx hb dX9_fetchedAs_40 ?_
          refine lv_iand hx hb dX9_fetchedAs_41 ?_
          refine lv_istore_n (lv' := [(3, .int (x3 &&& ((jshl 1 v4) ^^^ (-1)))), (4, .int v4), (0, .ref t), (1, .int x1), (2, .int x2), (5, .int x5)]) hx hb dX9_fetchedAs_42 rfl hl (by decide) rfl (fun ls hl => ?_)
          refine lv_iload hx hb dX9_fetchedAs_43 (lv_at hl 5 rfl) ?_
          refine lv_iload_n hx hb dX9_fetchedAs_45 rfl (lv_at hl 4 rfl) ?_
          refine lv_icmp_ne (tgt := 52) hx hb dX9_fetchedAs_46 (by decide) (fun c6 => ?_) (fun c6 => ?_)
          · replace h := of_ c6 h
            refine lv_iinc (v := x5 + 1) (lv' := [(5, .int (x5 + 1)), (3, .int (x3 &&& ((jshl 1 v4) ^^^ (-1)))), (4, .int v4), (0, .ref t), (1, .int x1), (2, .int x2)]) hx hb dX9_fetchedAs_52 hl (k := 5) rfl rfl (by decide) rfl (fun ls hl => ?_)
            refine lv_goto (tgt := 14) hx hb dX9_fetchedAs_55 (by decide) ?_
            exact ih14 _ _ _ _ _ _ _ _ _ _ T (lv_sub hl [3, 4, 5, 1, 2, 0] rfl) h
          · replace h := ot_ c6 h
            refine lv_iload hx hb dX9_fetchedAs_49 (lv_at hl 1 rfl) ?_
            obtain ⟨rfl, rfl⟩ := os2 h
            exact th_iret hQ C hr hk T (Nat.le_of_ble_eq_true rfl) (Nat.le_of_ble_eq_true rfl) dX9_fetchedAs_51
  unfold f_X9_fetchedAs at h
  refine lv_aload_n hx hb dX9_fetchedAs_0 rfl (lv_at hl 0 rfl) ?_
  refine lv_iload_n hx hb dX9_fetchedAs_1 rfl (lv_at hl 1 rfl) ?_
  obtain ⟨k1, h⟩ := oc_ h
  obtain ⟨v2, μ3, e4, h⟩ := ob2 h
  refine th_callV (As := [.int x1]) (rest := []) C T (c_X9_minutes e4) k_RX9_33 9 rfl rfl (by decide) k1 rfl hl.1 rfl (st1 := [.int v2]) rfl (cells1 := 0) rfl (slots1 := 0) rfl (Nat.le_of_ble_eq_true rfl) ⟨Nat.le_of_ble_eq_true rfl, Nat.le_of_ble_eq_true rfl⟩ ⟨Nat.le_of_ble_eq_true rfl, Nat.le_of_ble_eq_true rfl⟩ dX9_fetchedAs_2 (fun H locs T => ?_)
  refine lv_pop hx hb dX9_fetchedAs_5 rfl ?_
  refine lv_iload_n hx hb dX9_fetchedAs_6 rfl (lv_at hl 1 rfl) ?_
  refine lv_istore_n (lv' := [(3, .int x1), (0, .ref t), (1, .int x1), (2, .int x2)]) hx hb dX9_fetchedAs_7 rfl hl (by decide) rfl (fun ls hl => ?_)
  refine lv_iconst (v := 0) hx hb dX9_fetchedAs_8 (by decide) ?_
  refine lv_istore (lv' := [(4, .int 0), (3, .int x1), (0, .ref t), (1, .int x1), (2, .int x2)]) hx hb dX9_fetchedAs_9 hl (by decide) rfl (fun ls hl => ?_)
  refine lv_iconst (v := 1) hx hb dX9_fetchedAs_11 (by decide) ?_
  refine lv_istore (lv' := [(5, .int 1), (4, .int 0), (3, .int x1), (0, .ref t), (1, .int x1), (2, .int x2)]) hx hb dX9_fetchedAs_12 hl (by decide) rfl (fun ls hl => ?_)
  exact J14 fu _ _ _ _ _ _ _ _ _ _ T (lv_sub hl [3, 4, 5, 2, 1, 0] rfl) h
set_option maxRecDepth 100000 in
set_option maxHeartbeats 4000000 in
theorem c_X10_init {l : Launch} {G : th_G} {σ : th_S} {μ : th_M} {t : Nat}  {σ' : th_S} {μ' : th_M} (h : f_X10_init σ μ t = some (σ', μ')) : th_Met l G yX10_init cX10_init 2 none { frames := 76, cells := 28, slots := 1943, locals := 1881 } [.ref t] σ μ none σ' μ' := by
  refine th_ofW (by decide +kernel) (Nat.le_of_ble_eq_true rfl) ?_
  intro p e s m args below meth c ls Q hQ C hr hk hnm T hl
  have hx := C.1
  have hb := C.2.1
  have C : CallFix p m c cX10_init 2 s args th_ws RX10 := C
  have hl : lv_has ls 2 [(0, .ref t)] := hl
  have J141 : ∀ (n : Nat) (cN sN : Nat), cN ≤ 24 → sN ≤ 1508 → ∀ (σ : th_S) (μ : th_M) (t : Nat) (x1 : Int32) (H : Heap) (locs : List Loc) (ls : Array Slot), th_R G s H locs σ μ → lv_has ls 2 [(0, .ref t), (1, .int x1)] → f_X10_init_b141  n σ μ t x1 = some (σ', μ') → W p l e { frames := 76, cells := 28, slots := 1943, locals := 1881 } s m args below meth c H locs cN sN Q (F0 m 141 ls []) := by
    intro n
    induction n with
    | zero => intro cN sN hcN hsN σ μ t x1 H locs ls T hl h; unfold f_X10_init_b141 at h; cases h
    | succ n141 ih141 =>
      intro cN sN hcN hsN σ μ t x1 H locs ls T hl h
      unfold f_X10_init_b141 at h
      refine lv_iload_n hx hb dX10_init_141 rfl (lv_at hl 1 rfl) ?_
      refine th_ldcS C T 0 rfl dX10_init_142 ?_
      obtain ⟨v1, e2, h⟩ := ob_ h
      refine th_callT (As := []) (rest := [.int x1]) C T (c_J0_length_8abf5 e2) (hd_length e2) k_RX10_61 rfl rfl hl.1 rfl (st1 := [.int v1, .int x1]) rfl (cells1 := cN) rfl (slots1 := sN) rfl (Nat.le_of_ble_eq_true rfl) ⟨Nat.le_of_ble_eq_true rfl, Nat.le_of_ble_eq_true rfl⟩ ⟨show cN + 0 ≤ 28 by omega, show sN + 0 ≤ 1943 by omega⟩ dX10_init_144 (fun H locs T => ?_)
      refine lv_icmp_ge (tgt := 170) hx hb dX10_init_147 (by decide) (fun c3 => ?_) (fun c3 => ?_)
      · replace h := ot_ c3 h
        refine lv_aload_n hx hb dX10_init_170 rfl (lv_at hl 0 rfl) ?_
        obtain ⟨a4, e5, h⟩ := ob_ h
        refine g_RX10_29 C T e5 dX10_init_171 ?_
        obtain ⟨k6, h⟩ := oc_ h
        obtain ⟨v7, μ8, e9, h⟩ := ob2 h
        refine th_callV (As := []) (rest := []) C T (c_X8_read e9) k_RX10_75 8 rfl rfl (by decide) k6 rfl hl.1 rfl (st1 := [.int v7]) rfl (cells1 := cN) rfl (slots1 := sN) rfl (Nat.le_of_ble_eq_true rfl) ⟨Nat.le_of_ble_eq_true rfl, Nat.le_of_ble_eq_true rfl⟩ ⟨show cN + 0 ≤ 28 by omega, show sN + 0 ≤ 1943 by omega⟩ dX10_init_174 (fun H locs T => ?_)
        refine lv_pop hx hb dX10_init_177 rfl ?_
        refine lv_aload_n hx hb dX10_init_178 rfl (lv_at hl 0 rfl) ?_
        obtain ⟨a10, e11, h⟩ := ob_ h
        refine g_RX10_35 C T e11 dX10_init_179 ?_
        refine lv_iconst (v := 0) hx hb dX10_init_182 (by decide) ?_
        refine lv_aload_n hx hb dX10_init_183 rfl (lv_at hl 0 rfl) ?_
        obtain ⟨a12, e13, h⟩ := ob_ h
        refine g_RX10_29 C T e13 dX10_init_184 ?_
        obtain ⟨k14, h⟩ := oc_ h
        obtain ⟨a15, σ16, μ17, e18, h⟩ := ob3 h
        refine th_callV (As := []) (rest := [.int 0, .ref a10]) C T (c_X8_ruleRead e18) k_RX10_78 8 rfl rfl (by decide) k14 rfl hl.1 rfl (st1 := [.ref a15, .int 0, .ref a10]) rfl (cells1 := cN + 4) rfl (slots1 := sN + 435) rfl (Nat.le_of_ble_eq_true rfl) ⟨Nat.le_of_ble_eq_true rfl, Nat.le_of_ble_eq_true rfl⟩ ⟨show cN + 4 ≤ 28 by omega, show sN + 435 ≤ 1943 by omega⟩ dX10_init_187 (fun H locs T => ?_)
        obtain ⟨σ19, e20, h⟩ := ob_ h
        refine th_aast C T 14 e20 (by decide) rfl th_cast14 dX10_init_190 (fun H locs T => ?_)
        refine lv_aload_n hx hb dX10_init_191 rfl (lv_at hl 0 rfl) ?_
        refine lv_iconst (v := 1) hx hb dX10_init_192 (by decide) ?_
        obtain ⟨μ21, e22, h⟩ := ob_ h
        refine p_RX10_82 C T e22 dX10_init_193 (fun H locs T => ?_)
        refine lv_aload_n hx hb dX10_init_196 rfl (lv_at hl 0 rfl) ?_
        obtain ⟨a23, e24, h⟩ := ob_ h
        refine g_RX10_29 C T e24 dX10_init_197 ?_
        obtain ⟨k25, h⟩ := oc_ h
        obtain ⟨μ26, e27, h⟩ := ob_ h
        refine th_callV (As := []) (rest := []) C T (c_X8_empty e27) k_RX10_85 8 rfl rfl (by decide) k25 rfl hl.1 rfl (st1 := []) rfl (cells1 := cN + 4) rfl (slots1 := sN + 435) rfl (Nat.le_of_ble_eq_true rfl) ⟨Nat.le_of_ble_eq_true rfl, Nat.le_of_ble_eq_true rfl⟩ ⟨show cN + 4 + 0 ≤ 28 by omega, show sN + 435 + 0 ≤ 1943 by omega⟩ dX10_init_200 (fun H locs T => ?_)
        obtain ⟨rfl, rfl⟩ := os2 h
        exact th_vret hQ C hr hk T (show cN + 4 ≤ 28 by omega) (show sN + 435 ≤ 1943 by omega) dX10_init_203
      · replace h := of_ c3 h
        refine lv_aload_n hx hb dX10_init_150 rfl (lv_at hl 0 rfl) ?_
        obtain ⟨a28, e29, h⟩ := ob_ h
        refine g_RX10_29 C T e29 dX10_init_151 ?_
        refine th_ldcS C T 0 rfl dX10_init_154 ?_
        refine lv_iload_n hx hb dX10_init_156 rfl (lv_at hl 1 rfl) ?_
        obtain ⟨v30, e31, h⟩ := ob_ h
        refine th_callT (As := [.int x1]) (rest := [.ref a28]) C T (c_J0_charAt_5068e e31) (hd_charAt e31) k_RX10_67 rfl rfl hl.1 rfl (st1 := [.int v30, .ref a28]) rfl (cells1 := cN) rfl (slots1 := sN) rfl (Nat.le_of_ble_eq_true rfl) ⟨Nat.le_of_ble_eq_true rfl, Nat.le_of_ble_eq_true rfl⟩ ⟨show cN + 0 ≤ 28 by omega, show sN + 0 ≤ 1943 by omega⟩ dX10_init_157 (fun H locs T => ?_)
        obtain ⟨k32, h⟩ := oc_ h
        obtain ⟨v33, μ34, e35, h⟩ := ob2 h
        refine th_callV (As := [.int v30]) (rest := []) C T (c_X8_add e35) k_RX10_71 8 rfl rfl (by decide) k32 rfl hl.1 rfl (st1 := [.int v33]) rfl (cells1 := cN) rfl (slots1 := sN) rfl (Nat.le_of_ble_eq_true rfl) ⟨Nat.le_of_ble_eq_true rfl, Nat.le_of_ble_eq_true rfl⟩ ⟨show cN + 0 ≤ 28 by omega, show sN + 0 ≤ 1943 by omega⟩ dX10_init_160 (fun H locs T => ?_)
        refine lv_pop hx hb dX10_init_163 rfl ?_
        refine lv_iinc (v := x1 + 1) (lv' := [(1, .int (x1 + 1)), (0, .ref t)]) hx hb dX10_init_164 hl (k := 1) rfl rfl (by decide) rfl (fun ls hl => ?_)
        refine lv_goto (tgt := 141) hx hb dX10_init_167 (by decide) ?_
        exact ih141 cN sN (by omega) (by omega) _ _ _ _ _ _ _ T (lv_sub hl [1, 0] rfl) h
  have J115 : ∀ (n : Nat) (cN sN : Nat), cN + n * 2 ≤ 24 → sN + n * 43 ≤ 1508 → ∀ (σ : th_S) (μ : th_M) (t : Nat) (x1 : Int32) (H : Heap) (locs : List Loc) (ls : Array Slot), th_R G s H locs σ μ → lv_has ls 2 [(0, .ref t), (1, .int x1)] → f_X10_init_b115  n σ μ t x1 = some (σ', μ') → W p l e { frames := 76, cells := 28, slots := 1943, locals := 1881 } s m args below meth c H locs cN sN Q (F0 m 115 ls []) := by
    intro n
    induction n with
    | zero => intro cN sN hcN hsN σ μ t x1 H locs ls T hl h; unfold f_X10_init_b115 at h; cases h
    | succ n115 ih115 =>
      intro cN sN hcN hsN σ μ t x1 H locs ls T hl h
      unfold f_X10_init_b115 at h
      refine lv_iload_n hx hb dX10_init_115 rfl (lv_at hl 1 rfl) ?_
      refine lv_iconst (v := 4) hx hb dX10_init_116 (by decide) ?_
      refine lv_icmp_ge (tgt := 139) hx hb dX10_init_117 (by decide) (fun c1 => ?_) (fun c1 => ?_)
      · replace h := ot_ c1 h
        refine lv_iconst (v := 0) hx hb dX10_init_139 (by decide) ?_
        refine lv_istore_n (lv' := [(1, .int 0), (0, .ref t)]) hx hb dX10_init_140 rfl hl (by decide) rfl (fun ls hl => ?_)
        exact J141 fu cN sN (by omega) (by omega) _ _ _ _ _ _ _ T (lv_sub hl [1, 0] rfl) h
      · replace h := of_ c1 h
        refine lv_aload_n hx hb dX10_init_120 rfl (lv_at hl 0 rfl) ?_
        obtain ⟨a2, e3, h⟩ := ob_ h
        refine g_RX10_54 C T e3 dX10_init_121 ?_
        refine lv_iload_n hx hb dX10_init_124 rfl (lv_at hl 1 rfl) ?_
        obtain ⟨a4, σ5, μ6, e7, h⟩ := ob3 h
        refine n_RX10_52 C T e7 (show cN + 1 ≤ 28 by omega) (show sN + 3 ≤ 1943 by omega) dX10_init_125 (fun H T => ?_)
        refine W.eqc (c1 := cN + 1) (s1 := sN + 3) rfl rfl ?_
        refine lv_dup hx hb dX10_init_128 rfl ?_
        obtain ⟨σ8, μ9, e10, h⟩ := ob2 h
        refine th_callIN (As := []) (rest := [.ref a4, .int x1, .ref a2]) C T (c_X6_init e10) k_RX10_58 rfl hl.1 rfl (st1 := [.ref a4, .int x1, .ref a2]) rfl (cells1 := cN + 2) rfl (slots1 := sN + 43) rfl (Nat.le_of_ble_eq_true rfl) ⟨Nat.le_of_ble_eq_true rfl, Nat.le_of_ble_eq_true rfl⟩ ⟨show cN + 1 + 1 ≤ 28 by omega, show sN + 3 + 40 ≤ 1943 by omega⟩ dX10_init_129 (fun H locs T => ?_)
        obtain ⟨σ11, e12, h⟩ := ob_ h
        refine th_aast C T 15 e12 (by decide) rfl th_cast15 dX10_init_132 (fun H locs T => ?_)
        refine lv_iinc (v := x1 + 1) (lv' := [(1, .int (x1 + 1)), (0, .ref t)]) hx hb dX10_init_133 hl (k := 1) rfl rfl (by decide) rfl (fun ls hl => ?_)
        refine lv_goto (tgt := 115) hx hb dX10_init_136 (by decide) ?_
        exact ih115 (cN + 2) (sN + 43) (by omega) (by omega) _ _ _ _ _ _ _ T (lv_sub hl [1, 0] rfl) h
  unfold f_X10_init at h
  refine lv_aload_n hx hb dX10_init_0 rfl (lv_at hl 0 rfl) ?_
  refine W.objInit hx hb C.2.2.2.1 (C.2.2.2.2 _ w_26) (C.2.2.2.2 _ w_27) (C.2.2.2.2 _ w_28) rfl (by rw [C.2.2.1]; exact hl.1) rfl dX10_init_1 (Nat.le_of_ble_eq_true rfl) (Nat.le_of_ble_eq_true rfl) ?_
  refine W.eq (g2 := F0 m 4 ls []) rfl ?_
  refine lv_aload_n hx hb dX10_init_4 rfl (lv_at hl 0 rfl) ?_
  refine lv_bipush (v := 7) hx hb dX10_init_5 (by decide) ?_
  obtain ⟨a1, σ2, μ3, e4, h⟩ := ob3 h
  refine th_newq C T 13 7 e4 (by decide) rfl (by decide) (by decide) (by decide) w_29 (by decide +kernel) (Nat.le_of_ble_eq_true rfl) (Nat.le_of_ble_eq_true rfl) dX10_init_7 (fun H T => ?_)
  refine W.eqc (c1 := 1) (s1 := 7) rfl rfl ?_
  obtain ⟨σ5, e6, h⟩ := ob_ h
  refine p_RX10_11 C T e6 hnm dX10_init_10 (fun H locs T => ?_)
  refine lv_aload_n hx hb dX10_init_13 rfl (lv_at hl 0 rfl) ?_
  refine lv_bipush (v := 12) hx hb dX10_init_14 (by decide) ?_
  obtain ⟨a7, σ8, μ9, e10, h⟩ := ob3 h
  refine th_newa C T 12 e10 (by decide) (by decide) (by decide) w_66 (Nat.le_of_ble_eq_true rfl) (Nat.le_of_ble_eq_true rfl) dX10_init_16 (fun H T => ?_)
  refine W.eqc (c1 := 2) (s1 := 19) rfl rfl ?_
  obtain ⟨σ11, e12, h⟩ := ob_ h
  refine p_RX10_15 C T e12 hnm dX10_init_18 (fun H locs T => ?_)
  refine lv_aload_n hx hb dX10_init_21 rfl (lv_at hl 0 rfl) ?_
  refine lv_bipush (v := 12) hx hb dX10_init_22 (by decide) ?_
  obtain ⟨a13, σ14, μ15, e16, h⟩ := ob3 h
  refine th_newa C T 12 e16 (by decide) (by decide) (by decide) w_66 (Nat.le_of_ble_eq_true rfl) (Nat.le_of_ble_eq_true rfl) dX10_init_24 (fun H T => ?_)
  refine W.eqc (c1 := 3) (s1 := 31) rfl rfl ?_
  obtain ⟨σ17, e18, h⟩ := ob_ h
  refine p_RX10_19 C T e18 hnm dX10_init_26 (fun H locs T => ?_)
  refine lv_aload_n hx hb dX10_init_29 rfl (lv_at hl 0 rfl) ?_
  refine lv_iconst (v := -1) hx hb dX10_init_30 (by decide) ?_
  obtain ⟨μ19, e20, h⟩ := ob_ h
  refine p_RX10_22 C T e20 dX10_init_31 (fun H locs T => ?_)
  refine lv_aload_n hx hb dX10_init_34 rfl (lv_at hl 0 rfl) ?_
  obtain ⟨a21, σ22, μ23, e24, h⟩ := ob3 h
  refine n_RX10_26 C T e24 (Nat.le_of_ble_eq_true rfl) (Nat.le_of_ble_eq_true rfl) dX10_init_35 (fun H T => ?_)
  refine W.eqc (c1 := 4) (s1 := 40) rfl rfl ?_
  refine lv_dup hx hb dX10_init_38 rfl ?_
  obtain ⟨σ25, μ26, e27, h⟩ := ob2 h
  refine th_callIN (As := []) (rest := [.ref a21, .ref t]) C T (c_X8_init e27) k_RX10_28 rfl hl.1 rfl (st1 := [.ref a21, .ref t]) rfl (cells1 := 7) rfl (slots1 := 363) rfl (Nat.le_of_ble_eq_true rfl) ⟨Nat.le_of_ble_eq_true rfl, Nat.le_of_ble_eq_true rfl⟩ ⟨Nat.le_of_ble_eq_true rfl, Nat.le_of_ble_eq_true rfl⟩ dX10_init_39 (fun H locs T => ?_)
  obtain ⟨σ28, e29, h⟩ := ob_ h
  refine p_RX10_29 C T e29 hnm dX10_init_42 (fun H locs T => ?_)
  refine lv_aload_n hx hb dX10_init_45 rfl (lv_at hl 0 rfl) ?_
  refine lv_bipush (v := 6) hx hb dX10_init_46 (by decide) ?_
  obtain ⟨a30, σ31, μ32, e33, h⟩ := ob3 h
  refine th_newq C T 14 6 e33 (by decide) rfl (by decide) (by decide) (by decide) w_67 (by decide +kernel) (Nat.le_of_ble_eq_true rfl) (Nat.le_of_ble_eq_true rfl) dX10_init_48 (fun H T => ?_)
  refine W.eqc (c1 := 8) (s1 := 369) rfl rfl ?_
  obtain ⟨σ34, e35, h⟩ := ob_ h
  refine p_RX10_35 C T e35 hnm dX10_init_51 (fun H locs T => ?_)
  refine lv_aload_n hx hb dX10_init_54 rfl (lv_at hl 0 rfl) ?_
  refine lv_bipush (v := 6) hx hb dX10_init_55 (by decide) ?_
  obtain ⟨a36, σ37, μ38, e39, h⟩ := ob3 h
  refine th_newa C T 6 e39 (by decide) (by decide) (by decide) w_66 (Nat.le_of_ble_eq_true rfl) (Nat.le_of_ble_eq_true rfl) dX10_init_57 (fun H T => ?_)
  refine W.eqc (c1 := 9) (s1 := 375) rfl rfl ?_
  obtain ⟨σ40, e41, h⟩ := ob_ h
  refine p_RX10_39 C T e41 hnm dX10_init_59 (fun H locs T => ?_)
  refine lv_aload_n hx hb dX10_init_62 rfl (lv_at hl 0 rfl) ?_
  obtain ⟨a42, σ43, μ44, e45, h⟩ := ob3 h
  refine n_RX10_42 C T e45 (Nat.le_of_ble_eq_true rfl) (Nat.le_of_ble_eq_true rfl) dX10_init_63 (fun H T => ?_)
  refine W.eqc (c1 := 10) (s1 := 379) rfl rfl ?_
  refine lv_dup hx hb dX10_init_66 rfl ?_
  obtain ⟨σ46, μ47, e48, h⟩ := ob2 h
  refine th_callIN (As := []) (rest := [.ref a42, .ref t]) C T (c_X9_init e48) k_RX10_44 rfl hl.1 rfl (st1 := [.ref a42, .ref t]) rfl (cells1 := 12) rfl (slots1 := 1282) rfl (Nat.le_of_ble_eq_true rfl) ⟨Nat.le_of_ble_eq_true rfl, Nat.le_of_ble_eq_true rfl⟩ ⟨Nat.le_of_ble_eq_true rfl, Nat.le_of_ble_eq_true rfl⟩ dX10_init_67 (fun H locs T => ?_)
  obtain ⟨σ49, e50, h⟩ := ob_ h
  refine p_RX10_45 C T e50 hnm dX10_init_70 (fun H locs T => ?_)
  refine lv_aload_n hx hb dX10_init_73 rfl (lv_at hl 0 rfl) ?_
  refine lv_bipush (v := 7) hx hb dX10_init_74 (by decide) ?_
  obtain ⟨a51, σ52, μ53, e54, h⟩ := ob3 h
  refine th_newa C T 7 e54 (by decide) (by decide) (by decide) w_66 (Nat.le_of_ble_eq_true rfl) (Nat.le_of_ble_eq_true rfl) dX10_init_76 (fun H T => ?_)
  refine W.eqc (c1 := 13) (s1 := 1289) rfl rfl ?_
  obtain ⟨σ55, e56, h⟩ := ob_ h
  refine p_RX10_49 C T e56 hnm dX10_init_78 (fun H locs T => ?_)
  refine lv_aload_n hx hb dX10_init_81 rfl (lv_at hl 0 rfl) ?_
  refine lv_iconst (v := 4) hx hb dX10_init_82 (by decide) ?_
  obtain ⟨a57, σ58, μ59, e60, h⟩ := ob3 h
  refine th_newq C T 15 4 e60 (by decide) rfl (by decide) (by decide) (by decide) w_91 (by decide +kernel) (Nat.le_of_ble_eq_true rfl) (Nat.le_of_ble_eq_true rfl) dX10_init_83 (fun H T => ?_)
  refine W.eqc (c1 := 14) (s1 := 1293) rfl rfl ?_
  obtain ⟨σ61, e62, h⟩ := ob_ h
  refine p_RX10_54 C T e62 hnm dX10_init_86 (fun H locs T => ?_)
  refine lv_aload_n hx hb dX10_init_89 rfl (lv_at hl 0 rfl) ?_
  obtain ⟨a63, e64, h⟩ := ob_ h
  refine g_RX10_15 C T e64 dX10_init_90 ?_
  refine lv_iconst (v := 4) hx hb dX10_init_93 (by decide) ?_
  refine lv_bipush (v := 27) hx hb dX10_init_94 (by decide) ?_
  obtain ⟨μ65, e66, h⟩ := ob_ h
  refine th_iastn C T e66 (by decide) (by decide) dX10_init_96 (fun H locs T => ?_)
  refine lv_aload_n hx hb dX10_init_97 rfl (lv_at hl 0 rfl) ?_
  obtain ⟨a67, e68, h⟩ := ob_ h
  refine g_RX10_15 C T e68 dX10_init_98 ?_
  refine lv_bipush (v := 6) hx hb dX10_init_101 (by decide) ?_
  refine lv_iconst (v := 2) hx hb dX10_init_103 (by decide) ?_
  obtain ⟨μ69, e70, h⟩ := ob_ h
  refine th_iastn C T e70 (by decide) (by decide) dX10_init_104 (fun H locs T => ?_)
  refine lv_aload_n hx hb dX10_init_105 rfl (lv_at hl 0 rfl) ?_
  obtain ⟨a71, e72, h⟩ := ob_ h
  refine g_RX10_15 C T e72 dX10_init_106 ?_
  refine lv_bipush (v := 7) hx hb dX10_init_109 (by decide) ?_
  refine lv_iconst (v := 1) hx hb dX10_init_111 (by decide) ?_
  obtain ⟨μ73, e74, h⟩ := ob_ h
  refine th_iastn C T e74 (by decide) (by decide) dX10_init_112 (fun H locs T => ?_)
  refine lv_iconst (v := 0) hx hb dX10_init_113 (by decide) ?_
  refine lv_istore_n (lv' := [(1, .int 0), (0, .ref t)]) hx hb dX10_init_114 rfl hl (by decide) rfl (fun ls hl => ?_)
  exact J115 5 14 1293 (by omega) (by omega) _ _ _ _ _ _ _ T (lv_sub hl [1, 0] rfl) h
set_option maxRecDepth 100000 in
set_option maxHeartbeats 4000000 in
theorem c_X10_fits {l : Launch} {G : th_G} {σ : th_S} {μ : th_M} {x0 : Int32} {x1 : Int32} {r : Int32} (h : f_X10_fits σ μ x0 x1 = some r) : th_Met l G yX10_fits cX10_fits 2 (some FieldType.boolean) { frames := 0, cells := 0, slots := 0, locals := 0 } [.int x0, .int x1] σ μ (some (.int r)) σ μ := by
  refine th_ofW (by decide +kernel) (Nat.le_of_ble_eq_true rfl) ?_
  intro p e s m args below meth c ls Q hQ C hr hk hnm T hl
  have hx := C.1
  have hb := C.2.1
  have C : CallFix p m c cX10_fits 2 s args th_ws RX10 := C
  have hl : lv_has ls 2 [(0, .int x0), (1, .int x1)] := hl
  unfold f_X10_fits at h
  refine lv_iload_n hx hb dX10_fits_0 rfl (lv_at hl 1 rfl) ?_
  refine th_least_ C T w_342 dX10_fits_1 ?_
  refine lv_iload_n hx hb dX10_fits_4 rfl (lv_at hl 0 rfl) ?_
  obtain ⟨v1, e2, h⟩ := ob_ h
  refine th_leastI C T e2 dX10_fits_5 ?_
  refine lv_icmp_lt (tgt := 22) hx hb dX10_fits_6 (by decide) (fun c3 => ?_) (fun c3 => ?_)
  · replace h := ot_ c3 h
    refine lv_iconst (v := 0) hx hb dX10_fits_22 (by decide) ?_
    obtain rfl := os1 h
    exact th_zret hQ C hr hk T (Nat.le_of_ble_eq_true rfl) (Nat.le_of_ble_eq_true rfl) dX10_fits_23 rfl
  · replace h := of_ c3 h
    refine lv_iload_n hx hb dX10_fits_9 rfl (lv_at hl 1 rfl) ?_
    refine th_most_ C T w_344 dX10_fits_10 ?_
    refine lv_iload_n hx hb dX10_fits_13 rfl (lv_at hl 0 rfl) ?_
    obtain ⟨v4, e5, h⟩ := ob_ h
    refine th_mostI C T e5 dX10_fits_14 ?_
    refine lv_icmp_gt (tgt := 22) hx hb dX10_fits_15 (by decide) (fun c6 => ?_) (fun c6 => ?_)
    · replace h := ot_ c6 h
      refine lv_iconst (v := 0) hx hb dX10_fits_22 (by decide) ?_
      obtain rfl := os1 h
      exact th_zret hQ C hr hk T (Nat.le_of_ble_eq_true rfl) (Nat.le_of_ble_eq_true rfl) dX10_fits_23 rfl
    · replace h := of_ c6 h
      refine lv_iconst (v := 1) hx hb dX10_fits_18 (by decide) ?_
      refine lv_goto (tgt := 23) hx hb dX10_fits_19 (by decide) ?_
      obtain rfl := os1 h
      exact th_zret hQ C hr hk T (Nat.le_of_ble_eq_true rfl) (Nat.le_of_ble_eq_true rfl) dX10_fits_23 rfl
set_option maxRecDepth 100000 in
set_option maxHeartbeats 4000000 in
theorem c_X10_newBoat {l : Launch} {G : th_G} {σ : th_S} {μ : th_M} {x0 : Int32} {x1 : Int32} {x2 : Int32} {r : Nat} {σ' : th_S} {μ' : th_M} (h : f_X10_newBoat σ μ x0 x1 x2 = some (r, σ', μ')) : th_Met l G yX10_newBoat cX10_newBoat 3 (some (FieldType.object "BoatsCalledIn$Boat")) { frames := 4, cells := 3, slots := 14, locals := 146 } [.int x0, .int x1, .int x2] σ μ (some (.ref r)) σ' μ' := by
  refine th_ofW (by decide +kernel) (Nat.le_of_ble_eq_true rfl) ?_
  intro p e s m args below meth c ls Q hQ C hr hk hnm T hl
  have hx := C.1
  have hb := C.2.1
  have C : CallFix p m c cX10_newBoat 3 s args th_ws RX10 := C
  have hl : lv_has ls 3 [(0, .int x0), (1, .int x1), (2, .int x2)] := hl
  unfold f_X10_newBoat at h
  refine lv_iload_n hx hb dX10_newBoat_0 rfl (lv_at hl 0 rfl) ?_
  by_cases c1 : x0 = 1
  · replace h := ot_ c1 h
    refine th_tabIn (off := 35) (tgt := 36) C 1 c1 dX10_newBoat_1 (by decide) (by decide) (by decide) (by decide) ?_
    obtain ⟨a2, σ3, μ4, e5, h⟩ := ob3 h
    refine n_RX10_128 C T e5 (Nat.le_of_ble_eq_true rfl) (Nat.le_of_ble_eq_true rfl) dX10_newBoat_36 (fun H T => ?_)
    refine W.eqc (c1 := 1) (s1 := 2) rfl rfl ?_
    refine lv_dup hx hb dX10_newBoat_39 rfl ?_
    refine lv_iload_n hx hb dX10_newBoat_40 rfl (lv_at hl 1 rfl) ?_
    refine lv_iload_n hx hb dX10_newBoat_41 rfl (lv_at hl 2 rfl) ?_
    obtain ⟨σ6, μ7, e8, h⟩ := ob2 h
    refine th_callI (As := [.int x1, .int x2]) (rest := [.ref a2]) C T (c_X7_init e8) k_RX10_130 rfl hl.1 rfl (st1 := [.ref a2]) rfl (cells1 := 3) rfl (slots1 := 14) rfl (Nat.le_of_ble_eq_true rfl) ⟨Nat.le_of_ble_eq_true rfl, Nat.le_of_ble_eq_true rfl⟩ ⟨Nat.le_of_ble_eq_true rfl, Nat.le_of_ble_eq_true rfl⟩ dX10_newBoat_42 (fun H locs T => ?_)
    obtain ⟨rfl, rfl, rfl⟩ := os3 h
    exact th_aret hQ C hr hk T (Nat.le_of_ble_eq_true rfl) (Nat.le_of_ble_eq_true rfl) dX10_newBoat_45 (Or.inl ⟨_, rfl⟩)
  replace h := of_ c1 h
  by_cases c9 : x0 = 2
  · replace h := ot_ c9 h
    refine th_tabIn (off := 45) (tgt := 46) C 2 c9 dX10_newBoat_1 (by decide) (by decide) (by decide) (by decide) ?_
    obtain ⟨a10, σ11, μ12, e13, h⟩ := ob3 h
    refine n_RX10_133 C T e13 (Nat.le_of_ble_eq_true rfl) (Nat.le_of_ble_eq_true rfl) dX10_newBoat_46 (fun H T => ?_)
    refine W.eqc (c1 := 1) (s1 := 2) rfl rfl ?_
    refine lv_dup hx hb dX10_newBoat_49 rfl ?_
    refine lv_iload_n hx hb dX10_newBoat_50 rfl (lv_at hl 1 rfl) ?_
    refine lv_iload_n hx hb dX10_newBoat_51 rfl (lv_at hl 2 rfl) ?_
    obtain ⟨σ14, μ15, e16, h⟩ := ob2 h
    refine th_callI (As := [.int x1, .int x2]) (rest := [.ref a10]) C T (c_X4_init e16) k_RX10_135 rfl hl.1 rfl (st1 := [.ref a10]) rfl (cells1 := 3) rfl (slots1 := 14) rfl (Nat.le_of_ble_eq_true rfl) ⟨Nat.le_of_ble_eq_true rfl, Nat.le_of_ble_eq_true rfl⟩ ⟨Nat.le_of_ble_eq_true rfl, Nat.le_of_ble_eq_true rfl⟩ dX10_newBoat_52 (fun H locs T => ?_)
    obtain ⟨rfl, rfl, rfl⟩ := os3 h
    exact th_aret hQ C hr hk T (Nat.le_of_ble_eq_true rfl) (Nat.le_of_ble_eq_true rfl) dX10_newBoat_55 (Or.inl ⟨_, rfl⟩)
  replace h := of_ c9 h
  by_cases c17 : x0 = 3
  · replace h := ot_ c17 h
    refine th_tabIn (off := 55) (tgt := 56) C 3 c17 dX10_newBoat_1 (by decide) (by decide) (by decide) (by decide) ?_
    obtain ⟨a18, σ19, μ20, e21, h⟩ := ob3 h
    refine n_RX10_136 C T e21 (Nat.le_of_ble_eq_true rfl) (Nat.le_of_ble_eq_true rfl) dX10_newBoat_56 (fun H T => ?_)
    refine W.eqc (c1 := 1) (s1 := 2) rfl rfl ?_
    refine lv_dup hx hb dX10_newBoat_59 rfl ?_
    refine lv_iload_n hx hb dX10_newBoat_60 rfl (lv_at hl 1 rfl) ?_
    refine lv_iload_n hx hb dX10_newBoat_61 rfl (lv_at hl 2 rfl) ?_
    obtain ⟨σ22, μ23, e24, h⟩ := ob2 h
    refine th_callI (As := [.int x1, .int x2]) (rest := [.ref a18]) C T (c_X2_init e24) k_RX10_138 rfl hl.1 rfl (st1 := [.ref a18]) rfl (cells1 := 3) rfl (slots1 := 14) rfl (Nat.le_of_ble_eq_true rfl) ⟨Nat.le_of_ble_eq_true rfl, Nat.le_of_ble_eq_true rfl⟩ ⟨Nat.le_of_ble_eq_true rfl, Nat.le_of_ble_eq_true rfl⟩ dX10_newBoat_62 (fun H locs T => ?_)
    obtain ⟨rfl, rfl, rfl⟩ := os3 h
    exact th_aret hQ C hr hk T (Nat.le_of_ble_eq_true rfl) (Nat.le_of_ble_eq_true rfl) dX10_newBoat_65 (Or.inl ⟨_, rfl⟩)
  replace h := of_ c17 h
  by_cases c25 : x0 = 4
  · replace h := ot_ c25 h
    refine th_tabIn (off := 65) (tgt := 66) C 4 c25 dX10_newBoat_1 (by decide) (by decide) (by decide) (by decide) ?_
    obtain ⟨a26, σ27, μ28, e29, h⟩ := ob3 h
    refine n_RX10_139 C T e29 (Nat.le_of_ble_eq_true rfl) (Nat.le_of_ble_eq_true rfl) dX10_newBoat_66 (fun H T => ?_)
    refine W.eqc (c1 := 1) (s1 := 2) rfl rfl ?_
    refine lv_dup hx hb dX10_newBoat_69 rfl ?_
    refine lv_iload_n hx hb dX10_newBoat_70 rfl (lv_at hl 1 rfl) ?_
    refine lv_iload_n hx hb dX10_newBoat_71 rfl (lv_at hl 2 rfl) ?_
    obtain ⟨σ30, μ31, e32, h⟩ := ob2 h
    refine th_callI (As := [.int x1, .int x2]) (rest := [.ref a26]) C T (c_X1_init e32) k_RX10_141 rfl hl.1 rfl (st1 := [.ref a26]) rfl (cells1 := 3) rfl (slots1 := 14) rfl (Nat.le_of_ble_eq_true rfl) ⟨Nat.le_of_ble_eq_true rfl, Nat.le_of_ble_eq_true rfl⟩ ⟨Nat.le_of_ble_eq_true rfl, Nat.le_of_ble_eq_true rfl⟩ dX10_newBoat_72 (fun H locs T => ?_)
    obtain ⟨rfl, rfl, rfl⟩ := os3 h
    exact th_aret hQ C hr hk T (Nat.le_of_ble_eq_true rfl) (Nat.le_of_ble_eq_true rfl) dX10_newBoat_75 (Or.inl ⟨_, rfl⟩)
  replace h := of_ c25 h
  by_cases c33 : x0 = 5
  · replace h := ot_ c33 h
    refine th_tabIn (off := 75) (tgt := 76) C 5 c33 dX10_newBoat_1 (by decide) (by decide) (by decide) (by decide) ?_
    obtain ⟨a34, σ35, μ36, e37, h⟩ := ob3 h
    refine n_RX10_142 C T e37 (Nat.le_of_ble_eq_true rfl) (Nat.le_of_ble_eq_true rfl) dX10_newBoat_76 (fun H T => ?_)
    refine W.eqc (c1 := 1) (s1 := 2) rfl rfl ?_
    refine lv_dup hx hb dX10_newBoat_79 rfl ?_
    refine lv_iload_n hx hb dX10_newBoat_80 rfl (lv_at hl 1 rfl) ?_
    refine lv_iload_n hx hb dX10_newBoat_81 rfl (lv_at hl 2 rfl) ?_
    obtain ⟨σ38, μ39, e40, h⟩ := ob2 h
    refine th_callI (As := [.int x1, .int x2]) (rest := [.ref a34]) C T (c_X3_init e40) k_RX10_144 rfl hl.1 rfl (st1 := [.ref a34]) rfl (cells1 := 3) rfl (slots1 := 14) rfl (Nat.le_of_ble_eq_true rfl) ⟨Nat.le_of_ble_eq_true rfl, Nat.le_of_ble_eq_true rfl⟩ ⟨Nat.le_of_ble_eq_true rfl, Nat.le_of_ble_eq_true rfl⟩ dX10_newBoat_82 (fun H locs T => ?_)
    obtain ⟨rfl, rfl, rfl⟩ := os3 h
    exact th_aret hQ C hr hk T (Nat.le_of_ble_eq_true rfl) (Nat.le_of_ble_eq_true rfl) dX10_newBoat_85 (Or.inl ⟨_, rfl⟩)
  replace h := of_ c33 h
  have n41 := th_ne (n := 1) c1 (by decide)
  have n42 := th_ne (n := 2) c9 (by decide)
  have n43 := th_ne (n := 3) c17 (by decide)
  have n44 := th_ne (n := 4) c25 (by decide)
  have n45 := th_ne (n := 5) c33 (by decide)
  refine lv_tableOut (tgt := 86) hx hb dX10_newBoat_1 (by omega) (by decide) ?_
  obtain ⟨a46, σ47, μ48, e49, h⟩ := ob3 h
  refine n_RX10_9 C T e49 (Nat.le_of_ble_eq_true rfl) (Nat.le_of_ble_eq_true rfl) dX10_newBoat_86 (fun H T => ?_)
  refine W.eqc (c1 := 1) (s1 := 2) rfl rfl ?_
  refine lv_dup hx hb dX10_newBoat_89 rfl ?_
  refine lv_iload_n hx hb dX10_newBoat_90 rfl (lv_at hl 1 rfl) ?_
  refine lv_iload_n hx hb dX10_newBoat_91 rfl (lv_at hl 2 rfl) ?_
  obtain ⟨σ50, μ51, e52, h⟩ := ob2 h
  refine th_callI (As := [.int x1, .int x2]) (rest := [.ref a46]) C T (c_X0_init e52) k_RX10_145 rfl hl.1 rfl (st1 := [.ref a46]) rfl (cells1 := 3) rfl (slots1 := 14) rfl (Nat.le_of_ble_eq_true rfl) ⟨Nat.le_of_ble_eq_true rfl, Nat.le_of_ble_eq_true rfl⟩ ⟨Nat.le_of_ble_eq_true rfl, Nat.le_of_ble_eq_true rfl⟩ dX10_newBoat_92 (fun H locs T => ?_)
  obtain ⟨rfl, rfl, rfl⟩ := os3 h
  exact th_aret hQ C hr hk T (Nat.le_of_ble_eq_true rfl) (Nat.le_of_ble_eq_true rfl) dX10_newBoat_95 (Or.inl ⟨_, rfl⟩)
