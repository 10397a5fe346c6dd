set_option maxRecDepth 100000 in
set_option maxHeartbeats 4000000 in
theorem c_X8_isSpelled {l : Launch} {G : th_G} {σ : th_S} {μ : th_M} {t : Nat} {x1 : Nat} {r : Int32} (h : f_X8_isSpelled σ μ t x1 = some r) : th_Met l G yX8_isSpelled cX8_isSpelled 3 (some FieldType.boolean) { frames := 5, cells := 0, slots := 0, locals := 261 } [.ref t, .ref (G.2.2.2.1 x1)] σ μ (some (.int r)) σ μ := by
  refine th_ofW (by decide +kernel) (Nat.le_of_ble_eq_true rfl) ?_
  intro p e s m args below meth c ls Q hQ C hr hk hnm T hl
  have hx := C.1
  have hb := C.2.1
  have C : CallFix p m c cX8_isSpelled 3 s args th_ws RX8 := C
  have hl : lv_has ls 3 [(0, .ref t), (1, .ref (G.2.2.2.1 x1))] := hl
  have J20 : ∀ (n : Nat) (t : Nat) (x1 : Nat) (x2 : Int32) (H : Heap) (locs : List Loc) (ls : Array Slot), th_R G s H locs σ μ → lv_has ls 3 [(0, .ref t), (1, .ref (G.2.2.2.1 x1)), (2, .int x2)] → f_X8_isSpelled_b20  n σ μ t x1 x2 = some r → W p l e { frames := 5, cells := 0, slots := 0, locals := 261 } s m args below meth c H locs 0 0 Q (F0 m 20 ls []) := by
    intro n
    induction n with
    | zero => intro t x1 x2 H locs ls T hl h; unfold f_X8_isSpelled_b20 at h; cases h
    | succ n20 ih20 =>
      intro t x1 x2 H locs ls T hl h
      unfold f_X8_isSpelled_b20 at h
      refine lv_iload_n hx hb dX8_isSpelled_20 rfl (lv_at hl 2 rfl) ?_
      refine lv_aload_n hx hb dX8_isSpelled_21 rfl (lv_at hl 1 rfl) ?_
      obtain ⟨v1, e2, h⟩ := ob_ h
      refine th_callT (As := []) (rest := [.int x2]) C T (c_J0_length_8abf5 e2) (hd_length e2) k_RX8_112 rfl rfl hl.1 rfl (st1 := [.int v1, .int x2]) rfl (cells1 := 0) rfl (slots1 := 0) rfl (Nat.le_of_ble_eq_true rfl) ⟨Nat.le_of_ble_eq_true rfl, Nat.le_of_ble_eq_true rfl⟩ ⟨Nat.le_of_ble_eq_true rfl, Nat.le_of_ble_eq_true rfl⟩ dX8_isSpelled_22 (fun H locs T => ?_)
      refine lv_icmp_ge (tgt := 55) hx hb dX8_isSpelled_25 (by decide) (fun c3 => ?_) (fun c3 => ?_)
      · replace h := ot_ c3 h
        refine lv_iconst (v := 1) hx hb dX8_isSpelled_55 (by decide) ?_
        obtain rfl := os1 h
        exact th_zret hQ C hr hk T (Nat.le_of_ble_eq_true rfl) (Nat.le_of_ble_eq_true rfl) dX8_isSpelled_56 rfl
      · replace h := of_ c3 h
        refine lv_aload_n hx hb dX8_isSpelled_28 rfl (lv_at hl 1 rfl) ?_
        refine lv_iload_n hx hb dX8_isSpelled_29 rfl (lv_at hl 2 rfl) ?_
        obtain ⟨v4, e5, h⟩ := ob_ h
        refine th_callT (As := [.int x2]) (rest := []) C T (c_J0_charAt_5068e e5) (hd_charAt e5) k_RX8_118 rfl rfl hl.1 rfl (st1 := [.int v4]) rfl (cells1 := 0) rfl (slots1 := 0) rfl (Nat.le_of_ble_eq_true rfl) ⟨Nat.le_of_ble_eq_true rfl, Nat.le_of_ble_eq_true rfl⟩ ⟨Nat.le_of_ble_eq_true rfl, Nat.le_of_ble_eq_true rfl⟩ dX8_isSpelled_30 (fun H locs T => ?_)
        refine lv_aload_n hx hb dX8_isSpelled_33 rfl (lv_at hl 0 rfl) ?_
        obtain ⟨a6, e7, h⟩ := ob_ h
        refine g_RX8_9 C T e7 dX8_isSpelled_34 ?_
        refine lv_aload_n hx hb dX8_isSpelled_37 rfl (lv_at hl 0 rfl) ?_
        obtain ⟨v8, e9, h⟩ := ob_ h
        refine g_RX8_38 C T e9 dX8_isSpelled_38 ?_
        refine lv_iload_n hx hb dX8_isSpelled_41 rfl (lv_at hl 2 rfl) ?_
        refine lv_iadd hx hb dX8_isSpelled_42 ?_
        obtain ⟨v10, e11, h⟩ := ob_ h
        refine th_iald C T e11 dX8_isSpelled_43 ?_
        refine lv_icmp_eq (tgt := 49) hx hb dX8_isSpelled_44 (by decide) (fun c12 => ?_) (fun c12 => ?_)
        · replace h := ot_ c12 h
          refine lv_iinc (v := x2 + 1) (lv' := [(2, .int (x2 + 1)), (0, .ref t), (1, .ref (G.2.2.2.1 x1))]) hx hb dX8_isSpelled_49 hl (k := 2) rfl rfl (by decide) rfl (fun ls hl => ?_)
          refine lv_goto (tgt := 20) hx hb dX8_isSpelled_52 (by decide) ?_
          exact ih20 _ _ _ _ _ _ T (lv_sub hl [1, 2, 0] rfl) h
        · replace h := of_ c12 h
          refine lv_iconst (v := 0) hx hb dX8_isSpelled_47 (by decide) ?_
          obtain rfl := os1 h
          exact th_zret hQ C hr hk T (Nat.le_of_ble_eq_true rfl) (Nat.le_of_ble_eq_true rfl) dX8_isSpelled_48 rfl
  unfold f_X8_isSpelled at h
  refine lv_aload_n hx hb dX8_isSpelled_0 rfl (lv_at hl 1 rfl) ?_
  obtain ⟨v1, e2, h⟩ := ob_ h
  refine th_callT (As := []) (rest := []) C T (c_J0_length_8abf5 e2) (hd_length e2) k_RX8_112 rfl rfl hl.1 rfl (st1 := [.int v1]) rfl (cells1 := 0) rfl (slots1 := 0) rfl (Nat.le_of_ble_eq_true rfl) ⟨Nat.le_of_ble_eq_true rfl, Nat.le_of_ble_eq_true rfl⟩ ⟨Nat.le_of_ble_eq_true rfl, Nat.le_of_ble_eq_true rfl⟩ dX8_isSpelled_1 (fun H locs T => ?_)
  refine lv_aload_n hx hb dX8_isSpelled_4 rfl (lv_at hl 0 rfl) ?_
  obtain ⟨v3, e4, h⟩ := ob_ h
  refine g_RX8_28 C T e4 dX8_isSpelled_5 ?_
  refine lv_aload_n hx hb dX8_isSpelled_8 rfl (lv_at hl 0 rfl) ?_
  obtain ⟨v5, e6, h⟩ := ob_ h
  refine g_RX8_38 C T e6 dX8_isSpelled_9 ?_
  refine lv_isub hx hb dX8_isSpelled_12 ?_
  refine lv_icmp_eq (tgt := 18) hx hb dX8_isSpelled_13 (by decide) (fun c7 => ?_) (fun c7 => ?_)
  · replace h := ot_ c7 h
    refine lv_iconst (v := 0) hx hb dX8_isSpelled_18 (by decide) ?_
    refine lv_istore_n (lv' := [(2, .int 0), (0, .ref t), (1, .ref (G.2.2.2.1 x1))]) hx hb dX8_isSpelled_19 rfl hl (by decide) rfl (fun ls hl => ?_)
    exact J20 fu _ _ _ _ _ _ T (lv_sub hl [1, 2, 0] rfl) h
  · replace h := of_ c7 h
    refine lv_iconst (v := 0) hx hb dX8_isSpelled_16 (by decide) ?_
    obtain rfl := os1 h
    exact th_zret hQ C hr hk T (Nat.le_of_ble_eq_true rfl) (Nat.le_of_ble_eq_true rfl) dX8_isSpelled_17 rfl
set_option maxRecDepth 100000 in
set_option maxHeartbeats 4000000 in
theorem c_X8_takeWord {l : Launch} {G : th_G} {σ : th_S} {μ : th_M} {t : Nat}  {μ' : th_M} (h : f_X8_takeWord σ μ t = some μ') : th_Met l G yX8_takeWord cX8_takeWord 2 none { frames := 6, cells := 0, slots := 0, locals := 283 } [.ref t] σ μ none σ μ' := by
  refine th_ofW (by decide +kernel) (Nat.le_of_ble_eq_true rfl) ?_
  intro p e s m args below meth c ls Q hQ C hr hk hnm T hl
  have hx := C.1
  have hb := C.2.1
  have C : CallFix p m c cX8_takeWord 2 s args th_ws RX8 := C
  have hl : lv_has ls 2 [(0, .ref t)] := hl
  have J47 : ∀ (n : Nat) (μ : th_M) (t : Nat) (x1 : Int32) (H : Heap) (locs : List Loc) (ls : Array Slot), th_R G s H locs σ μ → lv_has ls 2 [(0, .ref t), (1, .int x1)] → f_X8_takeWord_b47  n σ μ t x1 = some μ' → W p l e { frames := 6, cells := 0, slots := 0, locals := 283 } s m args below meth c H locs 0 0 Q (F0 m 47 ls []) := by
    intro n
    induction n with
    | zero => intro μ t x1 H locs ls T hl h; unfold f_X8_takeWord_b47 at h; cases h
    | succ n47 ih47 =>
      intro μ t x1 H locs ls T hl h
      unfold f_X8_takeWord_b47 at h
      refine lv_iload_n hx hb dX8_takeWord_47 rfl (lv_at hl 1 rfl) ?_
      refine lv_bipush (v := 12) hx hb dX8_takeWord_48 (by decide) ?_
      refine lv_icmp_ge (tgt := 75) hx hb dX8_takeWord_50 (by decide) (fun c1 => ?_) (fun c1 => ?_)
      · replace h := ot_ c1 h
        obtain rfl := os1 h
        exact th_vret hQ C hr hk T (Nat.le_of_ble_eq_true rfl) (Nat.le_of_ble_eq_true rfl) dX8_takeWord_75
      · replace h := of_ c1 h
        refine lv_aload_n hx hb dX8_takeWord_53 rfl (lv_at hl 0 rfl) ?_
        refine lv_iload_n hx hb dX8_takeWord_54 rfl (lv_at hl 1 rfl) ?_
        obtain ⟨a2, e3, h⟩ := ob_ h
        refine th_callS (As := [.int x1]) (rest := [.ref t]) C T (c_X8_spelling e3) k_RX8_104 rfl hl.1 rfl (st1 := [.ref (G.2.2.2.1 a2), .ref t]) rfl (cells1 := 0) rfl (slots1 := 0) rfl (Nat.le_of_ble_eq_true rfl) ⟨Nat.le_of_ble_eq_true rfl, Nat.le_of_ble_eq_true rfl⟩ ⟨Nat.le_of_ble_eq_true rfl, Nat.le_of_ble_eq_true rfl⟩ dX8_takeWord_55 (fun H locs T => ?_)
        obtain ⟨k4, h⟩ := oc_ h
        obtain ⟨v5, e6, h⟩ := ob_ h
        refine th_callV (As := [.ref (G.2.2.2.1 a2)]) (rest := []) C T (c_X8_isSpelled e6) k_RX8_108 8 rfl rfl (by decide) k4 rfl hl.1 rfl (st1 := [.int v5]) rfl (cells1 := 0) rfl (slots1 := 0) rfl (Nat.le_of_ble_eq_true rfl) ⟨Nat.le_of_ble_eq_true rfl, Nat.le_of_ble_eq_true rfl⟩ ⟨Nat.le_of_ble_eq_true rfl, Nat.le_of_ble_eq_true rfl⟩ dX8_takeWord_58 (fun H locs T => ?_)
        refine lv_if_eq (tgt := 69) hx hb dX8_takeWord_61 (by decide) (fun c7 => ?_) (fun c7 => ?_)
        · replace h := ot_ c7 h
          refine lv_iinc (v := x1 + 1) (lv' := [(1, .int (x1 + 1)), (0, .ref t)]) hx hb dX8_takeWord_69 hl (k := 1) rfl rfl (by decide) rfl (fun ls hl => ?_)
          refine lv_goto (tgt := 47) hx hb dX8_takeWord_72 (by decide) ?_
          exact ih47 _ _ _ _ _ _ T (lv_sub hl [1, 0] rfl) h
        · replace h := of_ c7 h
          refine lv_aload_n hx hb dX8_takeWord_64 rfl (lv_at hl 0 rfl) ?_
          refine lv_iload_n hx hb dX8_takeWord_65 rfl (lv_at hl 1 rfl) ?_
          obtain ⟨μ8, e9, h⟩ := ob_ h
          refine p_RX8_41 C T e9 dX8_takeWord_66 (fun H locs T => ?_)
          refine lv_iinc (v := x1 + 1) (lv' := [(1, .int (x1 + 1)), (0, .ref t)]) hx hb dX8_takeWord_69 hl (k := 1) rfl rfl (by decide) rfl (fun ls hl => ?_)
          refine lv_goto (tgt := 47) hx hb dX8_takeWord_72 (by decide) ?_
          exact ih47 _ _ _ _ _ _ T (lv_sub hl [1, 0] rfl) h
  have J0 : ∀ (n : Nat) (μ : th_M) (t : Nat) (H : Heap) (locs : List Loc) (ls : Array Slot), th_R G s H locs σ μ → lv_has ls 2 [(0, .ref t)] → f_X8_takeWord_b0  n σ μ t = some μ' → W p l e { frames := 6, cells := 0, slots := 0, locals := 283 } s m args below meth c H locs 0 0 Q (F0 m 0 ls []) := by
    intro n
    induction n with
    | zero => intro μ t H locs ls T hl h; unfold f_X8_takeWord_b0 at h; cases h
    | succ n0 ih0 =>
      intro μ t H locs ls T hl h
      unfold f_X8_takeWord_b0 at h
      refine lv_aload_n hx hb dX8_takeWord_0 rfl (lv_at hl 0 rfl) ?_
      obtain ⟨v1, e2, h⟩ := ob_ h
      refine g_RX8_28 C T e2 dX8_takeWord_1 ?_
      refine lv_aload_n hx hb dX8_takeWord_4 rfl (lv_at hl 0 rfl) ?_
      obtain ⟨v3, e4, h⟩ := ob_ h
      refine g_RX8_21 C T e4 dX8_takeWord_5 ?_
      refine lv_icmp_ge (tgt := 39) hx hb dX8_takeWord_8 (by decide) (fun c5 => ?_) (fun c5 => ?_)
      · replace h := ot_ c5 h
        refine lv_aload_n hx hb dX8_takeWord_39 rfl (lv_at hl 0 rfl) ?_
        refine lv_bipush (v := -2) hx hb dX8_takeWord_40 (by decide) ?_
        obtain ⟨μ6, e7, h⟩ := ob_ h
        refine p_RX8_41 C T e7 dX8_takeWord_42 (fun H locs T => ?_)
        refine lv_iconst (v := 0) hx hb dX8_takeWord_45 (by decide) ?_
        refine lv_istore_n (lv' := [(1, .int 0), (0, .ref t)]) hx hb dX8_takeWord_46 rfl hl (by decide) rfl (fun ls hl => ?_)
        exact J47 fu _ _ _ _ _ _ T (lv_sub hl [1, 0] rfl) h
      · replace h := of_ c5 h
        refine lv_aload_n hx hb dX8_takeWord_11 rfl (lv_at hl 0 rfl) ?_
        obtain ⟨a8, e9, h⟩ := ob_ h
        refine g_RX8_9 C T e9 dX8_takeWord_12 ?_
        refine lv_aload_n hx hb dX8_takeWord_15 rfl (lv_at hl 0 rfl) ?_
        obtain ⟨v10, e11, h⟩ := ob_ h
        refine g_RX8_28 C T e11 dX8_takeWord_16 ?_
        obtain ⟨v12, e13, h⟩ := ob_ h
        refine th_iald C T e13 dX8_takeWord_19 ?_
        obtain ⟨v14, e15, h⟩ := ob_ h
        refine th_callS (As := [.int v12]) (rest := []) C T (c_X8_isLetter e15) k_RX8_89 rfl hl.1 rfl (st1 := [.int v14]) rfl (cells1 := 0) rfl (slots1 := 0) rfl (Nat.le_of_ble_eq_true rfl) ⟨Nat.le_of_ble_eq_true rfl, Nat.le_of_ble_eq_true rfl⟩ ⟨Nat.le_of_ble_eq_true rfl, Nat.le_of_ble_eq_true rfl⟩ dX8_takeWord_20 (fun H locs T => ?_)
        refine lv_if_eq (tgt := 39) hx hb dX8_takeWord_23 (by decide) (fun c16 => ?_) (fun c16 => ?_)
        · replace h := ot_ c16 h
          refine lv_aload_n hx hb dX8_takeWord_39 rfl (lv_at hl 0 rfl) ?_
          refine lv_bipush (v := -2) hx hb dX8_takeWord_40 (by decide) ?_
          obtain ⟨μ17, e18, h⟩ := ob_ h
          refine p_RX8_41 C T e18 dX8_takeWord_42 (fun H locs T => ?_)
          refine lv_iconst (v := 0) hx hb dX8_takeWord_45 (by decide) ?_
          refine lv_istore_n (lv' := [(1, .int 0), (0, .ref t)]) hx hb dX8_takeWord_46 rfl hl (by decide) rfl (fun ls hl => ?_)
          exact J47 fu _ _ _ _ _ _ T (lv_sub hl [1, 0] rfl) h
        · replace h := of_ c16 h
          refine lv_aload_n hx hb dX8_takeWord_26 rfl (lv_at hl 0 rfl) ?_
          refine lv_dup hx hb dX8_takeWord_27 rfl ?_
          obtain ⟨v19, e20, h⟩ := ob_ h
          refine g_RX8_28 C T e20 dX8_takeWord_28 ?_
          refine lv_iconst (v := 1) hx hb dX8_takeWord_31 (by decide) ?_
          refine lv_iadd hx hb dX8_takeWord_32 ?_
          obtain ⟨μ21, e22, h⟩ := ob_ h
          refine p_RX8_28 C T e22 dX8_takeWord_33 (fun H locs T => ?_)
          refine lv_goto (tgt := 0) hx hb dX8_takeWord_36 (by decide) ?_
          exact ih0 _ _ _ _ _ T (lv_sub hl [0] rfl) h
  unfold f_X8_takeWord at h
  exact J0 fu _ _ _ _ _ T (lv_sub hl [0] rfl) h
set_option maxRecDepth 100000 in
set_option maxHeartbeats 4000000 in
theorem c_X8_isDigit {l : Launch} {G : th_G} {σ : th_S} {μ : th_M} {x0 : Int32} {r : Int32} (h : f_X8_isDigit x0 = some r) : th_Met l G yX8_isDigit cX8_isDigit 1 (some FieldType.boolean) { frames := 0, cells := 0, slots := 0, locals := 0 } [.int x0] σ μ (some (.int r)) σ μ := by
  refine th_ofW (by decide +kernel) (Nat.le_of_ble_eq_true rfl) ?_
  intro p e s m args below meth c ls Q hQ C hr hk hnm T hl
  have hx := C.1
  have hb := C.2.1
  have C : CallFix p m c cX8_isDigit 1 s args th_ws RX8 := C
  have hl : lv_has ls 1 [(0, .int x0)] := hl
  unfold f_X8_isDigit at h
  refine lv_iload_n hx hb dX8_isDigit_0 rfl (lv_at hl 0 rfl) ?_
  refine lv_bipush (v := 48) hx hb dX8_isDigit_1 (by decide) ?_
  refine lv_icmp_lt (tgt := 16) hx hb dX8_isDigit_3 (by decide) (fun c1 => ?_) (fun c1 => ?_)
  · replace h := ot_ c1 h
    refine lv_iconst (v := 0) hx hb dX8_isDigit_16 (by decide) ?_
    obtain rfl := os1 h
    exact th_zret hQ C hr hk T (Nat.le_of_ble_eq_true rfl) (Nat.le_of_ble_eq_true rfl) dX8_isDigit_17 rfl
  · replace h := of_ c1 h
    refine lv_iload_n hx hb dX8_isDigit_6 rfl (lv_at hl 0 rfl) ?_
    refine lv_bipush (v := 57) hx hb dX8_isDigit_7 (by decide) ?_
    refine lv_icmp_gt (tgt := 16) hx hb dX8_isDigit_9 (by decide) (fun c2 => ?_) (fun c2 => ?_)
    · replace h := ot_ c2 h
      refine lv_iconst (v := 0) hx hb dX8_isDigit_16 (by decide) ?_
      obtain rfl := os1 h
      exact th_zret hQ C hr hk T (Nat.le_of_ble_eq_true rfl) (Nat.le_of_ble_eq_true rfl) dX8_isDigit_17 rfl
    · replace h := of_ c2 h
      refine lv_iconst (v := 1) hx hb dX8_isDigit_12 (by decide) ?_
      refine lv_goto (tgt := 17) hx hb dX8_isDigit_13 (by decide) ?_
      obtain rfl := os1 h
      exact th_zret hQ C hr hk T (Nat.le_of_ble_eq_true rfl) (Nat.le_of_ble_eq_true rfl) dX8_isDigit_17 rfl
set_option maxRecDepth 100000 in
set_option maxHeartbeats 4000000 in
theorem c_X8_takeNumber {l : Launch} {G : th_G} {σ : th_S} {μ : th_M} {t : Nat}  {μ' : th_M} (h : f_X8_takeNumber σ μ t = some μ') : th_Met l G yX8_takeNumber cX8_takeNumber 1 none { frames := 1, cells := 0, slots := 0, locals := 20 } [.ref t] σ μ none σ μ' := by
  refine th_ofW (by decide +kernel) (Nat.le_of_ble_eq_true rfl) ?_
  intro p e s m args below meth c ls Q hQ C hr hk hnm T hl
  have hx := C.1
  have hb := C.2.1
  have C : CallFix p m c cX8_takeNumber 1 s args th_ws RX8 := C
  have hl : lv_has ls 1 [(0, .ref t)] := hl
  have J68 : ∀ (μ : th_M) (t : Nat) (H : Heap) (locs : List Loc) (ls : Array Slot), th_R G s H locs σ μ → lv_has ls 1 [(0, .ref t)] → f_X8_takeNumber_b68 σ μ t = some μ' → W p l e { frames := 1, cells := 0, slots := 0, locals := 20 } s m args below meth c H locs 0 0 Q (F0 m 68 ls []) := by
    intro μ t H locs ls T hl h
    unfold f_X8_takeNumber_b68 at h
    refine lv_aload_n hx hb dX8_takeNumber_68 rfl (lv_at hl 0 rfl) ?_
    refine lv_aload_n hx hb dX8_takeNumber_69 rfl (lv_at hl 0 rfl) ?_
    obtain ⟨v1, e2, h⟩ := ob_ h
    refine g_RX8_28 C T e2 dX8_takeNumber_70 ?_
    refine lv_aload_n hx hb dX8_takeNumber_73 rfl (lv_at hl 0 rfl) ?_
    obtain ⟨v3, e4, h⟩ := ob_ h
    refine g_RX8_38 C T e4 dX8_takeNumber_74 ?_
    refine lv_isub hx hb dX8_takeNumber_77 ?_
    refine lv_iconst (v := 4) hx hb dX8_takeNumber_78 (by decide) ?_
    refine lv_icmp_gt (tgt := 87) hx hb dX8_takeNumber_79 (by decide) (fun c5 => ?_) (fun c5 => ?_)
    · replace h := ot_ c5 h
      refine lv_bipush (v := -2) hx hb dX8_takeNumber_87 (by decide) ?_
      obtain ⟨μ6, e7, h⟩ := ob_ h
      refine p_RX8_41 C T e7 dX8_takeNumber_89 (fun H locs T => ?_)
      obtain rfl := os1 h
      exact th_vret hQ C hr hk T (Nat.le_of_ble_eq_true rfl) (Nat.le_of_ble_eq_true rfl) dX8_takeNumber_92
    · replace h := of_ c5 h
      refine lv_bipush (v := 12) hx hb dX8_takeNumber_82 (by decide) ?_
      refine lv_goto (tgt := 89) hx hb dX8_takeNumber_84 (by decide) ?_
      obtain ⟨μ8, e9, h⟩ := ob_ h
      refine p_RX8_41 C T e9 dX8_takeNumber_89 (fun H locs T => ?_)
      obtain rfl := os1 h
      exact th_vret hQ C hr hk T (Nat.le_of_ble_eq_true rfl) (Nat.le_of_ble_eq_true rfl) dX8_takeNumber_92
  have J5 : ∀ (n : Nat) (μ : th_M) (t : Nat) (H : Heap) (locs : List Loc) (ls : Array Slot), th_R G s H locs σ μ → lv_has ls 1 [(0, .ref t)] → f_X8_takeNumber_b5  n σ μ t = some μ' → W p l e { frames := 1, cells := 0, slots := 0, locals := 20 } s m args below meth c H locs 0 0 Q (F0 m 5 ls []) := by
    intro n
    induction n with
    | zero => intro μ t H locs ls T hl h; unfold f_X8_takeNumber_b5 at h; cases h
    | succ n5 ih5 =>
      intro μ t H locs ls T hl h
      unfold f_X8_takeNumber_b5 at h
      refine lv_aload_n hx hb dX8_takeNumber_5 rfl (lv_at hl 0 rfl) ?_
      obtain ⟨v1, e2, h⟩ := ob_ h
      refine g_RX8_28 C T e2 dX8_takeNumber_6 ?_
      refine lv_aload_n hx hb dX8_takeNumber_9 rfl (lv_at hl 0 rfl) ?_
      obtain ⟨v3, e4, h⟩ := ob_ h
      refine g_RX8_21 C T e4 dX8_takeNumber_10 ?_
      refine lv_icmp_ge (tgt := 68) hx hb dX8_takeNumber_13 (by decide) (fun c5 => ?_) (fun c5 => ?_)
      · replace h := ot_ c5 h
        exact J68 _ _ _ _ _ T (lv_sub hl [0] rfl) h
      · replace h := of_ c5 h
        refine lv_aload_n hx hb dX8_takeNumber_16 rfl (lv_at hl 0 rfl) ?_
        obtain ⟨a6, e7, h⟩ := ob_ h
        refine g_RX8_9 C T e7 dX8_takeNumber_17 ?_
        refine lv_aload_n hx hb dX8_takeNumber_20 rfl (lv_at hl 0 rfl) ?_
        obtain ⟨v8, e9, h⟩ := ob_ h
        refine g_RX8_28 C T e9 dX8_takeNumber_21 ?_
        obtain ⟨v10, e11, h⟩ := ob_ h
        refine th_iald C T e11 dX8_takeNumber_24 ?_
        obtain ⟨v12, e13, h⟩ := ob_ h
        refine th_callS (As := [.int v10]) (rest := []) C T (c_X8_isDigit e13) k_RX8_95 rfl hl.1 rfl (st1 := [.int v12]) rfl (cells1 := 0) rfl (slots1 := 0) rfl (Nat.le_of_ble_eq_true rfl) ⟨Nat.le_of_ble_eq_true rfl, Nat.le_of_ble_eq_true rfl⟩ ⟨Nat.le_of_ble_eq_true rfl, Nat.le_of_ble_eq_true rfl⟩ dX8_takeNumber_25 (fun H locs T => ?_)
        refine lv_if_eq (tgt := 68) hx hb dX8_takeNumber_28 (by decide) (fun c14 => ?_) (fun c14 => ?_)
        · replace h := ot_ c14 h
          exact J68 _ _ _ _ _ T (lv_sub hl [0] rfl) h
        · replace h := of_ c14 h
          refine lv_aload_n hx hb dX8_takeNumber_31 rfl (lv_at hl 0 rfl) ?_
          refine lv_aload_n hx hb dX8_takeNumber_32 rfl (lv_at hl 0 rfl) ?_
          obtain ⟨v15, e16, h⟩ := ob_ h
          refine g_RX8_83 C T e16 dX8_takeNumber_33 ?_
          refine lv_bipush (v := 10) hx hb dX8_takeNumber_36 (by decide) ?_
          refine lv_imul hx hb dX8_takeNumber_38 ?_
          refine lv_aload_n hx hb dX8_takeNumber_39 rfl (lv_at hl 0 rfl) ?_
          obtain ⟨a17, e18, h⟩ := ob_ h
          refine g_RX8_9 C T e18 dX8_takeNumber_40 ?_
          refine lv_aload_n hx hb dX8_takeNumber_43 rfl (lv_at hl 0 rfl) ?_
          obtain ⟨v19, e20, h⟩ := ob_ h
          refine g_RX8_28 C T e20 dX8_takeNumber_44 ?_
          obtain ⟨v21, e22, h⟩ := ob_ h
          refine th_iald C T e22 dX8_takeNumber_47 ?_
          refine lv_iadd hx hb dX8_takeNumber_48 ?_
          refine lv_bipush (v := 48) hx hb dX8_takeNumber_49 (by decide) ?_
          refine lv_isub hx hb dX8_takeNumber_51 ?_
          obtain ⟨μ23, e24, h⟩ := ob_ h
          refine p_RX8_83 C T e24 dX8_takeNumber_52 (fun H locs T => ?_)
          refine lv_aload_n hx hb dX8_takeNumber_55 rfl (lv_at hl 0 rfl) ?_
          refine lv_dup hx hb dX8_takeNumber_56 rfl ?_
          obtain ⟨v25, e26, h⟩ := ob_ h
          refine g_RX8_28 C T e26 dX8_takeNumber_57 ?_
          refine lv_iconst (v := 1) hx hb dX8_takeNumber_60 (by decide) ?_
          refine lv_iadd hx hb dX8_takeNumber_61 ?_
          obtain ⟨μ27, e28, h⟩ := ob_ h
          refine p_RX8_28 C T e28 dX8_takeNumber_62 (fun H locs T => ?_)
          refine lv_goto (tgt := 5) hx hb dX8_takeNumber_65 (by decide) ?_
          exact ih5 _ _ _ _ _ T (lv_sub hl [0] rfl) h
  unfold f_X8_takeNumber at h
  refine lv_aload_n hx hb dX8_takeNumber_0 rfl (lv_at hl 0 rfl) ?_
  refine lv_iconst (v := 0) hx hb dX8_takeNumber_1 (by decide) ?_
  obtain ⟨μ1, e2, h⟩ := ob_ h
  refine p_RX8_83 C T e2 dX8_takeNumber_2 (fun H locs T => ?_)
  exact J5 fu _ _ _ _ _ T (lv_sub hl [0] rfl) h
set_option maxRecDepth 100000 in
set_option maxHeartbeats 4000000 in
theorem c_X8_isSign {l : Launch} {G : th_G} {σ : th_S} {μ : th_M} {x0 : Int32} {r : Int32} (h : f_X8_isSign x0 = some r) : th_Met l G yX8_isSign cX8_isSign 1 (some FieldType.boolean) { frames := 0, cells := 0, slots := 0, locals := 0 } [.int x0] σ μ (some (.int r)) σ μ := by
  refine th_ofW (by decide +kernel) (Nat.le_of_ble_eq_true rfl) ?_
  intro p e s m args below meth c ls Q hQ C hr hk hnm T hl
  have hx := C.1
  have hb := C.2.1
  have C : CallFix p m c cX8_isSign 1 s args th_ws RX8 := C
  have hl : lv_has ls 1 [(0, .int x0)] := hl
  have J12 : ∀ (x0 : Int32) (H : Heap) (locs : List Loc) (ls : Array Slot), th_R G s H locs σ μ → lv_has ls 1 [(0, .int x0)] → f_X8_isSign_b12 x0 = some r → W p l e { frames := 0, cells := 0, slots := 0, locals := 0 } s m args below meth c H locs 0 0 Q (F0 m 12 ls []) := by
    intro x0 H locs ls T hl h
    unfold f_X8_isSign_b12 at h
    refine lv_iload_n hx hb dX8_isSign_12 rfl (lv_at hl 0 rfl) ?_
    refine lv_bipush (v := 45) hx hb dX8_isSign_13 (by decide) ?_
    refine lv_icmp_eq (tgt := 30) hx hb dX8_isSign_15 (by decide) (fun c1 => ?_) (fun c1 => ?_)
    · replace h := ot_ c1 h
      refine lv_iconst (v := 1) hx hb dX8_isSign_30 (by decide) ?_
      refine lv_goto (tgt := 35) hx hb dX8_isSign_31 (by decide) ?_
      obtain rfl := os1 h
      exact th_zret hQ C hr hk T (Nat.le_of_ble_eq_true rfl) (Nat.le_of_ble_eq_true rfl) dX8_isSign_35 rfl
    · replace h := of_ c1 h
      refine lv_iload_n hx hb dX8_isSign_18 rfl (lv_at hl 0 rfl) ?_
      refine lv_bipush (v := 59) hx hb dX8_isSign_19 (by decide) ?_
      refine lv_icmp_lt (tgt := 34) hx hb dX8_isSign_21 (by decide) (fun c2 => ?_) (fun c2 => ?_)
      · replace h := ot_ c2 h
        refine lv_iconst (v := 0) hx hb dX8_isSign_34 (by decide) ?_
        obtain rfl := os1 h
        exact th_zret hQ C hr hk T (Nat.le_of_ble_eq_true rfl) (Nat.le_of_ble_eq_true rfl) dX8_isSign_35 rfl
      · replace h := of_ c2 h
        refine lv_iload_n hx hb dX8_isSign_24 rfl (lv_at hl 0 rfl) ?_
        refine lv_bipush (v := 61) hx hb dX8_isSign_25 (by decide) ?_
        refine lv_icmp_gt (tgt := 34) hx hb dX8_isSign_27 (by decide) (fun c3 => ?_) (fun c3 => ?_)
        · replace h := ot_ c3 h
          refine lv_iconst (v := 0) hx hb dX8_isSign_34 (by decide) ?_
          obtain rfl := os1 h
          exact th_zret hQ C hr hk T (Nat.le_of_ble_eq_true rfl) (Nat.le_of_ble_eq_true rfl) dX8_isSign_35 rfl
        · replace h := of_ c3 h
          refine lv_iconst (v := 1) hx hb dX8_isSign_30 (by decide) ?_
          refine lv_goto (tgt := 35) hx hb dX8_isSign_31 (by decide) ?_
          obtain rfl := os1 h
          exact th_zret hQ C hr hk T (Nat.le_of_ble_eq_true rfl) (Nat.le_of_ble_eq_true rfl) dX8_isSign_35 rfl
  unfold f_X8_isSign at h
  refine lv_iload_n hx hb dX8_isSign_0 rfl (lv_at hl 0 rfl) ?_
  refine lv_bipush (v := 40) hx hb dX8_isSign_1 (by decide) ?_
  refine lv_icmp_lt (tgt := 12) hx hb dX8_isSign_3 (by decide) (fun c1 => ?_) (fun c1 => ?_)
  · replace h := ot_ c1 h
    exact J12 _ _ _ _ T (lv_sub hl [0] rfl) h
  · replace h := of_ c1 h
    refine lv_iload_n hx hb dX8_isSign_6 rfl (lv_at hl 0 rfl) ?_
    refine lv_bipush (v := 43) hx hb dX8_isSign_7 (by decide) ?_
    refine lv_icmp_le (tgt := 30) hx hb dX8_isSign_9 (by decide) (fun c2 => ?_) (fun c2 => ?_)
    · replace h := ot_ c2 h
      refine lv_iconst (v := 1) hx hb dX8_isSign_30 (by decide) ?_
      refine lv_goto (tgt := 35) hx hb dX8_isSign_31 (by decide) ?_
      obtain rfl := os1 h
      exact th_zret hQ C hr hk T (Nat.le_of_ble_eq_true rfl) (Nat.le_of_ble_eq_true rfl) dX8_isSign_35 rfl
    · replace h := of_ c2 h
      exact J12 _ _ _ _ T (lv_sub hl [0] rfl) h
set_option maxRecDepth 100000 in
set_option maxHeartbeats 4000000 in
theorem c_X8_step {l : Launch} {G : th_G} {σ : th_S} {μ : th_M} {t : Nat}  {μ' : th_M} (h : f_X8_step σ μ t = some μ') : th_Met l G yX8_step cX8_step 1 none { frames := 7, cells := 0, slots := 0, locals := 304 } [.ref t] σ μ none σ μ' := by
  refine th_ofW (by decide +kernel) (Nat.le_of_ble_eq_true rfl) ?_
  intro p e s m args below meth c ls Q hQ C hr hk hnm T hl
  have hx := C.1
  have hb := C.2.1
  have C : CallFix p m c cX8_step 1 s args th_ws RX8 := C
  have hl : lv_has ls 1 [(0, .ref t)] := hl
  have J60 : ∀ (μ : th_M) (t : Nat) (H : Heap) (locs : List Loc) (ls : Array Slot), th_R G s H locs σ μ → lv_has ls 1 [(0, .ref t)] → f_X8_step_b60 σ μ t = some μ' → W p l e { frames := 7, cells := 0, slots := 0, locals := 304 } s m args below meth c H locs 0 0 Q (F0 m 60 ls []) := by
    intro μ t H locs ls T hl h
    unfold f_X8_step_b60 at h
    refine lv_aload_n hx hb dX8_step_60 rfl (lv_at hl 0 rfl) ?_
    refine lv_aload_n hx hb dX8_step_61 rfl (lv_at hl 0 rfl) ?_
    obtain ⟨v1, e2, h⟩ := ob_ h
    refine g_RX8_38 C T e2 dX8_step_62 ?_
    obtain ⟨μ3, e4, h⟩ := ob_ h
    refine p_RX8_28 C T e4 dX8_step_65 (fun H locs T => ?_)
    refine lv_aload_n hx hb dX8_step_68 rfl (lv_at hl 0 rfl) ?_
    obtain ⟨v5, e6, h⟩ := ob_ h
    refine g_RX8_38 C T e6 dX8_step_69 ?_
    refine lv_aload_n hx hb dX8_step_72 rfl (lv_at hl 0 rfl) ?_
    obtain ⟨v7, e8, h⟩ := ob_ h
    refine g_RX8_21 C T e8 dX8_step_73 ?_
    refine lv_icmp_lt (tgt := 87) hx hb dX8_step_76 (by decide) (fun c9 => ?_) (fun c9 => ?_)
    · replace h := ot_ c9 h
      refine lv_aload_n hx hb dX8_step_87 rfl (lv_at hl 0 rfl) ?_
      obtain ⟨a10, e11, h⟩ := ob_ h
      refine g_RX8_9 C T e11 dX8_step_88 ?_
      refine lv_aload_n hx hb dX8_step_91 rfl (lv_at hl 0 rfl) ?_
      obtain ⟨v12, e13, h⟩ := ob_ h
      refine g_RX8_38 C T e13 dX8_step_92 ?_
      obtain ⟨v14, e15, h⟩ := ob_ h
      refine th_iald C T e15 dX8_step_95 ?_
      obtain ⟨v16, e17, h⟩ := ob_ h
      refine th_callS (As := [.int v14]) (rest := []) C T (c_X8_isLetter e17) k_RX8_89 rfl hl.1 rfl (st1 := [.int v16]) rfl (cells1 := 0) rfl (slots1 := 0) rfl (Nat.le_of_ble_eq_true rfl) ⟨Nat.le_of_ble_eq_true rfl, Nat.le_of_ble_eq_true rfl⟩ ⟨Nat.le_of_ble_eq_true rfl, Nat.le_of_ble_eq_true rfl⟩ dX8_step_96 (fun H locs T => ?_)
      refine lv_if_eq (tgt := 109) hx hb dX8_step_99 (by decide) (fun c18 => ?_) (fun c18 => ?_)
      · replace h := ot_ c18 h
        refine lv_aload_n hx hb dX8_step_109 rfl (lv_at hl 0 rfl) ?_
        obtain ⟨a19, e20, h⟩ := ob_ h
        refine g_RX8_9 C T e20 dX8_step_110 ?_
        refine lv_aload_n hx hb dX8_step_113 rfl (lv_at hl 0 rfl) ?_
        obtain ⟨v21, e22, h⟩ := ob_ h
        refine g_RX8_38 C T e22 dX8_step_114 ?_
        obtain ⟨v23, e24, h⟩ := ob_ h
        refine th_iald C T e24 dX8_step_117 ?_
        obtain ⟨v25, e26, h⟩ := ob_ h
        refine th_callS (As := [.int v23]) (rest := []) C T (c_X8_isDigit e26) k_RX8_95 rfl hl.1 rfl (st1 := [.int v25]) rfl (cells1 := 0) rfl (slots1 := 0) rfl (Nat.le_of_ble_eq_true rfl) ⟨Nat.le_of_ble_eq_true rfl, Nat.le_of_ble_eq_true rfl⟩ ⟨Nat.le_of_ble_eq_true rfl, Nat.le_of_ble_eq_true rfl⟩ dX8_step_118 (fun H locs T => ?_)
        refine lv_if_eq (tgt := 131) hx hb dX8_step_121 (by decide) (fun c27 => ?_) (fun c27 => ?_)
        · replace h := ot_ c27 h
          refine lv_aload_n hx hb dX8_step_131 rfl (lv_at hl 0 rfl) ?_
          refine lv_aload_n hx hb dX8_step_132 rfl (lv_at hl 0 rfl) ?_
          obtain ⟨v28, e29, h⟩ := ob_ h
          refine g_RX8_38 C T e29 dX8_step_133 ?_
          refine lv_iconst (v := 1) hx hb dX8_step_136 (by decide) ?_
          refine lv_iadd hx hb dX8_step_137 ?_
          obtain ⟨μ30, e31, h⟩ := ob_ h
          refine p_RX8_28 C T e31 dX8_step_138 (fun H locs T => ?_)
          refine lv_aload_n hx hb dX8_step_141 rfl (lv_at hl 0 rfl) ?_
          refine lv_aload_n hx hb dX8_step_142 rfl (lv_at hl 0 rfl) ?_
          obtain ⟨a32, e33, h⟩ := ob_ h
          refine g_RX8_9 C T e33 dX8_step_143 ?_
          refine lv_aload_n hx hb dX8_step_146 rfl (lv_at hl 0 rfl) ?_
          obtain ⟨v34, e35, h⟩ := ob_ h
          refine g_RX8_38 C T e35 dX8_step_147 ?_
          obtain ⟨v36, e37, h⟩ := ob_ h
          refine th_iald C T e37 dX8_step_150 ?_
          obtain ⟨v38, e39, h⟩ := ob_ h
          refine th_callS (As := [.int v36]) (rest := [.ref t]) C T (c_X8_isSign e39) k_RX8_101 rfl hl.1 rfl (st1 := [.int v38, .ref t]) rfl (cells1 := 0) rfl (slots1 := 0) rfl (Nat.le_of_ble_eq_true rfl) ⟨Nat.le_of_ble_eq_true rfl, Nat.le_of_ble_eq_true rfl⟩ ⟨Nat.le_of_ble_eq_true rfl, Nat.le_of_ble_eq_true rfl⟩ dX8_step_151 (fun H locs T => ?_)
          refine lv_if_eq (tgt := 169) hx hb dX8_step_154 (by decide) (fun c40 => ?_) (fun c40 => ?_)
          · replace h := ot_ c40 h
            refine lv_bipush (v := -2) hx hb dX8_step_169 (by decide) ?_
            obtain ⟨μ41, e42, h⟩ := ob_ h
            refine p_RX8_41 C T e42 dX8_step_171 (fun H locs T => ?_)
            obtain rfl := os1 h
            exact th_vret hQ C hr hk T (Nat.le_of_ble_eq_true rfl) (Nat.le_of_ble_eq_true rfl) dX8_step_174
          · replace h := of_ c40 h
            refine lv_aload_n hx hb dX8_step_157 rfl (lv_at hl 0 rfl) ?_
            obtain ⟨a43, e44, h⟩ := ob_ h
            refine g_RX8_9 C T e44 dX8_step_158 ?_
            refine lv_aload_n hx hb dX8_step_161 rfl (lv_at hl 0 rfl) ?_
            obtain ⟨v45, e46, h⟩ := ob_ h
            refine g_RX8_38 C T e46 dX8_step_162 ?_
            obtain ⟨v47, e48, h⟩ := ob_ h
            refine th_iald C T e48 dX8_step_165 ?_
            refine lv_goto (tgt := 171) hx hb dX8_step_166 (by decide) ?_
            obtain ⟨μ49, e50, h⟩ := ob_ h
            refine p_RX8_41 C T e50 dX8_step_171 (fun H locs T => ?_)
            obtain rfl := os1 h
            exact th_vret hQ C hr hk T (Nat.le_of_ble_eq_true rfl) (Nat.le_of_ble_eq_true rfl) dX8_step_174
        · replace h := of_ c27 h
          refine lv_aload_n hx hb dX8_step_124 rfl (lv_at hl 0 rfl) ?_
          obtain ⟨k51, h⟩ := oc_ h
          obtain ⟨μ52, e53, h⟩ := ob_ h
          refine th_callV (As := []) (rest := []) C T (c_X8_takeNumber e53) k_RX8_98 8 rfl rfl (by decide) k51 rfl hl.1 rfl (st1 := []) rfl (cells1 := 0) rfl (slots1 := 0) rfl (Nat.le_of_ble_eq_true rfl) ⟨Nat.le_of_ble_eq_true rfl, Nat.le_of_ble_eq_true rfl⟩ ⟨Nat.le_of_ble_eq_true rfl, Nat.le_of_ble_eq_true rfl⟩ dX8_step_125 (fun H locs T => ?_)
          refine lv_goto (tgt := 174) hx hb dX8_step_128 (by decide) ?_
          obtain rfl := os1 h
          exact th_vret hQ C hr hk T (Nat.le_of_ble_eq_true rfl) (Nat.le_of_ble_eq_true rfl) dX8_step_174
      · replace h := of_ c18 h
        refine lv_aload_n hx hb dX8_step_102 rfl (lv_at hl 0 rfl) ?_
        obtain ⟨k54, h⟩ := oc_ h
        obtain ⟨μ55, e56, h⟩ := ob_ h
        refine th_callV (As := []) (rest := []) C T (c_X8_takeWord e56) k_RX8_92 8 rfl rfl (by decide) k54 rfl hl.1 rfl (st1 := []) rfl (cells1 := 0) rfl (slots1 := 0) rfl (Nat.le_of_ble_eq_true rfl) ⟨Nat.le_of_ble_eq_true rfl, Nat.le_of_ble_eq_true rfl⟩ ⟨Nat.le_of_ble_eq_true rfl, Nat.le_of_ble_eq_true rfl⟩ dX8_step_103 (fun H locs T => ?_)
        refine lv_goto (tgt := 174) hx hb dX8_step_106 (by decide) ?_
        obtain rfl := os1 h
        exact th_vret hQ C hr hk T (Nat.le_of_ble_eq_true rfl) (Nat.le_of_ble_eq_true rfl) dX8_step_174
    · replace h := of_ c9 h
      refine lv_aload_n hx hb dX8_step_79 rfl (lv_at hl 0 rfl) ?_
      refine lv_iconst (v := -1) hx hb dX8_step_80 (by decide) ?_
      obtain ⟨μ57, e58, h⟩ := ob_ h
      refine p_RX8_41 C T e58 dX8_step_81 (fun H locs T => ?_)
      refine lv_goto (tgt := 174) hx hb dX8_step_84 (by decide) ?_
      obtain rfl := os1 h
      exact th_vret hQ C hr hk T (Nat.le_of_ble_eq_true rfl) (Nat.le_of_ble_eq_true rfl) dX8_step_174
  have J8 : ∀ (n : Nat) (μ : th_M) (t : Nat) (H : Heap) (locs : List Loc) (ls : Array Slot), th_R G s H locs σ μ → lv_has ls 1 [(0, .ref t)] → f_X8_step_b8  n σ μ t = some μ' → W p l e { frames := 7, cells := 0, slots := 0, locals := 304 } s m args below meth c H locs 0 0 Q (F0 m 8 ls []) := by
    intro n
    induction n with
    | zero => intro μ t H locs ls T hl h; unfold f_X8_step_b8 at h; cases h
    | succ n8 ih8 =>
      intro μ t H locs ls T hl h
      unfold f_X8_step_b8 at h
      refine lv_aload_n hx hb dX8_step_8 rfl (lv_at hl 0 rfl) ?_
      obtain ⟨v1, e2, h⟩ := ob_ h
      refine g_RX8_38 C T e2 dX8_step_9 ?_
      refine lv_aload_n hx hb dX8_step_12 rfl (lv_at hl 0 rfl) ?_
      obtain ⟨v3, e4, h⟩ := ob_ h
      refine g_RX8_21 C T e4 dX8_step_13 ?_
      refine lv_icmp_ge (tgt := 60) hx hb dX8_step_16 (by decide) (fun c5 => ?_) (fun c5 => ?_)
      · replace h := ot_ c5 h
        exact J60 _ _ _ _ _ T (lv_sub hl [0] rfl) h
      · replace h := of_ c5 h
        refine lv_aload_n hx hb dX8_step_19 rfl (lv_at hl 0 rfl) ?_
        obtain ⟨a6, e7, h⟩ := ob_ h
        refine g_RX8_9 C T e7 dX8_step_20 ?_
        refine lv_aload_n hx hb dX8_step_23 rfl (lv_at hl 0 rfl) ?_
        obtain ⟨v8, e9, h⟩ := ob_ h
        refine g_RX8_38 C T e9 dX8_step_24 ?_
        obtain ⟨v10, e11, h⟩ := ob_ h
        refine th_iald C T e11 dX8_step_27 ?_
        refine lv_bipush (v := 32) hx hb dX8_step_28 (by decide) ?_
        refine lv_icmp_eq (tgt := 47) hx hb dX8_step_30 (by decide) (fun c12 => ?_) (fun c12 => ?_)
        · replace h := ot_ c12 h
          refine lv_aload_n hx hb dX8_step_47 rfl (lv_at hl 0 rfl) ?_
          refine lv_dup hx hb dX8_step_48 rfl ?_
          obtain ⟨v13, e14, h⟩ := ob_ h
          refine g_RX8_38 C T e14 dX8_step_49 ?_
          refine lv_iconst (v := 1) hx hb dX8_step_52 (by decide) ?_
          refine lv_iadd hx hb dX8_step_53 ?_
          obtain ⟨μ15, e16, h⟩ := ob_ h
          refine p_RX8_38 C T e16 dX8_step_54 (fun H locs T => ?_)
          refine lv_goto (tgt := 8) hx hb dX8_step_57 (by decide) ?_
          exact ih8 _ _ _ _ _ T (lv_sub hl [0] rfl) h
        · replace h := of_ c12 h
          refine lv_aload_n hx hb dX8_step_33 rfl (lv_at hl 0 rfl) ?_
          obtain ⟨a17, e18, h⟩ := ob_ h
          refine g_RX8_9 C T e18 dX8_step_34 ?_
          refine lv_aload_n hx hb dX8_step_37 rfl (lv_at hl 0 rfl) ?_
          obtain ⟨v19, e20, h⟩ := ob_ h
          refine g_RX8_38 C T e20 dX8_step_38 ?_
          obtain ⟨v21, e22, h⟩ := ob_ h
          refine th_iald C T e22 dX8_step_41 ?_
          refine lv_bipush (v := 10) hx hb dX8_step_42 (by decide) ?_
          refine lv_icmp_ne (tgt := 60) hx hb dX8_step_44 (by decide) (fun c23 => ?_) (fun c23 => ?_)
          · replace h := of_ c23 h
            exact J60 _ _ _ _ _ T (lv_sub hl [0] rfl) h
          · replace h := ot_ c23 h
            refine lv_aload_n hx hb dX8_step_47 rfl (lv_at hl 0 rfl) ?_
            refine lv_dup hx hb dX8_step_48 rfl ?_
            obtain ⟨v24, e25, h⟩ := ob_ h
            refine g_RX8_38 C T e25 dX8_step_49 ?_
            refine lv_iconst (v := 1) hx hb dX8_step_52 (by decide) ?_
            refine lv_iadd hx hb dX8_step_53 ?_
            obtain ⟨μ26, e27, h⟩ := ob_ h
            refine p_RX8_38 C T e27 dX8_step_54 (fun H locs T => ?_)
            refine lv_goto (tgt := 8) hx hb dX8_step_57 (by decide) ?_
            exact ih8 _ _ _ _ _ T (lv_sub hl [0] rfl) h
  unfold f_X8_step at h
  refine lv_aload_n hx hb dX8_step_0 rfl (lv_at hl 0 rfl) ?_
  refine lv_aload_n hx hb dX8_step_1 rfl (lv_at hl 0 rfl) ?_
  obtain ⟨v1, e2, h⟩ := ob_ h
  refine g_RX8_28 C T e2 dX8_step_2 ?_
  obtain ⟨μ3, e4, h⟩ := ob_ h
  refine p_RX8_38 C T e4 dX8_step_5 (fun H locs T => ?_)
  exact J8 fu _ _ _ _ _ T (lv_sub hl [0] rfl) h
set_option maxRecDepth 100000 in
set_option maxHeartbeats 4000000 in
theorem c_X8_skip {l : Launch} {G : th_G} {σ : th_S} {μ : th_M} {t : Nat} {x1 : Int32} {r : Int32} {μ' : th_M} (h : f_X8_skip σ μ t x1 = some (r, μ')) : th_Met l G yX8_skip cX8_skip 2 (some FieldType.boolean) { frames := 8, cells := 0, slots := 0, locals := 324 } [.ref t, .int x1] σ μ (some (.int r)) σ μ' := by
  refine th_ofW (by decide +kernel) (Nat.le_of_ble_eq_true rfl) ?_
  intro p e s m args below meth c ls Q hQ C hr hk hnm T hl
  have hx := C.1
  have hb := C.2.1
  have C : CallFix p m c cX8_skip 2 s args th_ws RX8 := C
  have hl : lv_has ls 2 [(0, .ref t), (1, .int x1)] := hl
  unfold f_X8_skip at h
  refine lv_aload_n hx hb dX8_skip_0 rfl (lv_at hl 0 rfl) ?_
  obtain ⟨v1, e2, h⟩ := ob_ h
  refine g_RX8_41 C T e2 dX8_skip_1 ?_
  refine lv_iload_n hx hb dX8_skip_4 rfl (lv_at hl 1 rfl) ?_
  refine lv_icmp_eq (tgt := 10) hx hb dX8_skip_5 (by decide) (fun c3 => ?_) (fun c3 => ?_)
  · replace h := ot_ c3 h
    refine lv_aload_n hx hb dX8_skip_10 rfl (lv_at hl 0 rfl) ?_
    obtain ⟨k4, h⟩ := oc_ h
    obtain ⟨μ5, e6, h⟩ := ob_ h
    refine th_callV (As := []) (rest := []) C T (c_X8_step e6) k_RX8_31 8 rfl rfl (by decide) k4 rfl hl.1 rfl (st1 := []) rfl (cells1 := 0) rfl (slots1 := 0) rfl (Nat.le_of_ble_eq_true rfl) ⟨Nat.le_of_ble_eq_true rfl, Nat.le_of_ble_eq_true rfl⟩ ⟨Nat.le_of_ble_eq_true rfl, Nat.le_of_ble_eq_true rfl⟩ dX8_skip_11 (fun H locs T => ?_)
    refine lv_iconst (v := 1) hx hb dX8_skip_14 (by decide) ?_
    obtain ⟨rfl, rfl⟩ := os2 h
    exact th_zret hQ C hr hk T (Nat.le_of_ble_eq_true rfl) (Nat.le_of_ble_eq_true rfl) dX8_skip_15 rfl
  · replace h := of_ c3 h
    refine lv_iconst (v := 0) hx hb dX8_skip_8 (by decide) ?_
    obtain ⟨rfl, rfl⟩ := os2 h
    exact th_zret hQ C hr hk T (Nat.le_of_ble_eq_true rfl) (Nat.le_of_ble_eq_true rfl) dX8_skip_9 rfl
set_option maxRecDepth 100000 in
set_option maxHeartbeats 4000000 in
theorem c_X8_put {l : Launch} {G : th_G} {σ : th_S} {μ : th_M} {t : Nat} {x1 : Int32}  {μ' : th_M} (h : f_X8_put σ μ t x1 = some μ') : th_Met l G yX8_put cX8_put 2 none { frames := 0, cells := 0, slots := 0, locals := 0 } [.ref t, .int x1] σ μ none σ μ' := by
  refine th_ofW (by decide +kernel) (Nat.le_of_ble_eq_true rfl) ?_
  intro p e s m args below meth c ls Q hQ C hr hk hnm T hl
  have hx := C.1
  have hb := C.2.1
  have C : CallFix p m c cX8_put 2 s args th_ws RX8 := C
  have hl : lv_has ls 2 [(0, .ref t), (1, .int x1)] := hl
  unfold f_X8_put at h
  refine lv_aload_n hx hb dX8_put_0 rfl (lv_at hl 0 rfl) ?_
  obtain ⟨v1, e2, h⟩ := ob_ h
  refine g_RX8_25 C T e2 dX8_put_1 ?_
  refine lv_sipush (v := 160) hx hb dX8_put_4 (by decide) ?_
  refine lv_icmp_ge (tgt := 30) hx hb dX8_put_7 (by decide) (fun c3 => ?_) (fun c3 => ?_)
  · replace h := ot_ c3 h
    obtain rfl := os1 h
    exact th_vret hQ C hr hk T (Nat.le_of_ble_eq_true rfl) (Nat.le_of_ble_eq_true rfl) dX8_put_30
  · replace h := of_ c3 h
    refine lv_aload_n hx hb dX8_put_10 rfl (lv_at hl 0 rfl) ?_
    obtain ⟨a4, e5, h⟩ := ob_ h
    refine g_RX8_15 C T e5 dX8_put_11 ?_
    refine lv_aload_n hx hb dX8_put_14 rfl (lv_at hl 0 rfl) ?_
    obtain ⟨v6, e7, h⟩ := ob_ h
    refine g_RX8_25 C T e7 dX8_put_15 ?_
    refine lv_iload_n hx hb dX8_put_18 rfl (lv_at hl 1 rfl) ?_
    obtain ⟨μ8, e9, h⟩ := ob_ h
    refine th_iast C T e9 dX8_put_19 (fun H locs T => ?_)
    refine lv_aload_n hx hb dX8_put_20 rfl (lv_at hl 0 rfl) ?_
    refine lv_dup hx hb dX8_put_21 rfl ?_
    obtain ⟨v10, e11, h⟩ := ob_ h
    refine g_RX8_25 C T e11 dX8_put_22 ?_
    refine lv_iconst (v := 1) hx hb dX8_put_25 (by decide) ?_
    refine lv_iadd hx hb dX8_put_26 ?_
    obtain ⟨μ12, e13, h⟩ := ob_ h
    refine p_RX8_25 C T e13 dX8_put_27 (fun H locs T => ?_)
    obtain rfl := os1 h
    exact th_vret hQ C hr hk T (Nat.le_of_ble_eq_true rfl) (Nat.le_of_ble_eq_true rfl) dX8_put_30
set_option maxRecDepth 100000 in
set_option maxHeartbeats 4000000 in
theorem c_X8_emit {l : Launch} {G : th_G} {σ : th_S} {μ : th_M} {t : Nat} {x1 : Int32}  {μ' : th_M} (h : f_X8_emit σ μ t x1 = some μ') : th_Met l G yX8_emit cX8_emit 2 none { frames := 1, cells := 0, slots := 0, locals := 21 } [.ref t, .int x1] σ μ none σ μ' := by
  refine th_ofW (by decide +kernel) (Nat.le_of_ble_eq_true rfl) ?_
  intro p e s m args below meth c ls Q hQ C hr hk hnm T hl
  have hx := C.1
  have hb := C.2.1
  have C : CallFix p m c cX8_emit 2 s args th_ws RX8 := C
  have hl : lv_has ls 2 [(0, .ref t), (1, .int x1)] := hl
  unfold f_X8_emit at h
  refine lv_aload_n hx hb dX8_emit_0 rfl (lv_at hl 0 rfl) ?_
  refine lv_iconst (v := -1) hx hb dX8_emit_1 (by decide) ?_
  refine lv_iload_n hx hb dX8_emit_2 rfl (lv_at hl 1 rfl) ?_
  refine lv_isub hx hb dX8_emit_3 ?_
  obtain ⟨k1, h⟩ := oc_ h
  obtain ⟨μ2, e3, h⟩ := ob_ h
  refine th_callV (As := [.int ((-1) - x1)]) (rest := []) C T (c_X8_put e3) k_RX8_86 8 rfl rfl (by decide) k1 rfl hl.1 rfl (st1 := []) rfl (cells1 := 0) rfl (slots1 := 0) rfl (Nat.le_of_ble_eq_true rfl) ⟨Nat.le_of_ble_eq_true rfl, Nat.le_of_ble_eq_true rfl⟩ ⟨Nat.le_of_ble_eq_true rfl, Nat.le_of_ble_eq_true rfl⟩ dX8_emit_4 (fun H locs T => ?_)
  obtain rfl := os1 h
  exact th_vret hQ C hr hk T (Nat.le_of_ble_eq_true rfl) (Nat.le_of_ble_eq_true rfl) dX8_emit_7
def IH_X8_either (l : Launch) (G : th_G) (d : Nat) : Prop :=
  (∀ (σ : th_S) (μ : th_M) (t : Nat) (x1 : Int32) (r : Int32) (μ' : th_M), f_scc_X8_either d 0 σ μ t x1 = some (r, μ') → th_Met l G yX8_either cX8_either 3 (some FieldType.boolean) { frames := 9 + d, cells := 0, slots := 0, locals := 345 + 23 * d } [.ref t, .int x1] σ μ (some (.int r)) σ μ') ∧
  (∀ (σ : th_S) (μ : th_M) (t : Nat) (x1 : Int32) (r : Int32) (μ' : th_M), f_scc_X8_either d 1 σ μ t x1 = some (r, μ') → th_Met l G yX8_both cX8_both 3 (some FieldType.boolean) { frames := 9 + d, cells := 0, slots := 0, locals := 345 + 23 * d } [.ref t, .int x1] σ μ (some (.int r)) σ μ') ∧
  (∀ (σ : th_S) (μ : th_M) (t : Nat) (x1 : Int32) (r : Int32) (μ' : th_M), f_scc_X8_either d 2 σ μ t x1 = some (r, μ') → th_Met l G yX8_denied cX8_denied 2 (some FieldType.boolean) { frames := 9 + d, cells := 0, slots := 0, locals := 345 + 23 * d } [.ref t, .int x1] σ μ (some (.int r)) σ μ') ∧
  (∀ (σ : th_S) (μ : th_M) (t : Nat) (x1 : Int32) (r : Int32) (μ' : th_M), f_scc_X8_either d 3 σ μ t x1 = some (r, μ') → th_Met l G yX8_compared cX8_compared 3 (some FieldType.boolean) { frames := 9 + d, cells := 0, slots := 0, locals := 345 + 23 * d } [.ref t, .int x1] σ μ (some (.int r)) σ μ') ∧
  (∀ (σ : th_S) (μ : th_M) (t : Nat) (x1 : Int32) (r : Int32) (μ' : th_M), f_scc_X8_either d 4 σ μ t x1 = some (r, μ') → th_Met l G yX8_sum cX8_sum 4 (some FieldType.boolean) { frames := 9 + d, cells := 0, slots := 0, locals := 345 + 23 * d } [.ref t, .int x1] σ μ (some (.int r)) σ μ') ∧
  (∀ (σ : th_S) (μ : th_M) (t : Nat) (x1 : Int32) (r : Int32) (μ' : th_M), f_scc_X8_either d 5 σ μ t x1 = some (r, μ') → th_Met l G yX8_product cX8_product 3 (some FieldType.boolean) { frames := 9 + d, cells := 0, slots := 0, locals := 345 + 23 * d } [.ref t, .int x1] σ μ (some (.int r)) σ μ') ∧
  (∀ (σ : th_S) (μ : th_M) (t : Nat) (x1 : Int32) (r : Int32) (μ' : th_M), f_scc_X8_either d 6 σ μ t x1 = some (r, μ') → th_Met l G yX8_single cX8_single 2 (some FieldType.boolean) { frames := 9 + d, cells := 0, slots := 0, locals := 345 + 23 * d } [.ref t, .int x1] σ μ (some (.int r)) σ μ')
theorem ih_0_X8_either {l : Launch} {G : th_G} {σ : th_S} {μ : th_M} {t : Nat} {x1 : Int32} {r : Int32} {μ' : th_M} {d : Nat} (IH : IH_X8_either l G d) (h : f_scc_X8_either d 0 σ μ t x1 = some (r, μ')) : th_Met l G yX8_either cX8_either 3 (some FieldType.boolean) { frames := 9 + d, cells := 0, slots := 0, locals := 345 + 23 * d } [.ref t, .int x1] σ μ (some (.int r)) σ μ' := IH.1 _ _ _ _ _ _ h
theorem ih_1_X8_either {l : Launch} {G : th_G} {σ : th_S} {μ : th_M} {t : Nat} {x1 : Int32} {r : Int32} {μ' : th_M} {d : Nat} (IH : IH_X8_either l G d) (h : f_scc_X8_either d 1 σ μ t x1 = some (r, μ')) : th_Met l G yX8_both cX8_both 3 (some FieldType.boolean) { frames := 9 + d, cells := 0, slots := 0, locals := 345 + 23 * d } [.ref t, .int x1] σ μ (some (.int r)) σ μ' := IH.2.1 _ _ _ _ _ _ h
theorem ih_2_X8_either {l : Launch} {G : th_G} {σ : th_S} {μ : th_M} {t : Nat} {x1 : Int32} {r : Int32} {μ' : th_M} {d : Nat} (IH : IH_X8_either l G d) (h : f_scc_X8_either d 2 σ μ t x1 = some (r, μ')) : th_Met l G yX8_denied cX8_denied 2 (some FieldType.boolean) { frames := 9 + d, cells := 0, slots := 0, locals := 345 + 23 * d } [.ref t, .int x1] σ μ (some (.int r)) σ μ' := IH.2.2.1 _ _ _ _ _ _ h
theorem ih_3_X8_either {l : Launch} {G : th_G} {σ : th_S} {μ : th_M} {t : Nat} {x1 : Int32} {r : Int32} {μ' : th_M} {d : Nat} (IH : IH_X8_either l G d) (h : f_scc_X8_either d 3 σ μ t x1 = some (r, μ')) : th_Met l G yX8_compared cX8_compared 3 (some FieldType.boolean) { frames := 9 + d, cells := 0, slots := 0, locals := 345 + 23 * d } [.ref t, .int x1] σ μ (some (.int r)) σ μ' := IH.2.2.2.1 _ _ _ _ _ _ h
theorem ih_4_X8_either {l : Launch} {G : th_G} {σ : th_S} {μ : th_M} {t : Nat} {x1 : Int32} {r : Int32} {μ' : th_M} {d : Nat} (IH : IH_X8_either l G d) (h : f_scc_X8_either d 4 σ μ t x1 = some (r, μ')) : th_Met l G yX8_sum cX8_sum 4 (some FieldType.boolean) { frames := 9 + d, cells := 0, slots := 0, locals := 345 + 23 * d } [.ref t, .int x1] σ μ (some (.int r)) σ μ' := IH.2.2.2.2.1 _ _ _ _ _ _ h
theorem ih_5_X8_either {l : Launch} {G : th_G} {σ : th_S} {μ : th_M} {t : Nat} {x1 : Int32} {r : Int32} {μ' : th_M} {d : Nat} (IH : IH_X8_either l G d) (h : f_scc_X8_either d 5 σ μ t x1 = some (r, μ')) : th_Met l G yX8_product cX8_product 3 (some FieldType.boolean) { frames := 9 + d, cells := 0, slots := 0, locals := 345 + 23 * d } [.ref t, .int x1] σ μ (some (.int r)) σ μ' := IH.2.2.2.2.2.1 _ _ _ _ _ _ h
theorem ih_6_X8_either {l : Launch} {G : th_G} {σ : th_S} {μ : th_M} {t : Nat} {x1 : Int32} {r : Int32} {μ' : th_M} {d : Nat} (IH : IH_X8_either l G d) (h : f_scc_X8_either d 6 σ μ t x1 = some (r, μ')) : th_Met l G yX8_single cX8_single 2 (some FieldType.boolean) { frames := 9 + d, cells := 0, slots := 0, locals := 345 + 23 * d } [.ref t, .int x1] σ μ (some (.int r)) σ μ' := IH.2.2.2.2.2.2 _ _ _ _ _ _ h
set_option maxRecDepth 100000 in
set_option maxHeartbeats 4000000 in
theorem cb_X8_either {l : Launch} {G : th_G} {σ : th_S} {μ : th_M} {t : Nat} {x1 : Int32} {r : Int32} {μ' : th_M} (d : Nat) (IH : IH_X8_either l G d) (h : fb_X8_either (f_scc_X8_either d) σ μ t x1 = some (r, μ')) : th_Met l G yX8_either cX8_either 3 (some FieldType.boolean) { frames := 9 + (d + 1), cells := 0, slots := 0, locals := 345 + 23 * (d + 1) } [.ref t, .int x1] σ μ (some (.int r)) σ μ' := by
  refine th_ofW (by decide +kernel) (Nat.le_of_ble_eq_true rfl) ?_
  intro p e s m args below meth c ls Q hQ C hr hk hnm T hl
  have hx := C.1
  have hb := C.2.1
  have C : CallFix p m c cX8_either 3 s args th_ws RX8 := C
  have hl : lv_has ls 3 [(0, .ref t), (1, .int x1)] := hl
  have J12 : ∀ (n : Nat) (μ : th_M) (t : Nat) (x1 : Int32) (x2 : Int32) (H : Heap) (locs : List Loc) (ls : Array Slot), th_R G s H locs σ μ → lv_has ls 3 [(0, .ref t), (1, .int x1), (2, .int x2)] → f_X8_either_b12 (f_scc_X8_either d)  n σ μ t x1 x2 = some (r, μ') → W p l e { frames := 9 + (d + 1), cells := 0, slots := 0, locals := 345 + 23 * (d + 1) } s m args below meth c H locs 0 0 Q (F0 m 12 ls []) := by
    intro n
    induction n with
    | zero => intro μ t x1 x2 H locs ls T hl h; unfold f_X8_either_b12 at h; cases h
    | succ n12 ih12 =>
      intro μ t x1 x2 H locs ls T hl h
      unfold f_X8_either_b12 at h
      refine lv_iload_n hx hb dX8_either_12 rfl (lv_at hl 2 rfl) ?_
      refine lv_sipush (v := 160) hx hb dX8_either_13 (by decide) ?_
      refine lv_icmp_ge (tgt := 54) hx hb dX8_either_16 (by decide) (fun c1 => ?_) (fun c1 => ?_)
      · replace h := ot_ c1 h
        refine lv_iconst (v := 1) hx hb dX8_either_54 (by decide) ?_
        obtain ⟨rfl, rfl⟩ := os2 h
        exact th_zret hQ C hr hk T (Nat.le_of_ble_eq_true rfl) (Nat.le_of_ble_eq_true rfl) dX8_either_55 rfl
      · replace h := of_ c1 h
        refine lv_aload_n hx hb dX8_either_19 rfl (lv_at hl 0 rfl) ?_
        obtain ⟨v2, e3, h⟩ := ob_ h
        refine g_RX8_41 C T e3 dX8_either_20 ?_
        refine lv_bipush (v := 9) hx hb dX8_either_23 (by decide) ?_
        refine lv_icmp_ne (tgt := 54) hx hb dX8_either_25 (by decide) (fun c4 => ?_) (fun c4 => ?_)
        · replace h := of_ c4 h
          refine lv_iconst (v := 1) hx hb dX8_either_54 (by decide) ?_
          obtain ⟨rfl, rfl⟩ := os2 h
          exact th_zret hQ C hr hk T (Nat.le_of_ble_eq_true rfl) (Nat.le_of_ble_eq_true rfl) dX8_either_55 rfl
        · replace h := ot_ c4 h
          refine lv_aload_n hx hb dX8_either_28 rfl (lv_at hl 0 rfl) ?_
          obtain ⟨k5, h⟩ := oc_ h
          obtain ⟨μ6, e7, h⟩ := ob_ h
          refine th_callV (As := []) (rest := []) C T (c_X8_step e7) k_RX8_31 8 rfl rfl (by decide) k5 rfl hl.1 rfl (st1 := []) rfl (cells1 := 0) rfl (slots1 := 0) rfl (Nat.le_of_ble_eq_true rfl) ⟨show 7 + 1 ≤ 9 + (d + 1) by omega, show 8 + (1 + 11) + 304 ≤ 345 + 23 * (d + 1) by omega⟩ ⟨Nat.le_of_ble_eq_true rfl, Nat.le_of_ble_eq_true rfl⟩ dX8_either_29 (fun H locs T => ?_)
          refine lv_aload_n hx hb dX8_either_32 rfl (lv_at hl 0 rfl) ?_
          refine lv_iload_n hx hb dX8_either_33 rfl (lv_at hl 1 rfl) ?_
          obtain ⟨v8, μ9, e10, h⟩ := ob2 h
          refine th_callV (As := [.int x1]) (rest := []) C T (ih_1_X8_either IH e10) k_RX8_61 8 rfl rfl (by decide) k5 rfl hl.1 rfl (st1 := [.int v8]) rfl (cells1 := 0) rfl (slots1 := 0) rfl (Nat.le_of_ble_eq_true rfl) ⟨show 9 + d + 1 ≤ 9 + (d + 1) by omega, show 8 + (3 + 11) + (345 + 23 * d) ≤ 345 + 23 * (d + 1) by omega⟩ ⟨Nat.le_of_ble_eq_true rfl, Nat.le_of_ble_eq_true rfl⟩ dX8_either_34 (fun H locs T => ?_)
          refine lv_if_ne (tgt := 42) hx hb dX8_either_37 (by decide) (fun c11 => ?_) (fun c11 => ?_)
          · replace h := of_ c11 h
            refine lv_aload_n hx hb dX8_either_42 rfl (lv_at hl 0 rfl) ?_
            refine lv_bipush (v := 9) hx hb dX8_either_43 (by decide) ?_
            obtain ⟨μ12, e13, h⟩ := ob_ h
            refine th_callV (As := [.int 9]) (rest := []) C T (c_X8_emit e13) k_RX8_64 8 rfl rfl (by decide) k5 rfl hl.1 rfl (st1 := []) rfl (cells1 := 0) rfl (slots1 := 0) rfl (Nat.le_of_ble_eq_true rfl) ⟨show 1 + 1 ≤ 9 + (d + 1) by omega, show 8 + (2 + 11) + 21 ≤ 345 + 23 * (d + 1) by omega⟩ ⟨Nat.le_of_ble_eq_true rfl, Nat.le_of_ble_eq_true rfl⟩ dX8_either_45 (fun H locs T => ?_)
            refine lv_iinc (v := x2 + 1) (lv' := [(2, .int (x2 + 1)), (0, .ref t), (1, .int x1)]) hx hb dX8_either_48 hl (k := 2) rfl rfl (by decide) rfl (fun ls hl => ?_)
            refine lv_goto (tgt := 12) hx hb dX8_either_51 (by decide) ?_
            exact ih12 _ _ _ _ _ _ _ T (lv_sub hl [1, 2, 0] rfl) h
          · replace h := ot_ c11 h
            refine lv_iconst (v := 0) hx hb dX8_either_40 (by decide) ?_
            obtain ⟨rfl, rfl⟩ := os2 h
            exact th_zret hQ C hr hk T (Nat.le_of_ble_eq_true rfl) (Nat.le_of_ble_eq_true rfl) dX8_either_41 rfl
  unfold fb_X8_either at h
  refine lv_aload_n hx hb dX8_either_0 rfl (lv_at hl 0 rfl) ?_
  refine lv_iload_n hx hb dX8_either_1 rfl (lv_at hl 1 rfl) ?_
  obtain ⟨k1, h⟩ := oc_ h
  obtain ⟨v2, μ3, e4, h⟩ := ob2 h
  refine th_callV (As := [.int x1]) (rest := []) C T (ih_1_X8_either IH e4) k_RX8_61 8 rfl rfl (by decide) k1 rfl hl.1 rfl (st1 := [.int v2]) rfl (cells1 := 0) rfl (slots1 := 0) rfl (Nat.le_of_ble_eq_true rfl) ⟨show 9 + d + 1 ≤ 9 + (d + 1) by omega, show 8 + (3 + 11) + (345 + 23 * d) ≤ 345 + 23 * (d + 1) by omega⟩ ⟨Nat.le_of_ble_eq_true rfl, Nat.le_of_ble_eq_true rfl⟩ dX8_either_2 (fun H locs T => ?_)
  refine lv_if_ne (tgt := 10) hx hb dX8_either_5 (by decide) (fun c5 => ?_) (fun c5 => ?_)
  · replace h := of_ c5 h
    refine lv_iconst (v := 0) hx hb dX8_either_10 (by decide) ?_
    refine lv_istore_n (lv' := [(2, .int 0), (0, .ref t), (1, .int x1)]) hx hb dX8_either_11 rfl hl (by decide) rfl (fun ls hl => ?_)
    exact J12 fu _ _ _ _ _ _ _ T (lv_sub hl [1, 2, 0] rfl) h
  · replace h := ot_ c5 h
    refine lv_iconst (v := 0) hx hb dX8_either_8 (by decide) ?_
    obtain ⟨rfl, rfl⟩ := os2 h
    exact th_zret hQ C hr hk T (Nat.le_of_ble_eq_true rfl) (Nat.le_of_ble_eq_true rfl) dX8_either_9 rfl
set_option maxRecDepth 100000 in
set_option maxHeartbeats 4000000 in
theorem cb_X8_both {l : Launch} {G : th_G} {σ : th_S} {μ : th_M} {t : Nat} {x1 : Int32} {r : Int32} {μ' : th_M} (d : Nat) (IH : IH_X8_either l G d) (h : fb_X8_both (f_scc_X8_either d) σ μ t x1 = some (r, μ')) : th_Met l G yX8_both cX8_both 3 (some FieldType.boolean) { frames := 9 + (d + 1), cells := 0, slots := 0, locals := 345 + 23 * (d + 1) } [.ref t, .int x1] σ μ (some (.int r)) σ μ' := by
  refine th_ofW (by decide +kernel) (Nat.le_of_ble_eq_true rfl) ?_
  intro p e s m args below meth c ls Q hQ C hr hk hnm T hl
  have hx := C.1
  have hb := C.2.1
  have C : CallFix p m c cX8_both 3 s args th_ws RX8 := C
  have hl : lv_has ls 3 [(0, .ref t), (1, .int x1)] := hl
  have J12 : ∀ (n : Nat) (μ : th_M) (t : Nat) (x1 : Int32) (x2 : Int32) (H : Heap) (locs : List Loc) (ls : Array Slot), th_R G s H locs σ μ → lv_has ls 3 [(0, .ref t), (1, .int x1), (2, .int x2)] → f_X8_both_b12 (f_scc_X8_either d)  n σ μ t x1 x2 = some (r, μ') → W p l e { frames := 9 + (d + 1), cells := 0, slots := 0, locals := 345 + 23 * (d + 1) } s m args below meth c H locs 0 0 Q (F0 m 12 ls []) := by
    intro n
    induction n with
    | zero => intro μ t x1 x2 H locs ls T hl h; unfold f_X8_both_b12 at h; cases h
    | succ n12 ih12 =>
      intro μ t x1 x2 H locs ls T hl h
      unfold f_X8_both_b12 at h
      refine lv_iload_n hx hb dX8_both_12 rfl (lv_at hl 2 rfl) ?_
      refine lv_sipush (v := 160) hx hb dX8_both_13 (by decide) ?_
      refine lv_icmp_ge (tgt := 54) hx hb dX8_both_16 (by decide) (fun c1 => ?_) (fun c1 => ?_)
      · replace h := ot_ c1 h
        refine lv_iconst (v := 1) hx hb dX8_both_54 (by decide) ?_
        obtain ⟨rfl, rfl⟩ := os2 h
        exact th_zret hQ C hr hk T (Nat.le_of_ble_eq_true rfl) (Nat.le_of_ble_eq_true rfl) dX8_both_55 rfl
      · replace h := of_ c1 h
        refine lv_aload_n hx hb dX8_both_19 rfl (lv_at hl 0 rfl) ?_
        obtain ⟨v2, e3, h⟩ := ob_ h
        refine g_RX8_41 C T e3 dX8_both_20 ?_
        refine lv_bipush (v := 10) hx hb dX8_both_23 (by decide) ?_
        refine lv_icmp_ne (tgt := 54) hx hb dX8_both_25 (by decide) (fun c4 => ?_) (fun c4 => ?_)
        · replace h := of_ c4 h
          refine lv_iconst (v := 1) hx hb dX8_both_54 (by decide) ?_
          obtain ⟨rfl, rfl⟩ := os2 h
          exact th_zret hQ C hr hk T (Nat.le_of_ble_eq_true rfl) (Nat.le_of_ble_eq_true rfl) dX8_both_55 rfl
        · replace h := ot_ c4 h
          refine lv_aload_n hx hb dX8_both_28 rfl (lv_at hl 0 rfl) ?_
          obtain ⟨k5, h⟩ := oc_ h
          obtain ⟨μ6, e7, h⟩ := ob_ h
          refine th_callV (As := []) (rest := []) C T (c_X8_step e7) k_RX8_31 8 rfl rfl (by decide) k5 rfl hl.1 rfl (st1 := []) rfl (cells1 := 0) rfl (slots1 := 0) rfl (Nat.le_of_ble_eq_true rfl) ⟨show 7 + 1 ≤ 9 + (d + 1) by omega, show 8 + (1 + 11) + 304 ≤ 345 + 23 * (d + 1) by omega⟩ ⟨Nat.le_of_ble_eq_true rfl, Nat.le_of_ble_eq_true rfl⟩ dX8_both_29 (fun H locs T => ?_)
          refine lv_aload_n hx hb dX8_both_32 rfl (lv_at hl 0 rfl) ?_
          refine lv_iload_n hx hb dX8_both_33 rfl (lv_at hl 1 rfl) ?_
          obtain ⟨v8, μ9, e10, h⟩ := ob2 h
          refine th_callV (As := [.int x1]) (rest := []) C T (ih_2_X8_either IH e10) k_RX8_68 8 rfl rfl (by decide) k5 rfl hl.1 rfl (st1 := [.int v8]) rfl (cells1 := 0) rfl (slots1 := 0) rfl (Nat.le_of_ble_eq_true rfl) ⟨show 9 + d + 1 ≤ 9 + (d + 1) by omega, show 8 + (2 + 11) + (345 + 23 * d) ≤ 345 + 23 * (d + 1) by omega⟩ ⟨Nat.le_of_ble_eq_true rfl, Nat.le_of_ble_eq_true rfl⟩ dX8_both_34 (fun H locs T => ?_)
          refine lv_if_ne (tgt := 42) hx hb dX8_both_37 (by decide) (fun c11 => ?_) (fun c11 => ?_)
          · replace h := of_ c11 h
            refine lv_aload_n hx hb dX8_both_42 rfl (lv_at hl 0 rfl) ?_
            refine lv_bipush (v := 10) hx hb dX8_both_43 (by decide) ?_
            obtain ⟨μ12, e13, h⟩ := ob_ h
            refine th_callV (As := [.int 10]) (rest := []) C T (c_X8_emit e13) k_RX8_64 8 rfl rfl (by decide) k5 rfl hl.1 rfl (st1 := []) rfl (cells1 := 0) rfl (slots1 := 0) rfl (Nat.le_of_ble_eq_true rfl) ⟨show 1 + 1 ≤ 9 + (d + 1) by omega, show 8 + (2 + 11) + 21 ≤ 345 + 23 * (d + 1) by omega⟩ ⟨Nat.le_of_ble_eq_true rfl, Nat.le_of_ble_eq_true rfl⟩ dX8_both_45 (fun H locs T => ?_)
            refine lv_iinc (v := x2 + 1) (lv' := [(2, .int (x2 + 1)), (0, .ref t), (1, .int x1)]) hx hb dX8_both_48 hl (k := 2) rfl rfl (by decide) rfl (fun ls hl => ?_)
            refine lv_goto (tgt := 12) hx hb dX8_both_51 (by decide) ?_
            exact ih12 _ _ _ _ _ _ _ T (lv_sub hl [1, 2, 0] rfl) h
          · replace h := ot_ c11 h
            refine lv_iconst (v := 0) hx hb dX8_both_40 (by decide) ?_
            obtain ⟨rfl, rfl⟩ := os2 h
            exact th_zret hQ C hr hk T (Nat.le_of_ble_eq_true rfl) (Nat.le_of_ble_eq_true rfl) dX8_both_41 rfl
  unfold fb_X8_both at h
  refine lv_aload_n hx hb dX8_both_0 rfl (lv_at hl 0 rfl) ?_
  refine lv_iload_n hx hb dX8_both_1 rfl (lv_at hl 1 rfl) ?_
  obtain ⟨k1, h⟩ := oc_ h
  obtain ⟨v2, μ3, e4, h⟩ := ob2 h
  refine th_callV (As := [.int x1]) (rest := []) C T (ih_2_X8_either IH e4) k_RX8_68 8 rfl rfl (by decide) k1 rfl hl.1 rfl (st1 := [.int v2]) rfl (cells1 := 0) rfl (slots1 := 0) rfl (Nat.le_of_ble_eq_true rfl) ⟨show 9 + d + 1 ≤ 9 + (d + 1) by omega, show 8 + (2 + 11) + (345 + 23 * d) ≤ 345 + 23 * (d + 1) by omega⟩ ⟨Nat.le_of_ble_eq_true rfl, Nat.le_of_ble_eq_true rfl⟩ dX8_both_2 (fun H locs T => ?_)
  refine lv_if_ne (tgt := 10) hx hb dX8_both_5 (by decide) (fun c5 => ?_) (fun c5 => ?_)
  · replace h := of_ c5 h
    refine lv_iconst (v := 0) hx hb dX8_both_10 (by decide) ?_
    refine lv_istore_n (lv' := [(2, .int 0), (0, .ref t), (1, .int x1)]) hx hb dX8_both_11 rfl hl (by decide) rfl (fun ls hl => ?_)
    exact J12 fu _ _ _ _ _ _ _ T (lv_sub hl [1, 2, 0] rfl) h
  · replace h := ot_ c5 h
    refine lv_iconst (v := 0) hx hb dX8_both_8 (by decide) ?_
    obtain ⟨rfl, rfl⟩ := os2 h
    exact th_zret hQ C hr hk T (Nat.le_of_ble_eq_true rfl) (Nat.le_of_ble_eq_true rfl) dX8_both_9 rfl
set_option maxRecDepth 100000 in
set_option maxHeartbeats 4000000 in
theorem cb_X8_denied {l : Launch} {G : th_G} {σ : th_S} {μ : th_M} {t : Nat} {x1 : Int32} {r : Int32} {μ' : th_M} (d : Nat) (IH : IH_X8_either l G d) (h : fb_X8_denied (f_scc_X8_either d) σ μ t x1 = some (r, μ')) : th_Met l G yX8_denied cX8_denied 2 (some FieldType.boolean) { frames := 9 + (d + 1), cells := 0, slots := 0, locals := 345 + 23 * (d + 1) } [.ref t, .int x1] σ μ (some (.int r)) σ μ' := by
  refine th_ofW (by decide +kernel) (Nat.le_of_ble_eq_true rfl) ?_
  intro p e s m args below meth c ls Q hQ C hr hk hnm T hl
  have hx := C.1
  have hb := C.2.1
  have C : CallFix p m c cX8_denied 2 s args th_ws RX8 := C
  have hl : lv_has ls 2 [(0, .ref t), (1, .int x1)] := hl
  unfold fb_X8_denied at h
  refine lv_aload_n hx hb dX8_denied_0 rfl (lv_at hl 0 rfl) ?_
  obtain ⟨v1, e2, h⟩ := ob_ h
  refine g_RX8_41 C T e2 dX8_denied_1 ?_
  refine lv_bipush (v := 11) hx hb dX8_denied_4 (by decide) ?_
  refine lv_icmp_eq (tgt := 15) hx hb dX8_denied_6 (by decide) (fun c3 => ?_) (fun c3 => ?_)
  · replace h := ot_ c3 h
    refine lv_iload_n hx hb dX8_denied_15 rfl (lv_at hl 1 rfl) ?_
    refine lv_iconst (v := 5) hx hb dX8_denied_16 (by decide) ?_
    refine lv_icmp_lt (tgt := 22) hx hb dX8_denied_17 (by decide) (fun c4 => ?_) (fun c4 => ?_)
    · replace h := ot_ c4 h
      refine lv_aload_n hx hb dX8_denied_22 rfl (lv_at hl 0 rfl) ?_
      obtain ⟨k5, h⟩ := oc_ h
      obtain ⟨μ6, e7, h⟩ := ob_ h
      refine th_callV (As := []) (rest := []) C T (c_X8_step e7) k_RX8_31 8 rfl rfl (by decide) k5 rfl hl.1 rfl (st1 := []) rfl (cells1 := 0) rfl (slots1 := 0) rfl (Nat.le_of_ble_eq_true rfl) ⟨show 7 + 1 ≤ 9 + (d + 1) by omega, show 8 + (1 + 11) + 304 ≤ 345 + 23 * (d + 1) by omega⟩ ⟨Nat.le_of_ble_eq_true rfl, Nat.le_of_ble_eq_true rfl⟩ dX8_denied_23 (fun H locs T => ?_)
      refine lv_aload_n hx hb dX8_denied_26 rfl (lv_at hl 0 rfl) ?_
      refine lv_iload_n hx hb dX8_denied_27 rfl (lv_at hl 1 rfl) ?_
      refine lv_iconst (v := 1) hx hb dX8_denied_28 (by decide) ?_
      refine lv_iadd hx hb dX8_denied_29 ?_
      obtain ⟨v8, μ9, e10, h⟩ := ob2 h
      refine th_callV (As := [.int (x1 + 1)]) (rest := []) C T (ih_2_X8_either IH e10) k_RX8_68 8 rfl rfl (by decide) k5 rfl hl.1 rfl (st1 := [.int v8]) rfl (cells1 := 0) rfl (slots1 := 0) rfl (Nat.le_of_ble_eq_true rfl) ⟨show 9 + d + 1 ≤ 9 + (d + 1) by omega, show 8 + (2 + 11) + (345 + 23 * d) ≤ 345 + 23 * (d + 1) by omega⟩ ⟨Nat.le_of_ble_eq_true rfl, Nat.le_of_ble_eq_true rfl⟩ dX8_denied_30 (fun H locs T => ?_)
      refine lv_if_ne (tgt := 38) hx hb dX8_denied_33 (by decide) (fun c11 => ?_) (fun c11 => ?_)
      · replace h := of_ c11 h
        refine lv_aload_n hx hb dX8_denied_38 rfl (lv_at hl 0 rfl) ?_
        refine lv_bipush (v := 11) hx hb dX8_denied_39 (by decide) ?_
        obtain ⟨μ12, e13, h⟩ := ob_ h
        refine th_callV (As := [.int 11]) (rest := []) C T (c_X8_emit e13) k_RX8_64 8 rfl rfl (by decide) k5 rfl hl.1 rfl (st1 := []) rfl (cells1 := 0) rfl (slots1 := 0) rfl (Nat.le_of_ble_eq_true rfl) ⟨show 1 + 1 ≤ 9 + (d + 1) by omega, show 8 + (2 + 11) + 21 ≤ 345 + 23 * (d + 1) by omega⟩ ⟨Nat.le_of_ble_eq_true rfl, Nat.le_of_ble_eq_true rfl⟩ dX8_denied_41 (fun H locs T => ?_)
        refine lv_iconst (v := 1) hx hb dX8_denied_44 (by decide) ?_
        obtain ⟨rfl, rfl⟩ := os2 h
        exact th_zret hQ C hr hk T (Nat.le_of_ble_eq_true rfl) (Nat.le_of_ble_eq_true rfl) dX8_denied_45 rfl
      · replace h := ot_ c11 h
        refine lv_iconst (v := 0) hx hb dX8_denied_36 (by decide) ?_
        obtain ⟨rfl, rfl⟩ := os2 h
        exact th_zret hQ C hr hk T (Nat.le_of_ble_eq_true rfl) (Nat.le_of_ble_eq_true rfl) dX8_denied_37 rfl
    · replace h := of_ c4 h
      refine lv_iconst (v := 0) hx hb dX8_denied_20 (by decide) ?_
      obtain ⟨rfl, rfl⟩ := os2 h
      exact th_zret hQ C hr hk T (Nat.le_of_ble_eq_true rfl) (Nat.le_of_ble_eq_true rfl) dX8_denied_21 rfl
  · replace h := of_ c3 h
    refine lv_aload_n hx hb dX8_denied_9 rfl (lv_at hl 0 rfl) ?_
    refine lv_iload_n hx hb dX8_denied_10 rfl (lv_at hl 1 rfl) ?_
    obtain ⟨k14, h⟩ := oc_ h
    obtain ⟨v15, μ16, e17, h⟩ := ob2 h
    refine th_callV (As := [.int x1]) (rest := []) C T (ih_3_X8_either IH e17) k_RX8_71 8 rfl rfl (by decide) k14 rfl hl.1 rfl (st1 := [.int v15]) rfl (cells1 := 0) rfl (slots1 := 0) rfl (Nat.le_of_ble_eq_true rfl) ⟨show 9 + d + 1 ≤ 9 + (d + 1) by omega, show 8 + (3 + 11) + (345 + 23 * d) ≤ 345 + 23 * (d + 1) by omega⟩ ⟨Nat.le_of_ble_eq_true rfl, Nat.le_of_ble_eq_true rfl⟩ dX8_denied_11 (fun H locs T => ?_)
    obtain ⟨g18, h⟩ := ogg h
    obtain ⟨rfl, rfl⟩ := os2 h
    exact th_zret hQ C hr hk T (Nat.le_of_ble_eq_true rfl) (Nat.le_of_ble_eq_true rfl) dX8_denied_14 (by show Value.int _ = _; rw [g18])
set_option maxRecDepth 100000 in
set_option maxHeartbeats 4000000 in
theorem cb_X8_compared {l : Launch} {G : th_G} {σ : th_S} {μ : th_M} {t : Nat} {x1 : Int32} {r : Int32} {μ' : th_M} (d : Nat) (IH : IH_X8_either l G d) (h : fb_X8_compared (f_scc_X8_either d) σ μ t x1 = some (r, μ')) : th_Met l G yX8_compared cX8_compared 3 (some FieldType.boolean) { frames := 9 + (d + 1), cells := 0, slots := 0, locals := 345 + 23 * (d + 1) } [.ref t, .int x1] σ μ (some (.int r)) σ μ' := by
  refine th_ofW (by decide +kernel) (Nat.le_of_ble_eq_true rfl) ?_
  intro p e s m args below meth c ls Q hQ C hr hk hnm T hl
  have hx := C.1
  have hb := C.2.1
  have C : CallFix p m c cX8_compared 3 s args th_ws RX8 := C
  have hl : lv_has ls 3 [(0, .ref t), (1, .int x1)] := hl
  have J29 : ∀ (μ : th_M) (t : Nat) (x1 : Int32) (x2 : Int32) (H : Heap) (locs : List Loc) (ls : Array Slot), th_R G s H locs σ μ → lv_has ls 3 [(0, .ref t), (1, .int x1), (2, .int x2)] → f_X8_compared_b29 (f_scc_X8_either d) σ μ t x1 x2 = some (r, μ') → W p l e { frames := 9 + (d + 1), cells := 0, slots := 0, locals := 345 + 23 * (d + 1) } s m args below meth c H locs 0 0 Q (F0 m 29 ls []) := by
    intro μ t x1 x2 H locs ls T hl h
    unfold f_X8_compared_b29 at h
    refine lv_aload_n hx hb dX8_compared_29 rfl (lv_at hl 0 rfl) ?_
    obtain ⟨k1, h⟩ := oc_ h
    obtain ⟨μ2, e3, h⟩ := ob_ h
    refine th_callV (As := []) (rest := []) C T (c_X8_step e3) k_RX8_31 8 rfl rfl (by decide) k1 rfl hl.1 rfl (st1 := []) rfl (cells1 := 0) rfl (slots1 := 0) rfl (Nat.le_of_ble_eq_true rfl) ⟨show 7 + 1 ≤ 9 + (d + 1) by omega, show 8 + (1 + 11) + 304 ≤ 345 + 23 * (d + 1) by omega⟩ ⟨Nat.le_of_ble_eq_true rfl, Nat.le_of_ble_eq_true rfl⟩ dX8_compared_30 (fun H locs T => ?_)
    refine lv_aload_n hx hb dX8_compared_33 rfl (lv_at hl 0 rfl) ?_
    refine lv_iload_n hx hb dX8_compared_34 rfl (lv_at hl 1 rfl) ?_
    obtain ⟨v4, μ5, e6, h⟩ := ob2 h
    refine th_callV (As := [.int x1]) (rest := []) C T (ih_4_X8_either IH e6) k_RX8_74 8 rfl rfl (by decide) k1 rfl hl.1 rfl (st1 := [.int v4]) rfl (cells1 := 0) rfl (slots1 := 0) rfl (Nat.le_of_ble_eq_true rfl) ⟨show 9 + d + 1 ≤ 9 + (d + 1) by omega, show 8 + (4 + 11) + (345 + 23 * d) ≤ 345 + 23 * (d + 1) by omega⟩ ⟨Nat.le_of_ble_eq_true rfl, Nat.le_of_ble_eq_true rfl⟩ dX8_compared_35 (fun H locs T => ?_)
    refine lv_if_ne (tgt := 43) hx hb dX8_compared_38 (by decide) (fun c7 => ?_) (fun c7 => ?_)
    · replace h := of_ c7 h
      refine lv_aload_n hx hb dX8_compared_43 rfl (lv_at hl 0 rfl) ?_
      refine lv_iload_n hx hb dX8_compared_44 rfl (lv_at hl 2 rfl) ?_
      obtain ⟨μ8, e9, h⟩ := ob_ h
      refine th_callV (As := [.int x2]) (rest := []) C T (c_X8_emit e9) k_RX8_64 8 rfl rfl (by decide) k1 rfl hl.1 rfl (st1 := []) rfl (cells1 := 0) rfl (slots1 := 0) rfl (Nat.le_of_ble_eq_true rfl) ⟨show 1 + 1 ≤ 9 + (d + 1) by omega, show 8 + (2 + 11) + 21 ≤ 345 + 23 * (d + 1) by omega⟩ ⟨Nat.le_of_ble_eq_true rfl, Nat.le_of_ble_eq_true rfl⟩ dX8_compared_45 (fun H locs T => ?_)
      refine lv_iconst (v := 1) hx hb dX8_compared_48 (by decide) ?_
      obtain ⟨rfl, rfl⟩ := os2 h
      exact th_zret hQ C hr hk T (Nat.le_of_ble_eq_true rfl) (Nat.le_of_ble_eq_true rfl) dX8_compared_49 rfl
    · replace h := ot_ c7 h
      refine lv_iconst (v := 0) hx hb dX8_compared_41 (by decide) ?_
      obtain ⟨rfl, rfl⟩ := os2 h
      exact th_zret hQ C hr hk T (Nat.le_of_ble_eq_true rfl) (Nat.le_of_ble_eq_true rfl) dX8_compared_42 rfl
  unfold fb_X8_compared at h
  refine lv_aload_n hx hb dX8_compared_0 rfl (lv_at hl 0 rfl) ?_
  refine lv_iload_n hx hb dX8_compared_1 rfl (lv_at hl 1 rfl) ?_
  obtain ⟨k1, h⟩ := oc_ h
  obtain ⟨v2, μ3, e4, h⟩ := ob2 h
  refine th_callV (As := [.int x1]) (rest := []) C T (ih_4_X8_either IH e4) k_RX8_74 8 rfl rfl (by decide) k1 rfl hl.1 rfl (st1 := [.int v2]) rfl (cells1 := 0) rfl (slots1 := 0) rfl (Nat.le_of_ble_eq_true rfl) ⟨show 9 + d + 1 ≤ 9 + (d + 1) by omega, show 8 + (4 + 11) + (345 + 23 * d) ≤ 345 + 23 * (d + 1) by omega⟩ ⟨Nat.le_of_ble_eq_true rfl, Nat.le_of_ble_eq_true rfl⟩ dX8_compared_2 (fun H locs T => ?_)
  refine lv_if_ne (tgt := 10) hx hb dX8_compared_5 (by decide) (fun c5 => ?_) (fun c5 => ?_)
  · replace h := of_ c5 h
    refine lv_aload_n hx hb dX8_compared_10 rfl (lv_at hl 0 rfl) ?_
    obtain ⟨v6, e7, h⟩ := ob_ h
    refine g_RX8_41 C T e7 dX8_compared_11 ?_
    refine lv_istore_n (lv' := [(2, .int v6), (0, .ref t), (1, .int x1)]) hx hb dX8_compared_14 rfl hl (by decide) rfl (fun ls hl => ?_)
    refine lv_iload_n hx hb dX8_compared_15 rfl (lv_at hl 0 rfl) ?_
    refine lv_bipush (v := 60) hx hb dX8_compared_16 (by decide) ?_
    refine lv_icmp_eq (tgt := 29) hx hb dX8_compared_18 (by decide) (fun c8 => ?_) (fun c8 => ?_)
    · replace h := ot_ c8 h
      exact J29 _ _ _ _ _ _ _ T (lv_sub hl [1, 2, 0] rfl) h
    · replace h := of_ c8 h
      refine lv_iload_n hx hb dX8_compared_21 rfl (lv_at hl 0 rfl) ?_
      refine lv_bipush (v := 61) hx hb dX8_compared_22 (by decide) ?_
      refine lv_icmp_eq (tgt := 29) hx hb dX8_compared_24 (by decide) (fun c9 => ?_) (fun c9 => ?_)
      · replace h := ot_ c9 h
        exact J29 _ _ _ _ _ _ _ T (lv_sub hl [1, 2, 0] rfl) h
      · replace h := of_ c9 h
        refine lv_iconst (v := 1) hx hb dX8_compared_27 (by decide) ?_
        obtain ⟨rfl, rfl⟩ := os2 h
        exact th_zret hQ C hr hk T (Nat.le_of_ble_eq_true rfl) (Nat.le_of_ble_eq_true rfl) dX8_compared_28 rfl
  · replace h := ot_ c5 h
    refine lv_iconst (v := 0) hx hb dX8_compared_8 (by decide) ?_
    obtain ⟨rfl, rfl⟩ := os2 h
    exact th_zret hQ C hr hk T (Nat.le_of_ble_eq_true rfl) (Nat.le_of_ble_eq_true rfl) dX8_compared_9 rfl
set_option maxRecDepth 100000 in
set_option maxHeartbeats 4000000 in
theorem cb_X8_sum {l : Launch} {G : th_G} {σ : th_S} {μ : th_M} {t : Nat} {x1 : Int32} {r : Int32} {μ' : th_M} (d : Nat) (IH : IH_X8_either l G d) (h : fb_X8_sum (f_scc_X8_either d) σ μ t x1 = some (r, μ')) : th_Met l G yX8_sum cX8_sum 4 (some FieldType.boolean) { frames := 9 + (d + 1), cells := 0, slots := 0, locals := 345 + 23 * (d + 1) } [.ref t, .int x1] σ μ (some (.int r)) σ μ' := by
  refine th_ofW (by decide +kernel) (Nat.le_of_ble_eq_true rfl) ?_
  intro p e s m args below meth c ls Q hQ C hr hk hnm T hl
  have hx := C.1
  have hb := C.2.1
  have C : CallFix p m c cX8_sum 4 s args th_ws RX8 := C
  have hl : lv_has ls 4 [(0, .ref t), (1, .int x1)] := hl
  have J12 : ∀ (n : Nat) (μ : th_M) (t : Nat) (x1 : Int32) (x2 : Int32) (H : Heap) (locs : List Loc) (ls : Array Slot), th_R G s H locs σ μ → lv_has ls 4 [(0, .ref t), (1, .int x1), (2, .int x2)] → f_X8_sum_b12 (f_scc_X8_either d)  n σ μ t x1 x2 = some (r, μ') → W p l e { frames := 9 + (d + 1), cells := 0, slots := 0, locals := 345 + 23 * (d + 1) } s m args below meth c H locs 0 0 Q (F0 m 12 ls []) := by
    intro n
    induction n with
    | zero => intro μ t x1 x2 H locs ls T hl h; unfold f_X8_sum_b12 at h; cases h
    | succ n12 ih12 =>
      intro μ t x1 x2 H locs ls T hl h
      unfold f_X8_sum_b12 at h
      have J37 : ∀ (μ : th_M) (t : Nat) (x1 : Int32) (x2 : Int32) (H : Heap) (locs : List Loc) (ls : Array Slot), th_R G s H locs σ μ → lv_has ls 4 [(0, .ref t), (1, .int x1), (2, .int x2)] → f_X8_sum_b37 (f_scc_X8_either d) (f_X8_sum_b12 (f_scc_X8_either d) n12) σ μ t x1 x2 = some (r, μ') → W p l e { frames := 9 + (d + 1), cells := 0, slots := 0, locals := 345 + 23 * (d + 1) } s m args below meth c H locs 0 0 Q (F0 m 37 ls []) := by
        intro μ t x1 x2 H locs ls T hl h
        unfold f_X8_sum_b37 at h
        refine lv_aload_n hx hb dX8_sum_37 rfl (lv_at hl 0 rfl) ?_
        obtain ⟨v1, e2, h⟩ := ob_ h
        refine g_RX8_41 C T e2 dX8_sum_38 ?_
        refine lv_istore_n (lv' := [(3, .int v1), (0, .ref t), (1, .int x1), (2, .int x2)]) hx hb dX8_sum_41 rfl hl (by decide) rfl (fun ls hl => ?_)
        refine lv_aload_n hx hb dX8_sum_42 rfl (lv_at hl 1 rfl) ?_
        obtain ⟨k3, h⟩ := oc_ h
        obtain ⟨μ4, e5, h⟩ := ob_ h
        refine th_callV (As := []) (rest := []) C T (c_X8_step e5) k_RX8_31 8 rfl rfl (by decide) k3 rfl hl.1 rfl (st1 := []) rfl (cells1 := 0) rfl (slots1 := 0) rfl (Nat.le_of_ble_eq_true rfl) ⟨show 7 + 1 ≤ 9 + (d + 1) by omega, show 8 + (1 + 11) + 304 ≤ 345 + 23 * (d + 1) by omega⟩ ⟨Nat.le_of_ble_eq_true rfl, Nat.le_of_ble_eq_true rfl⟩ dX8_sum_43 (fun H locs T => ?_)
        refine lv_aload_n hx hb dX8_sum_46 rfl (lv_at hl 1 rfl) ?_
        refine lv_iload_n hx hb dX8_sum_47 rfl (lv_at hl 2 rfl) ?_
        obtain ⟨v6, μ7, e8, h⟩ := ob2 h
        refine th_callV (As := [.int x1]) (rest := []) C T (ih_5_X8_either IH e8) k_RX8_77 8 rfl rfl (by decide) k3 rfl hl.1 rfl (st1 := [.int v6]) rfl (cells1 := 0) rfl (slots1 := 0) rfl (Nat.le_of_ble_eq_true rfl) ⟨show 9 + d + 1 ≤ 9 + (d + 1) by omega, show 8 + (3 + 11) + (345 + 23 * d) ≤ 345 + 23 * (d + 1) by omega⟩ ⟨Nat.le_of_ble_eq_true rfl, Nat.le_of_ble_eq_true rfl⟩ dX8_sum_48 (fun H locs T => ?_)
        refine lv_if_ne (tgt := 56) hx hb dX8_sum_51 (by decide) (fun c9 => ?_) (fun c9 => ?_)
        · replace h := of_ c9 h
          refine lv_aload_n hx hb dX8_sum_56 rfl (lv_at hl 1 rfl) ?_
          refine lv_iload_n hx hb dX8_sum_57 rfl (lv_at hl 0 rfl) ?_
          obtain ⟨μ10, e11, h⟩ := ob_ h
          refine th_callV (As := [.int v1]) (rest := []) C T (c_X8_emit e11) k_RX8_64 8 rfl rfl (by decide) k3 rfl hl.1 rfl (st1 := []) rfl (cells1 := 0) rfl (slots1 := 0) rfl (Nat.le_of_ble_eq_true rfl) ⟨show 1 + 1 ≤ 9 + (d + 1) by omega, show 8 + (2 + 11) + 21 ≤ 345 + 23 * (d + 1) by omega⟩ ⟨Nat.le_of_ble_eq_true rfl, Nat.le_of_ble_eq_true rfl⟩ dX8_sum_58 (fun H locs T => ?_)
          refine lv_iinc (v := x2 + 1) (lv' := [(2, .int (x2 + 1)), (3, .int v1), (0, .ref t), (1, .int x1)]) hx hb dX8_sum_61 hl (k := 3) rfl rfl (by decide) rfl (fun ls hl => ?_)
          refine lv_goto (tgt := 12) hx hb dX8_sum_64 (by decide) ?_
          exact ih12 _ _ _ _ _ _ _ T (lv_sub hl [2, 3, 0] rfl) h
        · replace h := ot_ c9 h
          refine lv_iconst (v := 0) hx hb dX8_sum_54 (by decide) ?_
          obtain ⟨rfl, rfl⟩ := os2 h
          exact th_zret hQ C hr hk T (Nat.le_of_ble_eq_true rfl) (Nat.le_of_ble_eq_true rfl) dX8_sum_55 rfl
      refine lv_iload_n hx hb dX8_sum_12 rfl (lv_at hl 2 rfl) ?_
      refine lv_sipush (v := 160) hx hb dX8_sum_13 (by decide) ?_
      refine lv_icmp_ge (tgt := 67) hx hb dX8_sum_16 (by decide) (fun c1 => ?_) (fun c1 => ?_)
      · replace h := ot_ c1 h
        refine lv_iconst (v := 1) hx hb dX8_sum_67 (by decide) ?_
        obtain ⟨rfl, rfl⟩ := os2 h
        exact th_zret hQ C hr hk T (Nat.le_of_ble_eq_true rfl) (Nat.le_of_ble_eq_true rfl) dX8_sum_68 rfl
      · replace h := of_ c1 h
        refine lv_aload_n hx hb dX8_sum_19 rfl (lv_at hl 0 rfl) ?_
        obtain ⟨v2, e3, h⟩ := ob_ h
        refine g_RX8_41 C T e3 dX8_sum_20 ?_
        refine lv_bipush (v := 43) hx hb dX8_sum_23 (by decide) ?_
        refine lv_icmp_eq (tgt := 37) hx hb dX8_sum_25 (by decide) (fun c4 => ?_) (fun c4 => ?_)
        · replace h := ot_ c4 h
          exact J37 _ _ _ _ _ _ _ T (lv_sub hl [0, 1, 2] rfl) h
        · replace h := of_ c4 h
          refine lv_aload_n hx hb dX8_sum_28 rfl (lv_at hl 0 rfl) ?_
          obtain ⟨v5, e6, h⟩ := ob_ h
          refine g_RX8_41 C T e6 dX8_sum_29 ?_
          refine lv_bipush (v := 45) hx hb dX8_sum_32 (by decide) ?_
          refine lv_icmp_ne (tgt := 67) hx hb dX8_sum_34 (by decide) (fun c7 => ?_) (fun c7 => ?_)
          · replace h := of_ c7 h
            refine lv_iconst (v := 1) hx hb dX8_sum_67 (by decide) ?_
            obtain ⟨rfl, rfl⟩ := os2 h
            exact th_zret hQ C hr hk T (Nat.le_of_ble_eq_true rfl) (Nat.le_of_ble_eq_true rfl) dX8_sum_68 rfl
          · replace h := ot_ c7 h
            exact J37 _ _ _ _ _ _ _ T (lv_sub hl [0, 1, 2] rfl) h
  unfold fb_X8_sum at h
  refine lv_aload_n hx hb dX8_sum_0 rfl (lv_at hl 0 rfl) ?_
  refine lv_iload_n hx hb dX8_sum_1 rfl (lv_at hl 1 rfl) ?_
  obtain ⟨k1, h⟩ := oc_ h
  obtain ⟨v2, μ3, e4, h⟩ := ob2 h
  refine th_callV (As := [.int x1]) (rest := []) C T (ih_5_X8_either IH e4) k_RX8_77 8 rfl rfl (by decide) k1 rfl hl.1 rfl (st1 := [.int v2]) rfl (cells1 := 0) rfl (slots1 := 0) rfl (Nat.le_of_ble_eq_true rfl) ⟨show 9 + d + 1 ≤ 9 + (d + 1) by omega, show 8 + (3 + 11) + (345 + 23 * d) ≤ 345 + 23 * (d + 1) by omega⟩ ⟨Nat.le_of_ble_eq_true rfl, Nat.le_of_ble_eq_true rfl⟩ dX8_sum_2 (fun H locs T => ?_)
  refine lv_if_ne (tgt := 10) hx hb dX8_sum_5 (by decide) (fun c5 => ?_) (fun c5 => ?_)
  · replace h := of_ c5 h
    refine lv_iconst (v := 0) hx hb dX8_sum_10 (by decide) ?_
    refine lv_istore_n (lv' := [(2, .int 0), (0, .ref t), (1, .int x1)]) hx hb dX8_sum_11 rfl hl (by decide) rfl (fun ls hl => ?_)
    exact J12 fu _ _ _ _ _ _ _ T (lv_sub hl [1, 2, 0] rfl) h
  · replace h := ot_ c5 h
    refine lv_iconst (v := 0) hx hb dX8_sum_8 (by decide) ?_
    obtain ⟨rfl, rfl⟩ := os2 h
    exact th_zret hQ C hr hk T (Nat.le_of_ble_eq_true rfl) (Nat.le_of_ble_eq_true rfl) dX8_sum_9 rfl
set_option maxRecDepth 100000 in
set_option maxHeartbeats 4000000 in
theorem cb_X8_product {l : Launch} {G : th_G} {σ : th_S} {μ : th_M} {t : Nat} {x1 : Int32} {r : Int32} {μ' : th_M} (d : Nat) (IH : IH_X8_either l G d) (h : fb_X8_product (f_scc_X8_either d) σ μ t x1 = some (r, μ')) : th_Met l G yX8_product cX8_product 3 (some FieldType.boolean) { frames := 9 + (d + 1), cells := 0, slots := 0, locals := 345 + 23 * (d + 1) } [.ref t, .int x1] σ μ (some (.int r)) σ μ' := by
  refine th_ofW (by decide +kernel) (Nat.le_of_ble_eq_true rfl) ?_
  intro p e s m args below meth c ls Q hQ C hr hk hnm T hl
  have hx := C.1
  have hb := C.2.1
  have C : CallFix p m c cX8_product 3 s args th_ws RX8 := C
  have hl : lv_has ls 3 [(0, .ref t), (1, .int x1)] := hl
  have J12 : ∀ (n : Nat) (μ : th_M) (t : Nat) (x1 : Int32) (x2 : Int32) (H : Heap) (locs : List Loc) (ls : Array Slot), th_R G s H locs σ μ → lv_has ls 3 [(0, .ref t), (1, .int x1), (2, .int x2)] → f_X8_product_b12 (f_scc_X8_either d)  n σ μ t x1 x2 = some (r, μ') → W p l e { frames := 9 + (d + 1), cells := 0, slots := 0, locals := 345 + 23 * (d + 1) } s m args below meth c H locs 0 0 Q (F0 m 12 ls []) := by
    intro n
    induction n with
    | zero => intro μ t x1 x2 H locs ls T hl h; unfold f_X8_product_b12 at h; cases h
    | succ n12 ih12 =>
      intro μ t x1 x2 H locs ls T hl h
      unfold f_X8_product_b12 at h
      refine lv_iload_n hx hb dX8_product_12 rfl (lv_at hl 2 rfl) ?_
      refine lv_sipush (v := 160) hx hb dX8_product_13 (by decide) ?_
      refine lv_icmp_ge (tgt := 54) hx hb dX8_product_16 (by decide) (fun c1 => ?_) (fun c1 => ?_)
      · replace h := ot_ c1 h
        refine lv_iconst (v := 1) hx hb dX8_product_54 (by decide) ?_
        obtain ⟨rfl, rfl⟩ := os2 h
        exact th_zret hQ C hr hk T (Nat.le_of_ble_eq_true rfl) (Nat.le_of_ble_eq_true rfl) dX8_product_55 rfl
      · replace h := of_ c1 h
        refine lv_aload_n hx hb dX8_product_19 rfl (lv_at hl 0 rfl) ?_
        obtain ⟨v2, e3, h⟩ := ob_ h
        refine g_RX8_41 C T e3 dX8_product_20 ?_
        refine lv_bipush (v := 42) hx hb dX8_product_23 (by decide) ?_
        refine lv_icmp_ne (tgt := 54) hx hb dX8_product_25 (by decide) (fun c4 => ?_) (fun c4 => ?_)
        · replace h := of_ c4 h
          refine lv_iconst (v := 1) hx hb dX8_product_54 (by decide) ?_
          obtain ⟨rfl, rfl⟩ := os2 h
          exact th_zret hQ C hr hk T (Nat.le_of_ble_eq_true rfl) (Nat.le_of_ble_eq_true rfl) dX8_product_55 rfl
        · replace h := ot_ c4 h
          refine lv_aload_n hx hb dX8_product_28 rfl (lv_at hl 0 rfl) ?_
          obtain ⟨k5, h⟩ := oc_ h
          obtain ⟨μ6, e7, h⟩ := ob_ h
          refine th_callV (As := []) (rest := []) C T (c_X8_step e7) k_RX8_31 8 rfl rfl (by decide) k5 rfl hl.1 rfl (st1 := []) rfl (cells1 := 0) rfl (slots1 := 0) rfl (Nat.le_of_ble_eq_true rfl) ⟨show 7 + 1 ≤ 9 + (d + 1) by omega, show 8 + (1 + 11) + 304 ≤ 345 + 23 * (d + 1) by omega⟩ ⟨Nat.le_of_ble_eq_true rfl, Nat.le_of_ble_eq_true rfl⟩ dX8_product_29 (fun H locs T => ?_)
          refine lv_aload_n hx hb dX8_product_32 rfl (lv_at hl 0 rfl) ?_
          refine lv_iload_n hx hb dX8_product_33 rfl (lv_at hl 1 rfl) ?_
          obtain ⟨v8, μ9, e10, h⟩ := ob2 h
          refine th_callV (As := [.int x1]) (rest := []) C T (ih_6_X8_either IH e10) k_RX8_80 8 rfl rfl (by decide) k5 rfl hl.1 rfl (st1 := [.int v8]) rfl (cells1 := 0) rfl (slots1 := 0) rfl (Nat.le_of_ble_eq_true rfl) ⟨show 9 + d + 1 ≤ 9 + (d + 1) by omega, show 8 + (2 + 11) + (345 + 23 * d) ≤ 345 + 23 * (d + 1) by omega⟩ ⟨Nat.le_of_ble_eq_true rfl, Nat.le_of_ble_eq_true rfl⟩ dX8_product_34 (fun H locs T => ?_)
          refine lv_if_ne (tgt := 42) hx hb dX8_product_37 (by decide) (fun c11 => ?_) (fun c11 => ?_)
          · replace h := of_ c11 h
            refine lv_aload_n hx hb dX8_product_42 rfl (lv_at hl 0 rfl) ?_
            refine lv_bipush (v := 42) hx hb dX8_product_43 (by decide) ?_
            obtain ⟨μ12, e13, h⟩ := ob_ h
            refine th_callV (As := [.int 42]) (rest := []) C T (c_X8_emit e13) k_RX8_64 8 rfl rfl (by decide) k5 rfl hl.1 rfl (st1 := []) rfl (cells1 := 0) rfl (slots1 := 0) rfl (Nat.le_of_ble_eq_true rfl) ⟨show 1 + 1 ≤ 9 + (d + 1) by omega, show 8 + (2 + 11) + 21 ≤ 345 + 23 * (d + 1) by omega⟩ ⟨Nat.le_of_ble_eq_true rfl, Nat.le_of_ble_eq_true rfl⟩ dX8_product_45 (fun H locs T => ?_)
            refine lv_iinc (v := x2 + 1) (lv' := [(2, .int (x2 + 1)), (0, .ref t), (1, .int x1)]) hx hb dX8_product_48 hl (k := 2) rfl rfl (by decide) rfl (fun ls hl => ?_)
            refine lv_goto (tgt := 12) hx hb dX8_product_51 (by decide) ?_
            exact ih12 _ _ _ _ _ _ _ T (lv_sub hl [1, 2, 0] rfl) h
          · replace h := ot_ c11 h
            refine lv_iconst (v := 0) hx hb dX8_product_40 (by decide) ?_
            obtain ⟨rfl, rfl⟩ := os2 h
            exact th_zret hQ C hr hk T (Nat.le_of_ble_eq_true rfl) (Nat.le_of_ble_eq_true rfl) dX8_product_41 rfl
  unfold fb_X8_product at h
  refine lv_aload_n hx hb dX8_product_0 rfl (lv_at hl 0 rfl) ?_
  refine lv_iload_n hx hb dX8_product_1 rfl (lv_at hl 1 rfl) ?_
  obtain ⟨k1, h⟩ := oc_ h
  obtain ⟨v2, μ3, e4, h⟩ := ob2 h
  refine th_callV (As := [.int x1]) (rest := []) C T (ih_6_X8_either IH e4) k_RX8_80 8 rfl rfl (by decide) k1 rfl hl.1 rfl (st1 := [.int v2]) rfl (cells1 := 0) rfl (slots1 := 0) rfl (Nat.le_of_ble_eq_true rfl) ⟨show 9 + d + 1 ≤ 9 + (d + 1) by omega, show 8 + (2 + 11) + (345 + 23 * d) ≤ 345 + 23 * (d + 1) by omega⟩ ⟨Nat.le_of_ble_eq_true rfl, Nat.le_of_ble_eq_true rfl⟩ dX8_product_2 (fun H locs T => ?_)
  refine lv_if_ne (tgt := 10) hx hb dX8_product_5 (by decide) (fun c5 => ?_) (fun c5 => ?_)
  · replace h := of_ c5 h
    refine lv_iconst (v := 0) hx hb dX8_product_10 (by decide) ?_
    refine lv_istore_n (lv' := [(2, .int 0), (0, .ref t), (1, .int x1)]) hx hb dX8_product_11 rfl hl (by decide) rfl (fun ls hl => ?_)
    exact J12 fu _ _ _ _ _ _ _ T (lv_sub hl [1, 2, 0] rfl) h
  · replace h := ot_ c5 h
    refine lv_iconst (v := 0) hx hb dX8_product_8 (by decide) ?_
    obtain ⟨rfl, rfl⟩ := os2 h
    exact th_zret hQ C hr hk T (Nat.le_of_ble_eq_true rfl) (Nat.le_of_ble_eq_true rfl) dX8_product_9 rfl
set_option maxRecDepth 100000 in
set_option maxHeartbeats 4000000 in
theorem cb_X8_single {l : Launch} {G : th_G} {σ : th_S} {μ : th_M} {t : Nat} {x1 : Int32} {r : Int32} {μ' : th_M} (d : Nat) (IH : IH_X8_either l G d) (h : fb_X8_single (f_scc_X8_either d) σ μ t x1 = some (r, μ')) : th_Met l G yX8_single cX8_single 2 (some FieldType.boolean) { frames := 9 + (d + 1), cells := 0, slots := 0, locals := 345 + 23 * (d + 1) } [.ref t, .int x1] σ μ (some (.int r)) σ μ' := by
  refine th_ofW (by decide +kernel) (Nat.le_of_ble_eq_true rfl) ?_
  intro p e s m args below meth c ls Q hQ C hr hk hnm T hl
  have hx := C.1
  have hb := C.2.1
  have C : CallFix p m c cX8_single 2 s args th_ws RX8 := C
  have hl : lv_has ls 2 [(0, .ref t), (1, .int x1)] := hl
  have J53 : ∀ (μ : th_M) (t : Nat) (x1 : Int32) (H : Heap) (locs : List Loc) (ls : Array Slot), th_R G s H locs σ μ → lv_has ls 2 [(0, .ref t), (1, .int x1)] → f_X8_single_b53 (f_scc_X8_either d) σ μ t x1 = some (r, μ') → W p l e { frames := 9 + (d + 1), cells := 0, slots := 0, locals := 345 + 23 * (d + 1) } s m args below meth c H locs 0 0 Q (F0 m 53 ls []) := by
    intro μ t x1 H locs ls T hl h
    unfold f_X8_single_b53 at h
    refine lv_iload_n hx hb dX8_single_53 rfl (lv_at hl 1 rfl) ?_
    refine lv_iconst (v := 5) hx hb dX8_single_54 (by decide) ?_
    refine lv_icmp_lt (tgt := 60) hx hb dX8_single_55 (by decide) (fun c1 => ?_) (fun c1 => ?_)
    · replace h := ot_ c1 h
      refine lv_aload_n hx hb dX8_single_60 rfl (lv_at hl 0 rfl) ?_
      obtain ⟨v2, e3, h⟩ := ob_ h
      refine g_RX8_41 C T e3 dX8_single_61 ?_
      refine lv_bipush (v := 45) hx hb dX8_single_64 (by decide) ?_
      refine lv_icmp_ne (tgt := 93) hx hb dX8_single_66 (by decide) (fun c4 => ?_) (fun c4 => ?_)
      · replace h := of_ c4 h
        refine lv_aload_n hx hb dX8_single_93 rfl (lv_at hl 0 rfl) ?_
        obtain ⟨v5, e6, h⟩ := ob_ h
        refine g_RX8_41 C T e6 dX8_single_94 ?_
        refine lv_bipush (v := 40) hx hb dX8_single_97 (by decide) ?_
        refine lv_icmp_eq (tgt := 104) hx hb dX8_single_99 (by decide) (fun c7 => ?_) (fun c7 => ?_)
        · replace h := ot_ c7 h
          refine lv_aload_n hx hb dX8_single_104 rfl (lv_at hl 0 rfl) ?_
          obtain ⟨k8, h⟩ := oc_ h
          obtain ⟨μ9, e10, h⟩ := ob_ h
          refine th_callV (As := []) (rest := []) C T (c_X8_step e10) k_RX8_31 8 rfl rfl (by decide) k8 rfl hl.1 rfl (st1 := []) rfl (cells1 := 0) rfl (slots1 := 0) rfl (Nat.le_of_ble_eq_true rfl) ⟨show 7 + 1 ≤ 9 + (d + 1) by omega, show 8 + (1 + 11) + 304 ≤ 345 + 23 * (d + 1) by omega⟩ ⟨Nat.le_of_ble_eq_true rfl, Nat.le_of_ble_eq_true rfl⟩ dX8_single_105 (fun H locs T => ?_)
          refine lv_aload_n hx hb dX8_single_108 rfl (lv_at hl 0 rfl) ?_
          refine lv_iload_n hx hb dX8_single_109 rfl (lv_at hl 1 rfl) ?_
          refine lv_iconst (v := 1) hx hb dX8_single_110 (by decide) ?_
          refine lv_iadd hx hb dX8_single_111 ?_
          obtain ⟨v11, μ12, e13, h⟩ := ob2 h
          refine th_callV (As := [.int (x1 + 1)]) (rest := []) C T (ih_0_X8_either IH e13) k_RX8_58 8 rfl rfl (by decide) k8 rfl hl.1 rfl (st1 := [.int v11]) rfl (cells1 := 0) rfl (slots1 := 0) rfl (Nat.le_of_ble_eq_true rfl) ⟨show 9 + d + 1 ≤ 9 + (d + 1) by omega, show 8 + (3 + 11) + (345 + 23 * d) ≤ 345 + 23 * (d + 1) by omega⟩ ⟨Nat.le_of_ble_eq_true rfl, Nat.le_of_ble_eq_true rfl⟩ dX8_single_112 (fun H locs T => ?_)
          refine lv_if_eq (tgt := 131) hx hb dX8_single_115 (by decide) (fun c14 => ?_) (fun c14 => ?_)
          · replace h := ot_ c14 h
            refine lv_iconst (v := 0) hx hb dX8_single_131 (by decide) ?_
            obtain ⟨rfl, rfl⟩ := os2 h
            exact th_zret hQ C hr hk T (Nat.le_of_ble_eq_true rfl) (Nat.le_of_ble_eq_true rfl) dX8_single_132 rfl
          · replace h := of_ c14 h
            refine lv_aload_n hx hb dX8_single_118 rfl (lv_at hl 0 rfl) ?_
            refine lv_bipush (v := 41) hx hb dX8_single_119 (by decide) ?_
            obtain ⟨v15, μ16, e17, h⟩ := ob2 h
            refine th_callV (As := [.int 41]) (rest := []) C T (c_X8_skip e17) k_RX8_55 8 rfl rfl (by decide) k8 rfl hl.1 rfl (st1 := [.int v15]) rfl (cells1 := 0) rfl (slots1 := 0) rfl (Nat.le_of_ble_eq_true rfl) ⟨show 8 + 1 ≤ 9 + (d + 1) by omega, show 8 + (2 + 11) + 324 ≤ 345 + 23 * (d + 1) by omega⟩ ⟨Nat.le_of_ble_eq_true rfl, Nat.le_of_ble_eq_true rfl⟩ dX8_single_121 (fun H locs T => ?_)
            refine lv_if_eq (tgt := 131) hx hb dX8_single_124 (by decide) (fun c18 => ?_) (fun c18 => ?_)
            · replace h := ot_ c18 h
              refine lv_iconst (v := 0) hx hb dX8_single_131 (by decide) ?_
              obtain ⟨rfl, rfl⟩ := os2 h
              exact th_zret hQ C hr hk T (Nat.le_of_ble_eq_true rfl) (Nat.le_of_ble_eq_true rfl) dX8_single_132 rfl
            · replace h := of_ c18 h
              refine lv_iconst (v := 1) hx hb dX8_single_127 (by decide) ?_
              refine lv_goto (tgt := 132) hx hb dX8_single_128 (by decide) ?_
              obtain ⟨rfl, rfl⟩ := os2 h
              exact th_zret hQ C hr hk T (Nat.le_of_ble_eq_true rfl) (Nat.le_of_ble_eq_true rfl) dX8_single_132 rfl
        · replace h := of_ c7 h
          refine lv_iconst (v := 0) hx hb dX8_single_102 (by decide) ?_
          obtain ⟨rfl, rfl⟩ := os2 h
          exact th_zret hQ C hr hk T (Nat.le_of_ble_eq_true rfl) (Nat.le_of_ble_eq_true rfl) dX8_single_103 rfl
      · replace h := ot_ c4 h
        refine lv_aload_n hx hb dX8_single_69 rfl (lv_at hl 0 rfl) ?_
        obtain ⟨k19, h⟩ := oc_ h
        obtain ⟨μ20, e21, h⟩ := ob_ h
        refine th_callV (As := []) (rest := []) C T (c_X8_step e21) k_RX8_31 8 rfl rfl (by decide) k19 rfl hl.1 rfl (st1 := []) rfl (cells1 := 0) rfl (slots1 := 0) rfl (Nat.le_of_ble_eq_true rfl) ⟨show 7 + 1 ≤ 9 + (d + 1) by omega, show 8 + (1 + 11) + 304 ≤ 345 + 23 * (d + 1) by omega⟩ ⟨Nat.le_of_ble_eq_true rfl, Nat.le_of_ble_eq_true rfl⟩ dX8_single_70 (fun H locs T => ?_)
        refine lv_aload_n hx hb dX8_single_73 rfl (lv_at hl 0 rfl) ?_
        refine lv_iload_n hx hb dX8_single_74 rfl (lv_at hl 1 rfl) ?_
        refine lv_iconst (v := 1) hx hb dX8_single_75 (by decide) ?_
        refine lv_iadd hx hb dX8_single_76 ?_
        obtain ⟨v22, μ23, e24, h⟩ := ob2 h
        refine th_callV (As := [.int (x1 + 1)]) (rest := []) C T (ih_6_X8_either IH e24) k_RX8_80 8 rfl rfl (by decide) k19 rfl hl.1 rfl (st1 := [.int v22]) rfl (cells1 := 0) rfl (slots1 := 0) rfl (Nat.le_of_ble_eq_true rfl) ⟨show 9 + d + 1 ≤ 9 + (d + 1) by omega, show 8 + (2 + 11) + (345 + 23 * d) ≤ 345 + 23 * (d + 1) by omega⟩ ⟨Nat.le_of_ble_eq_true rfl, Nat.le_of_ble_eq_true rfl⟩ dX8_single_77 (fun H locs T => ?_)
        refine lv_if_ne (tgt := 85) hx hb dX8_single_80 (by decide) (fun c25 => ?_) (fun c25 => ?_)
        · replace h := of_ c25 h
          refine lv_aload_n hx hb dX8_single_85 rfl (lv_at hl 0 rfl) ?_
          refine lv_bipush (v := 13) hx hb dX8_single_86 (by decide) ?_
          obtain ⟨μ26, e27, h⟩ := ob_ h
          refine th_callV (As := [.int 13]) (rest := []) C T (c_X8_emit e27) k_RX8_64 8 rfl rfl (by decide) k19 rfl hl.1 rfl (st1 := []) rfl (cells1 := 0) rfl (slots1 := 0) rfl (Nat.le_of_ble_eq_true rfl) ⟨show 1 + 1 ≤ 9 + (d + 1) by omega, show 8 + (2 + 11) + 21 ≤ 345 + 23 * (d + 1) by omega⟩ ⟨Nat.le_of_ble_eq_true rfl, Nat.le_of_ble_eq_true rfl⟩ dX8_single_88 (fun H locs T => ?_)
          refine lv_iconst (v := 1) hx hb dX8_single_91 (by decide) ?_
          obtain ⟨rfl, rfl⟩ := os2 h
          exact th_zret hQ C hr hk T (Nat.le_of_ble_eq_true rfl) (Nat.le_of_ble_eq_true rfl) dX8_single_92 rfl
        · replace h := ot_ c25 h
          refine lv_iconst (v := 0) hx hb dX8_single_83 (by decide) ?_
          obtain ⟨rfl, rfl⟩ := os2 h
          exact th_zret hQ C hr hk T (Nat.le_of_ble_eq_true rfl) (Nat.le_of_ble_eq_true rfl) dX8_single_84 rfl
    · replace h := of_ c1 h
      refine lv_iconst (v := 0) hx hb dX8_single_58 (by decide) ?_
      obtain ⟨rfl, rfl⟩ := os2 h
      exact th_zret hQ C hr hk T (Nat.le_of_ble_eq_true rfl) (Nat.le_of_ble_eq_true rfl) dX8_single_59 rfl
  unfold fb_X8_single at h
  refine lv_aload_n hx hb dX8_single_0 rfl (lv_at hl 0 rfl) ?_
  obtain ⟨v1, e2, h⟩ := ob_ h
  refine g_RX8_41 C T e2 dX8_single_1 ?_
  refine lv_bipush (v := 12) hx hb dX8_single_4 (by decide) ?_
  refine lv_icmp_ne (tgt := 23) hx hb dX8_single_6 (by decide) (fun c3 => ?_) (fun c3 => ?_)
  · replace h := of_ c3 h
    refine lv_aload_n hx hb dX8_single_23 rfl (lv_at hl 0 rfl) ?_
    obtain ⟨v4, e5, h⟩ := ob_ h
    refine g_RX8_41 C T e5 dX8_single_24 ?_
    refine lv_if_lt (tgt := 53) hx hb dX8_single_27 (by decide) (fun c6 => ?_) (fun c6 => ?_)
    · replace h := ot_ c6 h
      exact J53 _ _ _ _ _ _ T (lv_sub hl [0, 1] rfl) h
    · replace h := of_ c6 h
      refine lv_aload_n hx hb dX8_single_30 rfl (lv_at hl 0 rfl) ?_
      obtain ⟨v7, e8, h⟩ := ob_ h
      refine g_RX8_41 C T e8 dX8_single_31 ?_
      refine lv_bipush (v := 6) hx hb dX8_single_34 (by decide) ?_
      refine lv_icmp_ge (tgt := 53) hx hb dX8_single_36 (by decide) (fun c9 => ?_) (fun c9 => ?_)
      · replace h := ot_ c9 h
        exact J53 _ _ _ _ _ _ T (lv_sub hl [0, 1] rfl) h
      · replace h := of_ c9 h
        refine lv_aload_n hx hb dX8_single_39 rfl (lv_at hl 0 rfl) ?_
        refine lv_aload_n hx hb dX8_single_40 rfl (lv_at hl 0 rfl) ?_
        obtain ⟨v10, e11, h⟩ := ob_ h
        refine g_RX8_41 C T e11 dX8_single_41 ?_
        obtain ⟨k12, h⟩ := oc_ h
        obtain ⟨μ13, e14, h⟩ := ob_ h
        refine th_callV (As := [.int v10]) (rest := []) C T (c_X8_emit e14) k_RX8_64 8 rfl rfl (by decide) k12 rfl hl.1 rfl (st1 := []) rfl (cells1 := 0) rfl (slots1 := 0) rfl (Nat.le_of_ble_eq_true rfl) ⟨show 1 + 1 ≤ 9 + (d + 1) by omega, show 8 + (2 + 11) + 21 ≤ 345 + 23 * (d + 1) by omega⟩ ⟨Nat.le_of_ble_eq_true rfl, Nat.le_of_ble_eq_true rfl⟩ dX8_single_44 (fun H locs T => ?_)
        refine lv_aload_n hx hb dX8_single_47 rfl (lv_at hl 0 rfl) ?_
        obtain ⟨μ15, e16, h⟩ := ob_ h
        refine th_callV (As := []) (rest := []) C T (c_X8_step e16) k_RX8_31 8 rfl rfl (by decide) k12 rfl hl.1 rfl (st1 := []) rfl (cells1 := 0) rfl (slots1 := 0) rfl (Nat.le_of_ble_eq_true rfl) ⟨show 7 + 1 ≤ 9 + (d + 1) by omega, show 8 + (1 + 11) + 304 ≤ 345 + 23 * (d + 1) by omega⟩ ⟨Nat.le_of_ble_eq_true rfl, Nat.le_of_ble_eq_true rfl⟩ dX8_single_48 (fun H locs T => ?_)
        refine lv_iconst (v := 1) hx hb dX8_single_51 (by decide) ?_
        obtain ⟨rfl, rfl⟩ := os2 h
        exact th_zret hQ C hr hk T (Nat.le_of_ble_eq_true rfl) (Nat.le_of_ble_eq_true rfl) dX8_single_52 rfl
  · replace h := ot_ c3 h
    refine lv_aload_n hx hb dX8_single_9 rfl (lv_at hl 0 rfl) ?_
    refine lv_aload_n hx hb dX8_single_10 rfl (lv_at hl 0 rfl) ?_
    obtain ⟨v17, e18, h⟩ := ob_ h
    refine g_RX8_83 C T e18 dX8_single_11 ?_
    obtain ⟨k19, h⟩ := oc_ h
    obtain ⟨μ20, e21, h⟩ := ob_ h
    refine th_callV (As := [.int v17]) (rest := []) C T (c_X8_put e21) k_RX8_86 8 rfl rfl (by decide) k19 rfl hl.1 rfl (st1 := []) rfl (cells1 := 0) rfl (slots1 := 0) rfl (Nat.le_of_ble_eq_true rfl) ⟨show 0 + 1 ≤ 9 + (d + 1) by omega, show 8 + (2 + 11) + 0 ≤ 345 + 23 * (d + 1) by omega⟩ ⟨Nat.le_of_ble_eq_true rfl, Nat.le_of_ble_eq_true rfl⟩ dX8_single_14 (fun H locs T => ?_)
    refine lv_aload_n hx hb dX8_single_17 rfl (lv_at hl 0 rfl) ?_
    obtain ⟨μ22, e23, h⟩ := ob_ h
    refine th_callV (As := []) (rest := []) C T (c_X8_step e23) k_RX8_31 8 rfl rfl (by decide) k19 rfl hl.1 rfl (st1 := []) rfl (cells1 := 0) rfl (slots1 := 0) rfl (Nat.le_of_ble_eq_true rfl) ⟨show 7 + 1 ≤ 9 + (d + 1) by omega, show 8 + (1 + 11) + 304 ≤ 345 + 23 * (d + 1) by omega⟩ ⟨Nat.le_of_ble_eq_true rfl, Nat.le_of_ble_eq_true rfl⟩ dX8_single_18 (fun H locs T => ?_)
    refine lv_iconst (v := 1) hx hb dX8_single_21 (by decide) ?_
    obtain ⟨rfl, rfl⟩ := os2 h
    exact th_zret hQ C hr hk T (Nat.le_of_ble_eq_true rfl) (Nat.le_of_ble_eq_true rfl) dX8_single_22 rfl
set_option maxRecDepth 100000 in
set_option maxHeartbeats 4000000 in
theorem IHall_X8_either (l : Launch) (G : th_G) : ∀ d, IH_X8_either l G d := by
  intro d
  induction d with
  | zero => exact ⟨(fun σ μ t x1 r μ' h => by unfold f_scc_X8_either at h; cases h), (fun σ μ t x1 r μ' h => by unfold f_scc_X8_either at h; cases h), (fun σ μ t x1 r μ' h => by unfold f_scc_X8_either at h; cases h), (fun σ μ t x1 r μ' h => by unfold f_scc_X8_either at h; cases h), (fun σ μ t x1 r μ' h => by unfold f_scc_X8_either at h; cases h), (fun σ μ t x1 r μ' h => by unfold f_scc_X8_either at h; cases h), (fun σ μ t x1 r μ' h => by unfold f_scc_X8_either at h; cases h)⟩
  | succ d IH => exact ⟨(fun σ μ t x1 r μ' h => by unfold f_scc_X8_either at h; replace h := ot_ rfl h; exact cb_X8_either d IH h),
      (fun σ μ t x1 r μ' h => by unfold f_scc_X8_either at h; replace h := of_ (by decide) h; replace h := ot_ rfl h; exact cb_X8_both d IH h),
      (fun σ μ t x1 r μ' h => by unfold f_scc_X8_either at h; replace h := of_ (by decide) h; replace h := of_ (by decide) h; replace h := ot_ rfl h; exact cb_X8_denied d IH h),
      (fun σ μ t x1 r μ' h => by unfold f_scc_X8_either at h; replace h := of_ (by decide) h; replace h := of_ (by decide) h; replace h := of_ (by decide) h; replace h := ot_ rfl h; exact cb_X8_compared d IH h),
      (fun σ μ t x1 r μ' h => by unfold f_scc_X8_either at h; replace h := of_ (by decide) h; replace h := of_ (by decide) h; replace h := of_ (by decide) h; replace h := of_ (by decide) h; replace h := ot_ rfl h; exact cb_X8_sum d IH h),
      (fun σ μ t x1 r μ' h => by unfold f_scc_X8_either at h; replace h := of_ (by decide) h; replace h := of_ (by decide) h; replace h := of_ (by decide) h; replace h := of_ (by decide) h; replace h := of_ (by decide) h; replace h := ot_ rfl h; exact cb_X8_product d IH h),
      (fun σ μ t x1 r μ' h => by unfold f_scc_X8_either at h; replace h := of_ (by decide) h; replace h := of_ (by decide) h; replace h := of_ (by decide) h; replace h := of_ (by decide) h; replace h := of_ (by decide) h; replace h := of_ (by decide) h; exact cb_X8_single d IH h)⟩
theorem c_X8_either {l : Launch} {G : th_G} {σ : th_S} {μ : th_M} {t : Nat} {x1 : Int32} {r : Int32} {μ' : th_M} (h : f_X8_either σ μ t x1 = some (r, μ')) : th_Met l G yX8_either cX8_either 3 (some FieldType.boolean) { frames := 9 + 64, cells := 0, slots := 0, locals := 345 + 23 * 64 } [.ref t, .int x1] σ μ (some (.int r)) σ μ' := ih_0_X8_either (IHall_X8_either l G 64) h
theorem c_X8_both {l : Launch} {G : th_G} {σ : th_S} {μ : th_M} {t : Nat} {x1 : Int32} {r : Int32} {μ' : th_M} (h : f_X8_both σ μ t x1 = some (r, μ')) : th_Met l G yX8_both cX8_both 3 (some FieldType.boolean) { frames := 9 + 64, cells := 0, slots := 0, locals := 345 + 23 * 64 } [.ref t, .int x1] σ μ (some (.int r)) σ μ' := ih_1_X8_either (IHall_X8_either l G 64) h
theorem c_X8_denied {l : Launch} {G : th_G} {σ : th_S} {μ : th_M} {t : Nat} {x1 : Int32} {r : Int32} {μ' : th_M} (h : f_X8_denied σ μ t x1 = some (r, μ')) : th_Met l G yX8_denied cX8_denied 2 (some FieldType.boolean) { frames := 9 + 64, cells := 0, slots := 0, locals := 345 + 23 * 64 } [.ref t, .int x1] σ μ (some (.int r)) σ μ' := ih_2_X8_either (IHall_X8_either l G 64) h
theorem c_X8_compared {l : Launch} {G : th_G} {σ : th_S} {μ : th_M} {t : Nat} {x1 : Int32} {r : Int32} {μ' : th_M} (h : f_X8_compared σ μ t x1 = some (r, μ')) : th_Met l G yX8_compared cX8_compared 3 (some FieldType.boolean) { frames := 9 + 64, cells := 0, slots := 0, locals := 345 + 23 * 64 } [.ref t, .int x1] σ μ (some (.int r)) σ μ' := ih_3_X8_either (IHall_X8_either l G 64) h
theorem c_X8_sum {l : Launch} {G : th_G} {σ : th_S} {μ : th_M} {t : Nat} {x1 : Int32} {r : Int32} {μ' : th_M} (h : f_X8_sum σ μ t x1 = some (r, μ')) : th_Met l G yX8_sum cX8_sum 4 (some FieldType.boolean) { frames := 9 + 64, cells := 0, slots := 0, locals := 345 + 23 * 64 } [.ref t, .int x1] σ μ (some (.int r)) σ μ' := ih_4_X8_either (IHall_X8_either l G 64) h
theorem c_X8_product {l : Launch} {G : th_G} {σ : th_S} {μ : th_M} {t : Nat} {x1 : Int32} {r : Int32} {μ' : th_M} (h : f_X8_product σ μ t x1 = some (r, μ')) : th_Met l G yX8_product cX8_product 3 (some FieldType.boolean) { frames := 9 + 64, cells := 0, slots := 0, locals := 345 + 23 * 64 } [.ref t, .int x1] σ μ (some (.int r)) σ μ' := ih_5_X8_either (IHall_X8_either l G 64) h
theorem c_X8_single {l : Launch} {G : th_G} {σ : th_S} {μ : th_M} {t : Nat} {x1 : Int32} {r : Int32} {μ' : th_M} (h : f_X8_single σ μ t x1 = some (r, μ')) : th_Met l G yX8_single cX8_single 2 (some FieldType.boolean) { frames := 9 + 64, cells := 0, slots := 0, locals := 345 + 23 * 64 } [.ref t, .int x1] σ μ (some (.int r)) σ μ' := ih_6_X8_either (IHall_X8_either l G 64) h
