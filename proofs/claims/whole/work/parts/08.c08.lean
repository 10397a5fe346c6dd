set_option maxRecDepth 100000 in
set_option maxHeartbeats 4000000 in
theorem c_X10_taken {l : Launch} {G : th_G} {σ : th_S} {μ : th_M} {t : Nat} {x1 : Int32} {x2 : Int32} {r : Int32} (h : f_X10_taken σ μ t x1 x2 = some r) : th_Met l G yX10_taken cX10_taken 3 (some FieldType.int) { frames := 1, cells := 0, slots := 0, locals := 21 } [.ref t, .int x1, .int x2] σ μ (some (.int r)) σ μ := by
  refine th_ofW (by decide +kernel) (Nat.le_of_ble_eq_true rfl) ?_
  intro p e s m args below meth c ls Q hQ C hr hk hnm T hl
  have hx := C.1
  have hb := C.2.1
  have C : CallFix p m c cX10_taken 3 s args th_ws RX10 := C
  have hl : lv_has ls 3 [(0, .ref t), (1, .int x1), (2, .int x2)] := hl
  unfold f_X10_taken at h
  refine lv_iload_n hx hb dX10_taken_0 rfl (lv_at hl 2 rfl) ?_
  refine lv_if_lt (tgt := 9) hx hb dX10_taken_1 (by decide) (fun c1 => ?_) (fun c1 => ?_)
  · replace h := ot_ c1 h
    refine lv_bipush (v := -2) hx hb dX10_taken_9 (by decide) ?_
    obtain rfl := os1 h
    exact th_iret hQ C hr hk T (Nat.le_of_ble_eq_true rfl) (Nat.le_of_ble_eq_true rfl) dX10_taken_11
  · replace h := of_ c1 h
    refine lv_iload_n hx hb dX10_taken_4 rfl (lv_at hl 2 rfl) ?_
    refine lv_iconst (v := 5) hx hb dX10_taken_5 (by decide) ?_
    refine lv_icmp_le (tgt := 12) hx hb dX10_taken_6 (by decide) (fun c2 => ?_) (fun c2 => ?_)
    · replace h := ot_ c2 h
      refine lv_aload_n hx hb dX10_taken_12 rfl (lv_at hl 0 rfl) ?_
      refine lv_iload_n hx hb dX10_taken_13 rfl (lv_at hl 1 rfl) ?_
      obtain ⟨k3, h⟩ := oc_ h
      obtain ⟨v4, e5, h⟩ := ob_ h
      refine th_callV (As := [.int x1]) (rest := []) C T (c_X10_isBoat e5) k_RX10_99 10 rfl rfl (by decide) k3 rfl hl.1 rfl (st1 := [.int v4]) rfl (cells1 := 0) rfl (slots1 := 0) rfl (Nat.le_of_ble_eq_true rfl) ⟨Nat.le_of_ble_eq_true rfl, Nat.le_of_ble_eq_true rfl⟩ ⟨Nat.le_of_ble_eq_true rfl, Nat.le_of_ble_eq_true rfl⟩ dX10_taken_14 (fun H locs T => ?_)
      refine lv_if_ne (tgt := 23) hx hb dX10_taken_17 (by decide) (fun c6 => ?_) (fun c6 => ?_)
      · replace h := of_ c6 h
        refine lv_aload_n hx hb dX10_taken_23 rfl (lv_at hl 0 rfl) ?_
        obtain ⟨a7, e8, h⟩ := ob_ h
        refine g_RX10_11 C T e8 dX10_taken_24 ?_
        refine lv_iload_n hx hb dX10_taken_27 rfl (lv_at hl 1 rfl) ?_
        obtain ⟨a9, e10, h⟩ := ob_ h
        refine th_aald C T 13 e10 (by decide) rfl dX10_taken_28 ?_
        refine lv_iload_n hx hb dX10_taken_29 rfl (lv_at hl 2 rfl) ?_
        obtain ⟨v11, e12, h⟩ := ob_ h
        refine th_callS (As := [.ref a9, .int x2]) (rest := []) C T (c_X10_isOf e12) k_RX10_306 rfl hl.1 rfl (st1 := [.int v11]) rfl (cells1 := 0) rfl (slots1 := 0) rfl (Nat.le_of_ble_eq_true rfl) ⟨Nat.le_of_ble_eq_true rfl, Nat.le_of_ble_eq_true rfl⟩ ⟨Nat.le_of_ble_eq_true rfl, Nat.le_of_ble_eq_true rfl⟩ dX10_taken_30 (fun H locs T => ?_)
        refine lv_if_eq (tgt := 50) hx hb dX10_taken_33 (by decide) (fun c13 => ?_) (fun c13 => ?_)
        · replace h := ot_ c13 h
          refine lv_bipush (v := -13) hx hb dX10_taken_50 (by decide) ?_
          obtain rfl := os1 h
          exact th_iret hQ C hr hk T (Nat.le_of_ble_eq_true rfl) (Nat.le_of_ble_eq_true rfl) dX10_taken_52
        · replace h := of_ c13 h
          refine lv_aload_n hx hb dX10_taken_36 rfl (lv_at hl 0 rfl) ?_
          obtain ⟨a14, e15, h⟩ := ob_ h
          refine g_RX10_11 C T e15 dX10_taken_37 ?_
          refine lv_iload_n hx hb dX10_taken_40 rfl (lv_at hl 1 rfl) ?_
          obtain ⟨a16, e17, h⟩ := ob_ h
          refine th_aald C T 13 e17 (by decide) rfl dX10_taken_41 ?_
          obtain ⟨a18, e19, h⟩ := ob_ h
          refine g_RX10_102 C T e19 dX10_taken_42 ?_
          refine lv_iconst (v := 3) hx hb dX10_taken_45 (by decide) ?_
          obtain ⟨v20, e21, h⟩ := ob_ h
          refine th_ialdn C T e21 (by decide) (by decide) dX10_taken_46 ?_
          refine lv_goto (tgt := 52) hx hb dX10_taken_47 (by decide) ?_
          obtain rfl := os1 h
          exact th_iret hQ C hr hk T (Nat.le_of_ble_eq_true rfl) (Nat.le_of_ble_eq_true rfl) dX10_taken_52
      · replace h := ot_ c6 h
        refine lv_bipush (v := -11) hx hb dX10_taken_20 (by decide) ?_
        obtain rfl := os1 h
        exact th_iret hQ C hr hk T (Nat.le_of_ble_eq_true rfl) (Nat.le_of_ble_eq_true rfl) dX10_taken_22
    · replace h := of_ c2 h
      refine lv_bipush (v := -2) hx hb dX10_taken_9 (by decide) ?_
      obtain rfl := os1 h
      exact th_iret hQ C hr hk T (Nat.le_of_ble_eq_true rfl) (Nat.le_of_ble_eq_true rfl) dX10_taken_11
set_option maxRecDepth 100000 in
set_option maxHeartbeats 4000000 in
theorem c_X11_within {l : Launch} {G : th_G} {σ : th_S} {μ : th_M} {x0 : Int32} {x1 : Int32} {x2 : Int32} {r : Int32} (h : f_X11_within x0 x1 x2 = some r) : th_Met l G yX11_within cX11_within 3 (some FieldType.boolean) { frames := 0, cells := 0, slots := 0, locals := 0 } [.int x0, .int x1, .int x2] σ μ (some (.int r)) σ μ := by
  refine th_ofW (by decide +kernel) (Nat.le_of_ble_eq_true rfl) ?_
  intro p e s m args below meth c ls Q hQ C hr hk hnm T hl
  have hx := C.1
  have hb := C.2.1
  have C : CallFix p m c cX11_within 3 s args th_ws RX11 := C
  have hl : lv_has ls 3 [(0, .int x0), (1, .int x1), (2, .int x2)] := hl
  unfold f_X11_within at h
  refine lv_iload_n hx hb dX11_within_0 rfl (lv_at hl 0 rfl) ?_
  refine lv_iload_n hx hb dX11_within_1 rfl (lv_at hl 1 rfl) ?_
  refine lv_icmp_lt (tgt := 14) hx hb dX11_within_2 (by decide) (fun c1 => ?_) (fun c1 => ?_)
  · replace h := ot_ c1 h
    refine lv_iconst (v := 0) hx hb dX11_within_14 (by decide) ?_
    obtain rfl := os1 h
    exact th_zret hQ C hr hk T (Nat.le_of_ble_eq_true rfl) (Nat.le_of_ble_eq_true rfl) dX11_within_15 rfl
  · replace h := of_ c1 h
    refine lv_iload_n hx hb dX11_within_5 rfl (lv_at hl 0 rfl) ?_
    refine lv_iload_n hx hb dX11_within_6 rfl (lv_at hl 2 rfl) ?_
    refine lv_icmp_gt (tgt := 14) hx hb dX11_within_7 (by decide) (fun c2 => ?_) (fun c2 => ?_)
    · replace h := ot_ c2 h
      refine lv_iconst (v := 0) hx hb dX11_within_14 (by decide) ?_
      obtain rfl := os1 h
      exact th_zret hQ C hr hk T (Nat.le_of_ble_eq_true rfl) (Nat.le_of_ble_eq_true rfl) dX11_within_15 rfl
    · replace h := of_ c2 h
      refine lv_iconst (v := 1) hx hb dX11_within_10 (by decide) ?_
      refine lv_goto (tgt := 15) hx hb dX11_within_11 (by decide) ?_
      obtain rfl := os1 h
      exact th_zret hQ C hr hk T (Nat.le_of_ble_eq_true rfl) (Nat.le_of_ble_eq_true rfl) dX11_within_15 rfl
set_option maxRecDepth 100000 in
set_option maxHeartbeats 4000000 in
theorem c_X11_feed {l : Launch} {G : th_G} {σ : th_S} {μ : th_M} {t : Nat} {x1 : Int32} {r : Int32} {μ' : th_M} (h : f_X11_feed σ μ t x1 = some (r, μ')) : th_Met l G yX11_feed cX11_feed 2 (some FieldType.int) { frames := 1, cells := 0, slots := 0, locals := 22 } [.ref t, .int x1] σ μ (some (.int r)) σ μ' := by
  refine th_ofW (by decide +kernel) (Nat.le_of_ble_eq_true rfl) ?_
  intro p e s m args below meth c ls Q hQ C hr hk hnm T hl
  have hx := C.1
  have hb := C.2.1
  have C : CallFix p m c cX11_feed 2 s args th_ws RX11 := C
  have hl : lv_has ls 2 [(0, .ref t), (1, .int x1)] := hl
  unfold f_X11_feed at h
  refine lv_iload_n hx hb dX11_feed_0 rfl (lv_at hl 1 rfl) ?_
  refine lv_iconst (v := 0) hx hb dX11_feed_1 (by decide) ?_
  refine lv_sipush (v := 255) hx hb dX11_feed_2 (by decide) ?_
  obtain ⟨v1, e2, h⟩ := ob_ h
  refine th_callS (As := [.int x1, .int 0, .int 255]) (rest := []) C T (c_X11_within e2) k_RX11_102 rfl hl.1 rfl (st1 := [.int v1]) rfl (cells1 := 0) rfl (slots1 := 0) rfl (Nat.le_of_ble_eq_true rfl) ⟨Nat.le_of_ble_eq_true rfl, Nat.le_of_ble_eq_true rfl⟩ ⟨Nat.le_of_ble_eq_true rfl, Nat.le_of_ble_eq_true rfl⟩ dX11_feed_5 (fun H locs T => ?_)
  refine lv_if_ne (tgt := 14) hx hb dX11_feed_8 (by decide) (fun c3 => ?_) (fun c3 => ?_)
  · replace h := of_ c3 h
    refine lv_aload_n hx hb dX11_feed_14 rfl (lv_at hl 0 rfl) ?_
    obtain ⟨v4, e5, h⟩ := ob_ h
    refine g_RX11_156 C T e5 dX11_feed_15 ?_
    refine lv_sipush (v := 160) hx hb dX11_feed_18 (by decide) ?_
    refine lv_icmp_ne (tgt := 27) hx hb dX11_feed_21 (by decide) (fun c6 => ?_) (fun c6 => ?_)
    · replace h := of_ c6 h
      refine lv_aload_n hx hb dX11_feed_27 rfl (lv_at hl 0 rfl) ?_
      obtain ⟨a7, e8, h⟩ := ob_ h
      refine g_RX11_31 C T e8 dX11_feed_28 ?_
      refine lv_aload_n hx hb dX11_feed_31 rfl (lv_at hl 0 rfl) ?_
      refine lv_dup hx hb dX11_feed_32 rfl ?_
      obtain ⟨v9, e10, h⟩ := ob_ h
      refine g_RX11_156 C T e10 dX11_feed_33 ?_
      refine lv_dup_x1 hx hb dX11_feed_36 rfl rfl ?_
      refine lv_iconst (v := 1) hx hb dX11_feed_37 (by decide) ?_
      refine lv_iadd hx hb dX11_feed_38 ?_
      obtain ⟨μ11, e12, h⟩ := ob_ h
      refine p_RX11_156 C T e12 dX11_feed_39 (fun H locs T => ?_)
      refine lv_iload_n hx hb dX11_feed_42 rfl (lv_at hl 1 rfl) ?_
      obtain ⟨μ13, e14, h⟩ := ob_ h
      refine th_iast C T e14 dX11_feed_43 (fun H locs T => ?_)
      refine lv_aload_n hx hb dX11_feed_44 rfl (lv_at hl 0 rfl) ?_
      obtain ⟨v15, e16, h⟩ := ob_ h
      refine g_RX11_156 C T e16 dX11_feed_45 ?_
      obtain ⟨rfl, rfl⟩ := os2 h
      exact th_iret hQ C hr hk T (Nat.le_of_ble_eq_true rfl) (Nat.le_of_ble_eq_true rfl) dX11_feed_48
    · replace h := ot_ c6 h
      refine lv_bipush (v := -4) hx hb dX11_feed_24 (by decide) ?_
      obtain ⟨rfl, rfl⟩ := os2 h
      exact th_iret hQ C hr hk T (Nat.le_of_ble_eq_true rfl) (Nat.le_of_ble_eq_true rfl) dX11_feed_26
  · replace h := ot_ c3 h
    refine lv_bipush (v := -2) hx hb dX11_feed_11 (by decide) ?_
    obtain ⟨rfl, rfl⟩ := os2 h
    exact th_iret hQ C hr hk T (Nat.le_of_ble_eq_true rfl) (Nat.le_of_ble_eq_true rfl) dX11_feed_13
set_option maxRecDepth 100000 in
set_option maxHeartbeats 4000000 in
theorem c_X11_isDigit {l : Launch} {G : th_G} {σ : th_S} {μ : th_M} {x0 : Int32} {r : Int32} (h : f_X11_isDigit x0 = some r) : th_Met l G yX11_isDigit cX11_isDigit 1 (some FieldType.boolean) { frames := 0, cells := 0, slots := 0, locals := 0 } [.int x0] σ μ (some (.int r)) σ μ := by
  refine th_ofW (by decide +kernel) (Nat.le_of_ble_eq_true rfl) ?_
  intro p e s m args below meth c ls Q hQ C hr hk hnm T hl
  have hx := C.1
  have hb := C.2.1
  have C : CallFix p m c cX11_isDigit 1 s args th_ws RX11 := C
  have hl : lv_has ls 1 [(0, .int x0)] := hl
  unfold f_X11_isDigit at h
  refine lv_iload_n hx hb dX11_isDigit_0 rfl (lv_at hl 0 rfl) ?_
  refine lv_bipush (v := 48) hx hb dX11_isDigit_1 (by decide) ?_
  refine lv_icmp_lt (tgt := 16) hx hb dX11_isDigit_3 (by decide) (fun c1 => ?_) (fun c1 => ?_)
  · replace h := ot_ c1 h
    refine lv_iconst (v := 0) hx hb dX11_isDigit_16 (by decide) ?_
    obtain rfl := os1 h
    exact th_zret hQ C hr hk T (Nat.le_of_ble_eq_true rfl) (Nat.le_of_ble_eq_true rfl) dX11_isDigit_17 rfl
  · replace h := of_ c1 h
    refine lv_iload_n hx hb dX11_isDigit_6 rfl (lv_at hl 0 rfl) ?_
    refine lv_bipush (v := 57) hx hb dX11_isDigit_7 (by decide) ?_
    refine lv_icmp_gt (tgt := 16) hx hb dX11_isDigit_9 (by decide) (fun c2 => ?_) (fun c2 => ?_)
    · replace h := ot_ c2 h
      refine lv_iconst (v := 0) hx hb dX11_isDigit_16 (by decide) ?_
      obtain rfl := os1 h
      exact th_zret hQ C hr hk T (Nat.le_of_ble_eq_true rfl) (Nat.le_of_ble_eq_true rfl) dX11_isDigit_17 rfl
    · replace h := of_ c2 h
      refine lv_iconst (v := 1) hx hb dX11_isDigit_12 (by decide) ?_
      refine lv_goto (tgt := 17) hx hb dX11_isDigit_13 (by decide) ?_
      obtain rfl := os1 h
      exact th_zret hQ C hr hk T (Nat.le_of_ble_eq_true rfl) (Nat.le_of_ble_eq_true rfl) dX11_isDigit_17 rfl
set_option maxRecDepth 100000 in
set_option maxHeartbeats 4000000 in
theorem c_X11_isLetter {l : Launch} {G : th_G} {σ : th_S} {μ : th_M} {x0 : Int32} {r : Int32} (h : f_X11_isLetter x0 = some r) : th_Met l G yX11_isLetter cX11_isLetter 1 (some FieldType.boolean) { frames := 0, cells := 0, slots := 0, locals := 0 } [.int x0] σ μ (some (.int r)) σ μ := by
  refine th_ofW (by decide +kernel) (Nat.le_of_ble_eq_true rfl) ?_
  intro p e s m args below meth c ls Q hQ C hr hk hnm T hl
  have hx := C.1
  have hb := C.2.1
  have C : CallFix p m c cX11_isLetter 1 s args th_ws RX11 := C
  have hl : lv_has ls 1 [(0, .int x0)] := hl
  unfold f_X11_isLetter at h
  refine lv_iload_n hx hb dX11_isLetter_0 rfl (lv_at hl 0 rfl) ?_
  refine lv_bipush (v := 97) hx hb dX11_isLetter_1 (by decide) ?_
  refine lv_icmp_lt (tgt := 16) hx hb dX11_isLetter_3 (by decide) (fun c1 => ?_) (fun c1 => ?_)
  · replace h := ot_ c1 h
    refine lv_iconst (v := 0) hx hb dX11_isLetter_16 (by decide) ?_
    obtain rfl := os1 h
    exact th_zret hQ C hr hk T (Nat.le_of_ble_eq_true rfl) (Nat.le_of_ble_eq_true rfl) dX11_isLetter_17 rfl
  · replace h := of_ c1 h
    refine lv_iload_n hx hb dX11_isLetter_6 rfl (lv_at hl 0 rfl) ?_
    refine lv_bipush (v := 122) hx hb dX11_isLetter_7 (by decide) ?_
    refine lv_icmp_gt (tgt := 16) hx hb dX11_isLetter_9 (by decide) (fun c2 => ?_) (fun c2 => ?_)
    · replace h := ot_ c2 h
      refine lv_iconst (v := 0) hx hb dX11_isLetter_16 (by decide) ?_
      obtain rfl := os1 h
      exact th_zret hQ C hr hk T (Nat.le_of_ble_eq_true rfl) (Nat.le_of_ble_eq_true rfl) dX11_isLetter_17 rfl
    · replace h := of_ c2 h
      refine lv_iconst (v := 1) hx hb dX11_isLetter_12 (by decide) ?_
      refine lv_goto (tgt := 17) hx hb dX11_isLetter_13 (by decide) ?_
      obtain rfl := os1 h
      exact th_zret hQ C hr hk T (Nat.le_of_ble_eq_true rfl) (Nat.le_of_ble_eq_true rfl) dX11_isLetter_17 rfl
set_option maxRecDepth 100000 in
set_option maxHeartbeats 4000000 in
theorem c_X11_next {l : Launch} {G : th_G} {σ : th_S} {μ : th_M} {t : Nat}  {μ' : th_M} (h : f_X11_next σ μ t = some μ') : th_Met l G yX11_next cX11_next 2 none { frames := 1, cells := 0, slots := 0, locals := 20 } [.ref t] σ μ none σ μ' := by
  refine th_ofW (by decide +kernel) (Nat.le_of_ble_eq_true rfl) ?_
  intro p e s m args below meth c ls Q hQ C hr hk hnm T hl
  have hx := C.1
  have hb := C.2.1
  have C : CallFix p m c cX11_next 2 s args th_ws RX11 := C
  have hl : lv_has ls 2 [(0, .ref t)] := hl
  have J205 : ∀ (n : Nat) (μ : th_M) (t : Nat) (H : Heap) (locs : List Loc) (ls : Array Slot), th_R G s H locs σ μ → lv_has ls 2 [(0, .ref t)] → f_X11_next_b205  n σ μ t = some μ' → W p l e { frames := 1, cells := 0, slots := 0, locals := 20 } s m args below meth c H locs 0 0 Q (F0 m 205 ls []) := by
    intro n
    induction n with
    | zero => intro μ t H locs ls T hl h; unfold f_X11_next_b205 at h; cases h
    | succ n205 ih205 =>
      intro μ t H locs ls T hl h
      unfold f_X11_next_b205 at h
      refine lv_aload_n hx hb dX11_next_205 rfl (lv_at hl 0 rfl) ?_
      obtain ⟨v1, e2, h⟩ := ob_ h
      refine g_RX11_159 C T e2 dX11_next_206 ?_
      refine lv_aload_n hx hb dX11_next_209 rfl (lv_at hl 0 rfl) ?_
      obtain ⟨v3, e4, h⟩ := ob_ h
      refine g_RX11_156 C T e4 dX11_next_210 ?_
      refine lv_icmp_ge (tgt := 244) hx hb dX11_next_213 (by decide) (fun c5 => ?_) (fun c5 => ?_)
      · replace h := ot_ c5 h
        refine lv_aload_n hx hb dX11_next_244 rfl (lv_at hl 0 rfl) ?_
        refine lv_iconst (v := 2) hx hb dX11_next_245 (by decide) ?_
        obtain ⟨μ6, e7, h⟩ := ob_ h
        refine p_RX11_165 C T e7 dX11_next_246 (fun H locs T => ?_)
        obtain rfl := os1 h
        exact th_vret hQ C hr hk T (Nat.le_of_ble_eq_true rfl) (Nat.le_of_ble_eq_true rfl) dX11_next_249
      · replace h := of_ c5 h
        refine lv_aload_n hx hb dX11_next_216 rfl (lv_at hl 0 rfl) ?_
        obtain ⟨a8, e9, h⟩ := ob_ h
        refine g_RX11_31 C T e9 dX11_next_217 ?_
        refine lv_aload_n hx hb dX11_next_220 rfl (lv_at hl 0 rfl) ?_
        obtain ⟨v10, e11, h⟩ := ob_ h
        refine g_RX11_159 C T e11 dX11_next_221 ?_
        obtain ⟨v12, e13, h⟩ := ob_ h
        refine th_iald C T e13 dX11_next_224 ?_
        obtain ⟨v14, e15, h⟩ := ob_ h
        refine th_callS (As := [.int v12]) (rest := []) C T (c_X11_isLetter e15) k_RX11_174 rfl hl.1 rfl (st1 := [.int v14]) rfl (cells1 := 0) rfl (slots1 := 0) rfl (Nat.le_of_ble_eq_true rfl) ⟨Nat.le_of_ble_eq_true rfl, Nat.le_of_ble_eq_true rfl⟩ ⟨Nat.le_of_ble_eq_true rfl, Nat.le_of_ble_eq_true rfl⟩ dX11_next_225 (fun H locs T => ?_)
        refine lv_if_eq (tgt := 244) hx hb dX11_next_228 (by decide) (fun c16 => ?_) (fun c16 => ?_)
        · replace h := ot_ c16 h
          refine lv_aload_n hx hb dX11_next_244 rfl (lv_at hl 0 rfl) ?_
          refine lv_iconst (v := 2) hx hb dX11_next_245 (by decide) ?_
          obtain ⟨μ17, e18, h⟩ := ob_ h
          refine p_RX11_165 C T e18 dX11_next_246 (fun H locs T => ?_)
          obtain rfl := os1 h
          exact th_vret hQ C hr hk T (Nat.le_of_ble_eq_true rfl) (Nat.le_of_ble_eq_true rfl) dX11_next_249
        · replace h := of_ c16 h
          refine lv_aload_n hx hb dX11_next_231 rfl (lv_at hl 0 rfl) ?_
          refine lv_dup hx hb dX11_next_232 rfl ?_
          obtain ⟨v19, e20, h⟩ := ob_ h
          refine g_RX11_159 C T e20 dX11_next_233 ?_
          refine lv_iconst (v := 1) hx hb dX11_next_236 (by decide) ?_
          refine lv_iadd hx hb dX11_next_237 ?_
          obtain ⟨μ21, e22, h⟩ := ob_ h
          refine p_RX11_159 C T e22 dX11_next_238 (fun H locs T => ?_)
          refine lv_goto (tgt := 205) hx hb dX11_next_241 (by decide) ?_
          exact ih205 _ _ _ _ _ T (lv_sub hl [0] rfl) h
  have J175 : ∀ (μ : th_M) (t : Nat) (H : Heap) (locs : List Loc) (ls : Array Slot), th_R G s H locs σ μ → lv_has ls 2 [(0, .ref t)] → f_X11_next_b175 σ μ t = some μ' → W p l e { frames := 1, cells := 0, slots := 0, locals := 20 } s m args below meth c H locs 0 0 Q (F0 m 175 ls []) := by
    intro μ t H locs ls T hl h
    unfold f_X11_next_b175 at h
    refine lv_aload_n hx hb dX11_next_175 rfl (lv_at hl 0 rfl) ?_
    refine lv_aload_n hx hb dX11_next_176 rfl (lv_at hl 0 rfl) ?_
    obtain ⟨v1, e2, h⟩ := ob_ h
    refine g_RX11_159 C T e2 dX11_next_177 ?_
    refine lv_aload_n hx hb dX11_next_180 rfl (lv_at hl 0 rfl) ?_
    obtain ⟨v3, e4, h⟩ := ob_ h
    refine g_RX11_162 C T e4 dX11_next_181 ?_
    refine lv_isub hx hb dX11_next_184 ?_
    refine lv_iconst (v := 4) hx hb dX11_next_185 (by decide) ?_
    refine lv_icmp_le (tgt := 193) hx hb dX11_next_186 (by decide) (fun c5 => ?_) (fun c5 => ?_)
    · replace h := ot_ c5 h
      refine lv_iconst (v := 1) hx hb dX11_next_193 (by decide) ?_
      obtain ⟨μ6, e7, h⟩ := ob_ h
      refine p_RX11_165 C T e7 dX11_next_194 (fun H locs T => ?_)
      obtain rfl := os1 h
      exact th_vret hQ C hr hk T (Nat.le_of_ble_eq_true rfl) (Nat.le_of_ble_eq_true rfl) dX11_next_197
    · replace h := of_ c5 h
      refine lv_iconst (v := 4) hx hb dX11_next_189 (by decide) ?_
      refine lv_goto (tgt := 194) hx hb dX11_next_190 (by decide) ?_
      obtain ⟨μ8, e9, h⟩ := ob_ h
      refine p_RX11_165 C T e9 dX11_next_194 (fun H locs T => ?_)
      obtain rfl := os1 h
      exact th_vret hQ C hr hk T (Nat.le_of_ble_eq_true rfl) (Nat.le_of_ble_eq_true rfl) dX11_next_197
  have J99 : ∀ (n : Nat) (μ : th_M) (t : Nat) (H : Heap) (locs : List Loc) (ls : Array Slot), th_R G s H locs σ μ → lv_has ls 2 [(0, .ref t)] → f_X11_next_b99  n σ μ t = some μ' → W p l e { frames := 1, cells := 0, slots := 0, locals := 20 } s m args below meth c H locs 0 0 Q (F0 m 99 ls []) := by
    intro n
    induction n with
    | zero => intro μ t H locs ls T hl h; unfold f_X11_next_b99 at h; cases h
    | succ n99 ih99 =>
      intro μ t H locs ls T hl h
      unfold f_X11_next_b99 at h
      refine lv_aload_n hx hb dX11_next_99 rfl (lv_at hl 0 rfl) ?_
      obtain ⟨v1, e2, h⟩ := ob_ h
      refine g_RX11_159 C T e2 dX11_next_100 ?_
      refine lv_aload_n hx hb dX11_next_103 rfl (lv_at hl 0 rfl) ?_
      obtain ⟨v3, e4, h⟩ := ob_ h
      refine g_RX11_156 C T e4 dX11_next_104 ?_
      refine lv_icmp_ge (tgt := 175) hx hb dX11_next_107 (by decide) (fun c5 => ?_) (fun c5 => ?_)
      · replace h := ot_ c5 h
        exact J175 _ _ _ _ _ T (lv_sub hl [0] rfl) h
      · replace h := of_ c5 h
        refine lv_aload_n hx hb dX11_next_110 rfl (lv_at hl 0 rfl) ?_
        obtain ⟨a6, e7, h⟩ := ob_ h
        refine g_RX11_31 C T e7 dX11_next_111 ?_
        refine lv_aload_n hx hb dX11_next_114 rfl (lv_at hl 0 rfl) ?_
        obtain ⟨v8, e9, h⟩ := ob_ h
        refine g_RX11_159 C T e9 dX11_next_115 ?_
        obtain ⟨v10, e11, h⟩ := ob_ h
        refine th_iald C T e11 dX11_next_118 ?_
        obtain ⟨v12, e13, h⟩ := ob_ h
        refine th_callS (As := [.int v10]) (rest := []) C T (c_X11_isDigit e13) k_RX11_168 rfl hl.1 rfl (st1 := [.int v12]) rfl (cells1 := 0) rfl (slots1 := 0) rfl (Nat.le_of_ble_eq_true rfl) ⟨Nat.le_of_ble_eq_true rfl, Nat.le_of_ble_eq_true rfl⟩ ⟨Nat.le_of_ble_eq_true rfl, Nat.le_of_ble_eq_true rfl⟩ dX11_next_119 (fun H locs T => ?_)
        refine lv_if_eq (tgt := 175) hx hb dX11_next_122 (by decide) (fun c14 => ?_) (fun c14 => ?_)
        · replace h := ot_ c14 h
          exact J175 _ _ _ _ _ T (lv_sub hl [0] rfl) h
        · replace h := of_ c14 h
          refine lv_aload_n hx hb dX11_next_125 rfl (lv_at hl 0 rfl) ?_
          obtain ⟨v15, e16, h⟩ := ob_ h
          refine g_RX11_159 C T e16 dX11_next_126 ?_
          refine lv_aload_n hx hb dX11_next_129 rfl (lv_at hl 0 rfl) ?_
          obtain ⟨v17, e18, h⟩ := ob_ h
          refine g_RX11_162 C T e18 dX11_next_130 ?_
          refine lv_isub hx hb dX11_next_133 ?_
          refine lv_iconst (v := 4) hx hb dX11_next_134 (by decide) ?_
          refine lv_icmp_ge (tgt := 162) hx hb dX11_next_135 (by decide) (fun c19 => ?_) (fun c19 => ?_)
          · replace h := ot_ c19 h
            refine lv_aload_n hx hb dX11_next_162 rfl (lv_at hl 0 rfl) ?_
            refine lv_dup hx hb dX11_next_163 rfl ?_
            obtain ⟨v20, e21, h⟩ := ob_ h
            refine g_RX11_159 C T e21 dX11_next_164 ?_
            refine lv_iconst (v := 1) hx hb dX11_next_167 (by decide) ?_
            refine lv_iadd hx hb dX11_next_168 ?_
            obtain ⟨μ22, e23, h⟩ := ob_ h
            refine p_RX11_159 C T e23 dX11_next_169 (fun H locs T => ?_)
            refine lv_goto (tgt := 99) hx hb dX11_next_172 (by decide) ?_
            exact ih99 _ _ _ _ _ T (lv_sub hl [0] rfl) h
          · replace h := of_ c19 h
            refine lv_aload_n hx hb dX11_next_138 rfl (lv_at hl 0 rfl) ?_
            refine lv_bipush (v := 10) hx hb dX11_next_139 (by decide) ?_
            refine lv_aload_n hx hb dX11_next_141 rfl (lv_at hl 0 rfl) ?_
            obtain ⟨v24, e25, h⟩ := ob_ h
            refine g_RX11_171 C T e25 dX11_next_142 ?_
            refine lv_imul hx hb dX11_next_145 ?_
            refine lv_aload_n hx hb dX11_next_146 rfl (lv_at hl 0 rfl) ?_
            obtain ⟨a26, e27, h⟩ := ob_ h
            refine g_RX11_31 C T e27 dX11_next_147 ?_
            refine lv_aload_n hx hb dX11_next_150 rfl (lv_at hl 0 rfl) ?_
            obtain ⟨v28, e29, h⟩ := ob_ h
            refine g_RX11_159 C T e29 dX11_next_151 ?_
            obtain ⟨v30, e31, h⟩ := ob_ h
            refine th_iald C T e31 dX11_next_154 ?_
            refine lv_iadd hx hb dX11_next_155 ?_
            refine lv_bipush (v := 48) hx hb dX11_next_156 (by decide) ?_
            refine lv_isub hx hb dX11_next_158 ?_
            obtain ⟨μ32, e33, h⟩ := ob_ h
            refine p_RX11_171 C T e33 dX11_next_159 (fun H locs T => ?_)
            refine lv_aload_n hx hb dX11_next_162 rfl (lv_at hl 0 rfl) ?_
            refine lv_dup hx hb dX11_next_163 rfl ?_
            obtain ⟨v34, e35, h⟩ := ob_ h
            refine g_RX11_159 C T e35 dX11_next_164 ?_
            refine lv_iconst (v := 1) hx hb dX11_next_167 (by decide) ?_
            refine lv_iadd hx hb dX11_next_168 ?_
            obtain ⟨μ36, e37, h⟩ := ob_ h
            refine p_RX11_159 C T e37 dX11_next_169 (fun H locs T => ?_)
            refine lv_goto (tgt := 99) hx hb dX11_next_172 (by decide) ?_
            exact ih99 _ _ _ _ _ T (lv_sub hl [0] rfl) h
  have J52 : ∀ (μ : th_M) (t : Nat) (H : Heap) (locs : List Loc) (ls : Array Slot), th_R G s H locs σ μ → lv_has ls 2 [(0, .ref t)] → f_X11_next_b52 σ μ t = some μ' → W p l e { frames := 1, cells := 0, slots := 0, locals := 20 } s m args below meth c H locs 0 0 Q (F0 m 52 ls []) := by
    intro μ t H locs ls T hl h
    unfold f_X11_next_b52 at h
    refine lv_aload_n hx hb dX11_next_52 rfl (lv_at hl 0 rfl) ?_
    refine lv_aload_n hx hb dX11_next_53 rfl (lv_at hl 0 rfl) ?_
    obtain ⟨v1, e2, h⟩ := ob_ h
    refine g_RX11_159 C T e2 dX11_next_54 ?_
    obtain ⟨μ3, e4, h⟩ := ob_ h
    refine p_RX11_162 C T e4 dX11_next_57 (fun H locs T => ?_)
    refine lv_aload_n hx hb dX11_next_60 rfl (lv_at hl 0 rfl) ?_
    obtain ⟨v5, e6, h⟩ := ob_ h
    refine g_RX11_159 C T e6 dX11_next_61 ?_
    refine lv_aload_n hx hb dX11_next_64 rfl (lv_at hl 0 rfl) ?_
    obtain ⟨v7, e8, h⟩ := ob_ h
    refine g_RX11_156 C T e8 dX11_next_65 ?_
    refine lv_icmp_ne (tgt := 77) hx hb dX11_next_68 (by decide) (fun c9 => ?_) (fun c9 => ?_)
    · replace h := of_ c9 h
      refine lv_aload_n hx hb dX11_next_77 rfl (lv_at hl 0 rfl) ?_
      obtain ⟨a10, e11, h⟩ := ob_ h
      refine g_RX11_31 C T e11 dX11_next_78 ?_
      refine lv_aload_n hx hb dX11_next_81 rfl (lv_at hl 0 rfl) ?_
      obtain ⟨v12, e13, h⟩ := ob_ h
      refine g_RX11_159 C T e13 dX11_next_82 ?_
      obtain ⟨v14, e15, h⟩ := ob_ h
      refine th_iald C T e15 dX11_next_85 ?_
      refine lv_istore_n (lv' := [(1, .int v14), (0, .ref t)]) hx hb dX11_next_86 rfl hl (by decide) rfl (fun ls hl => ?_)
      refine lv_iload_n hx hb dX11_next_87 rfl (lv_at hl 0 rfl) ?_
      obtain ⟨v16, e17, h⟩ := ob_ h
      refine th_callS (As := [.int v14]) (rest := []) C T (c_X11_isDigit e17) k_RX11_168 rfl hl.1 rfl (st1 := [.int v16]) rfl (cells1 := 0) rfl (slots1 := 0) rfl (Nat.le_of_ble_eq_true rfl) ⟨Nat.le_of_ble_eq_true rfl, Nat.le_of_ble_eq_true rfl⟩ ⟨Nat.le_of_ble_eq_true rfl, Nat.le_of_ble_eq_true rfl⟩ dX11_next_88 (fun H locs T => ?_)
      refine lv_if_eq (tgt := 198) hx hb dX11_next_91 (by decide) (fun c18 => ?_) (fun c18 => ?_)
      · replace h := ot_ c18 h
        refine lv_iload_n hx hb dX11_next_198 rfl (lv_at hl 0 rfl) ?_
        obtain ⟨v19, e20, h⟩ := ob_ h
        refine th_callS (As := [.int v14]) (rest := []) C T (c_X11_isLetter e20) k_RX11_174 rfl hl.1 rfl (st1 := [.int v19]) rfl (cells1 := 0) rfl (slots1 := 0) rfl (Nat.le_of_ble_eq_true rfl) ⟨Nat.le_of_ble_eq_true rfl, Nat.le_of_ble_eq_true rfl⟩ ⟨Nat.le_of_ble_eq_true rfl, Nat.le_of_ble_eq_true rfl⟩ dX11_next_199 (fun H locs T => ?_)
        refine lv_if_eq (tgt := 250) hx hb dX11_next_202 (by decide) (fun c21 => ?_) (fun c21 => ?_)
        · replace h := ot_ c21 h
          refine lv_aload_n hx hb dX11_next_250 rfl (lv_at hl 1 rfl) ?_
          refine lv_dup hx hb dX11_next_251 rfl ?_
          obtain ⟨v22, e23, h⟩ := ob_ h
          refine g_RX11_159 C T e23 dX11_next_252 ?_
          refine lv_iconst (v := 1) hx hb dX11_next_255 (by decide) ?_
          refine lv_iadd hx hb dX11_next_256 ?_
          obtain ⟨μ24, e25, h⟩ := ob_ h
          refine p_RX11_159 C T e25 dX11_next_257 (fun H locs T => ?_)
          refine lv_aload_n hx hb dX11_next_260 rfl (lv_at hl 1 rfl) ?_
          refine lv_iload_n hx hb dX11_next_261 rfl (lv_at hl 0 rfl) ?_
          obtain ⟨μ26, e27, h⟩ := ob_ h
          refine p_RX11_171 C T e27 dX11_next_262 (fun H locs T => ?_)
          refine lv_aload_n hx hb dX11_next_265 rfl (lv_at hl 1 rfl) ?_
          refine lv_iload_n hx hb dX11_next_266 rfl (lv_at hl 0 rfl) ?_
          refine lv_bipush (v := 40) hx hb dX11_next_267 (by decide) ?_
          refine lv_icmp_eq (tgt := 314) hx hb dX11_next_269 (by decide) (fun c28 => ?_) (fun c28 => ?_)
          · replace h := ot_ c28 h
            refine lv_iconst (v := 3) hx hb dX11_next_314 (by decide) ?_
            refine lv_goto (tgt := 319) hx hb dX11_next_315 (by decide) ?_
            obtain ⟨μ29, e30, h⟩ := ob_ h
            refine p_RX11_165 C T e30 dX11_next_319 (fun H locs T => ?_)
            obtain rfl := os1 h
            exact th_vret hQ C hr hk T (Nat.le_of_ble_eq_true rfl) (Nat.le_of_ble_eq_true rfl) dX11_next_322
          · replace h := of_ c28 h
            refine lv_iload_n hx hb dX11_next_272 rfl (lv_at hl 0 rfl) ?_
            refine lv_bipush (v := 41) hx hb dX11_next_273 (by decide) ?_
            refine lv_icmp_eq (tgt := 314) hx hb dX11_next_275 (by decide) (fun c31 => ?_) (fun c31 => ?_)
            · replace h := ot_ c31 h
              refine lv_iconst (v := 3) hx hb dX11_next_314 (by decide) ?_
              refine lv_goto (tgt := 319) hx hb dX11_next_315 (by decide) ?_
              obtain ⟨μ32, e33, h⟩ := ob_ h
              refine p_RX11_165 C T e33 dX11_next_319 (fun H locs T => ?_)
              obtain rfl := os1 h
              exact th_vret hQ C hr hk T (Nat.le_of_ble_eq_true rfl) (Nat.le_of_ble_eq_true rfl) dX11_next_322
            · replace h := of_ c31 h
              refine lv_iload_n hx hb dX11_next_278 rfl (lv_at hl 0 rfl) ?_
              refine lv_bipush (v := 59) hx hb dX11_next_279 (by decide) ?_
              refine lv_icmp_eq (tgt := 314) hx hb dX11_next_281 (by decide) (fun c34 => ?_) (fun c34 => ?_)
              · replace h := ot_ c34 h
                refine lv_iconst (v := 3) hx hb dX11_next_314 (by decide) ?_
                refine lv_goto (tgt := 319) hx hb dX11_next_315 (by decide) ?_
                obtain ⟨μ35, e36, h⟩ := ob_ h
                refine p_RX11_165 C T e36 dX11_next_319 (fun H locs T => ?_)
                obtain rfl := os1 h
                exact th_vret hQ C hr hk T (Nat.le_of_ble_eq_true rfl) (Nat.le_of_ble_eq_true rfl) dX11_next_322
              · replace h := of_ c34 h
                refine lv_iload_n hx hb dX11_next_284 rfl (lv_at hl 0 rfl) ?_
                refine lv_bipush (v := 43) hx hb dX11_next_285 (by decide) ?_
                refine lv_icmp_eq (tgt := 314) hx hb dX11_next_287 (by decide) (fun c37 => ?_) (fun c37 => ?_)
                · replace h := ot_ c37 h
                  refine lv_iconst (v := 3) hx hb dX11_next_314 (by decide) ?_
                  refine lv_goto (tgt := 319) hx hb dX11_next_315 (by decide) ?_
                  obtain ⟨μ38, e39, h⟩ := ob_ h
                  refine p_RX11_165 C T e39 dX11_next_319 (fun H locs T => ?_)
                  obtain rfl := os1 h
                  exact th_vret hQ C hr hk T (Nat.le_of_ble_eq_true rfl) (Nat.le_of_ble_eq_true rfl) dX11_next_322
                · replace h := of_ c37 h
                  refine lv_iload_n hx hb dX11_next_290 rfl (lv_at hl 0 rfl) ?_
                  refine lv_bipush (v := 45) hx hb dX11_next_291 (by decide) ?_
                  refine lv_icmp_eq (tgt := 314) hx hb dX11_next_293 (by decide) (fun c40 => ?_) (fun c40 => ?_)
                  · replace h := ot_ c40 h
                    refine lv_iconst (v := 3) hx hb dX11_next_314 (by decide) ?_
                    refine lv_goto (tgt := 319) hx hb dX11_next_315 (by decide) ?_
                    obtain ⟨μ41, e42, h⟩ := ob_ h
                    refine p_RX11_165 C T e42 dX11_next_319 (fun H locs T => ?_)
                    obtain rfl := os1 h
                    exact th_vret hQ C hr hk T (Nat.le_of_ble_eq_true rfl) (Nat.le_of_ble_eq_true rfl) dX11_next_322
                  · replace h := of_ c40 h
                    refine lv_iload_n hx hb dX11_next_296 rfl (lv_at hl 0 rfl) ?_
                    refine lv_bipush (v := 42) hx hb dX11_next_297 (by decide) ?_
                    refine lv_icmp_eq (tgt := 314) hx hb dX11_next_299 (by decide) (fun c43 => ?_) (fun c43 => ?_)
                    · replace h := ot_ c43 h
                      refine lv_iconst (v := 3) hx hb dX11_next_314 (by decide) ?_
                      refine lv_goto (tgt := 319) hx hb dX11_next_315 (by decide) ?_
                      obtain ⟨μ44, e45, h⟩ := ob_ h
                      refine p_RX11_165 C T e45 dX11_next_319 (fun H locs T => ?_)
                      obtain rfl := os1 h
                      exact th_vret hQ C hr hk T (Nat.le_of_ble_eq_true rfl) (Nat.le_of_ble_eq_true rfl) dX11_next_322
                    · replace h := of_ c43 h
                      refine lv_iload_n hx hb dX11_next_302 rfl (lv_at hl 0 rfl) ?_
                      refine lv_bipush (v := 60) hx hb dX11_next_303 (by decide) ?_
                      refine lv_icmp_eq (tgt := 314) hx hb dX11_next_305 (by decide) (fun c46 => ?_) (fun c46 => ?_)
                      · replace h := ot_ c46 h
                        refine lv_iconst (v := 3) hx hb dX11_next_314 (by decide) ?_
                        refine lv_goto (tgt := 319) hx hb dX11_next_315 (by decide) ?_
                        obtain ⟨μ47, e48, h⟩ := ob_ h
                        refine p_RX11_165 C T e48 dX11_next_319 (fun H locs T => ?_)
                        obtain rfl := os1 h
                        exact th_vret hQ C hr hk T (Nat.le_of_ble_eq_true rfl) (Nat.le_of_ble_eq_true rfl) dX11_next_322
                      · replace h := of_ c46 h
                        refine lv_iload_n hx hb dX11_next_308 rfl (lv_at hl 0 rfl) ?_
                        refine lv_bipush (v := 61) hx hb dX11_next_309 (by decide) ?_
                        refine lv_icmp_ne (tgt := 318) hx hb dX11_next_311 (by decide) (fun c49 => ?_) (fun c49 => ?_)
                        · replace h := of_ c49 h
                          refine lv_iconst (v := 4) hx hb dX11_next_318 (by decide) ?_
                          obtain ⟨μ50, e51, h⟩ := ob_ h
                          refine p_RX11_165 C T e51 dX11_next_319 (fun H locs T => ?_)
                          obtain rfl := os1 h
                          exact th_vret hQ C hr hk T (Nat.le_of_ble_eq_true rfl) (Nat.le_of_ble_eq_true rfl) dX11_next_322
                        · replace h := ot_ c49 h
                          refine lv_iconst (v := 3) hx hb dX11_next_314 (by decide) ?_
                          refine lv_goto (tgt := 319) hx hb dX11_next_315 (by decide) ?_
                          obtain ⟨μ52, e53, h⟩ := ob_ h
                          refine p_RX11_165 C T e53 dX11_next_319 (fun H locs T => ?_)
                          obtain rfl := os1 h
                          exact th_vret hQ C hr hk T (Nat.le_of_ble_eq_true rfl) (Nat.le_of_ble_eq_true rfl) dX11_next_322
        · replace h := of_ c21 h
          exact J205 fu _ _ _ _ _ T (lv_sub hl [1] rfl) h
      · replace h := of_ c18 h
        refine lv_aload_n hx hb dX11_next_94 rfl (lv_at hl 1 rfl) ?_
        refine lv_iconst (v := 0) hx hb dX11_next_95 (by decide) ?_
        obtain ⟨μ54, e55, h⟩ := ob_ h
        refine p_RX11_171 C T e55 dX11_next_96 (fun H locs T => ?_)
        exact J99 fu _ _ _ _ _ T (lv_sub hl [1] rfl) h
    · replace h := ot_ c9 h
      refine lv_aload_n hx hb dX11_next_71 rfl (lv_at hl 0 rfl) ?_
      refine lv_iconst (v := 0) hx hb dX11_next_72 (by decide) ?_
      obtain ⟨μ56, e57, h⟩ := ob_ h
      refine p_RX11_165 C T e57 dX11_next_73 (fun H locs T => ?_)
      obtain rfl := os1 h
      exact th_vret hQ C hr hk T (Nat.le_of_ble_eq_true rfl) (Nat.le_of_ble_eq_true rfl) dX11_next_76
  have J0 : ∀ (n : Nat) (μ : th_M) (t : Nat) (H : Heap) (locs : List Loc) (ls : Array Slot), th_R G s H locs σ μ → lv_has ls 2 [(0, .ref t)] → f_X11_next_b0  n σ μ t = some μ' → W p l e { frames := 1, cells := 0, slots := 0, locals := 20 } s m args below meth c H locs 0 0 Q (F0 m 0 ls []) := by
    intro n
    induction n with
    | zero => intro μ t H locs ls T hl h; unfold f_X11_next_b0 at h; cases h
    | succ n0 ih0 =>
      intro μ t H locs ls T hl h
      unfold f_X11_next_b0 at h
      refine lv_aload_n hx hb dX11_next_0 rfl (lv_at hl 0 rfl) ?_
      obtain ⟨v1, e2, h⟩ := ob_ h
      refine g_RX11_159 C T e2 dX11_next_1 ?_
      refine lv_aload_n hx hb dX11_next_4 rfl (lv_at hl 0 rfl) ?_
      obtain ⟨v3, e4, h⟩ := ob_ h
      refine g_RX11_156 C T e4 dX11_next_5 ?_
      refine lv_icmp_ge (tgt := 52) hx hb dX11_next_8 (by decide) (fun c5 => ?_) (fun c5 => ?_)
      · replace h := ot_ c5 h
        exact J52 _ _ _ _ _ T (lv_sub hl [0] rfl) h
      · replace h := of_ c5 h
        refine lv_aload_n hx hb dX11_next_11 rfl (lv_at hl 0 rfl) ?_
        obtain ⟨a6, e7, h⟩ := ob_ h
        refine g_RX11_31 C T e7 dX11_next_12 ?_
        refine lv_aload_n hx hb dX11_next_15 rfl (lv_at hl 0 rfl) ?_
        obtain ⟨v8, e9, h⟩ := ob_ h
        refine g_RX11_159 C T e9 dX11_next_16 ?_
        obtain ⟨v10, e11, h⟩ := ob_ h
        refine th_iald C T e11 dX11_next_19 ?_
        refine lv_bipush (v := 32) hx hb dX11_next_20 (by decide) ?_
        refine lv_icmp_eq (tgt := 39) hx hb dX11_next_22 (by decide) (fun c12 => ?_) (fun c12 => ?_)
        · replace h := ot_ c12 h
          refine lv_aload_n hx hb dX11_next_39 rfl (lv_at hl 0 rfl) ?_
          refine lv_dup hx hb dX11_next_40 rfl ?_
          obtain ⟨v13, e14, h⟩ := ob_ h
          refine g_RX11_159 C T e14 dX11_next_41 ?_
          refine lv_iconst (v := 1) hx hb dX11_next_44 (by decide) ?_
          refine lv_iadd hx hb dX11_next_45 ?_
          obtain ⟨μ15, e16, h⟩ := ob_ h
          refine p_RX11_159 C T e16 dX11_next_46 (fun H locs T => ?_)
          refine lv_goto (tgt := 0) hx hb dX11_next_49 (by decide) ?_
          exact ih0 _ _ _ _ _ T (lv_sub hl [0] rfl) h
        · replace h := of_ c12 h
          refine lv_aload_n hx hb dX11_next_25 rfl (lv_at hl 0 rfl) ?_
          obtain ⟨a17, e18, h⟩ := ob_ h
          refine g_RX11_31 C T e18 dX11_next_26 ?_
          refine lv_aload_n hx hb dX11_next_29 rfl (lv_at hl 0 rfl) ?_
          obtain ⟨v19, e20, h⟩ := ob_ h
          refine g_RX11_159 C T e20 dX11_next_30 ?_
          obtain ⟨v21, e22, h⟩ := ob_ h
          refine th_iald C T e22 dX11_next_33 ?_
          refine lv_bipush (v := 10) hx hb dX11_next_34 (by decide) ?_
          refine lv_icmp_ne (tgt := 52) hx hb dX11_next_36 (by decide) (fun c23 => ?_) (fun c23 => ?_)
          · replace h := of_ c23 h
            exact J52 _ _ _ _ _ T (lv_sub hl [0] rfl) h
          · replace h := ot_ c23 h
            refine lv_aload_n hx hb dX11_next_39 rfl (lv_at hl 0 rfl) ?_
            refine lv_dup hx hb dX11_next_40 rfl ?_
            obtain ⟨v24, e25, h⟩ := ob_ h
            refine g_RX11_159 C T e25 dX11_next_41 ?_
            refine lv_iconst (v := 1) hx hb dX11_next_44 (by decide) ?_
            refine lv_iadd hx hb dX11_next_45 ?_
            obtain ⟨μ26, e27, h⟩ := ob_ h
            refine p_RX11_159 C T e27 dX11_next_46 (fun H locs T => ?_)
            refine lv_goto (tgt := 0) hx hb dX11_next_49 (by decide) ?_
            exact ih0 _ _ _ _ _ T (lv_sub hl [0] rfl) h
  unfold f_X11_next at h
  exact J0 fu _ _ _ _ _ T (lv_sub hl [0] rfl) h
set_option maxRecDepth 100000 in
set_option maxHeartbeats 4000000 in
theorem c_X11_is {l : Launch} {G : th_G} {σ : th_S} {μ : th_M} {t : Nat} {x1 : Nat} {r : Int32} (h : f_X11_is σ μ t x1 = some r) : th_Met l G yX11_is cX11_is 3 (some FieldType.boolean) { frames := 5, cells := 0, slots := 0, locals := 261 } [.ref t, .ref (G.2.2.2.1 x1)] σ μ (some (.int r)) σ μ := by
  refine th_ofW (by decide +kernel) (Nat.le_of_ble_eq_true rfl) ?_
  intro p e s m args below meth c ls Q hQ C hr hk hnm T hl
  have hx := C.1
  have hb := C.2.1
  have C : CallFix p m c cX11_is 3 s args th_ws RX11 := C
  have hl : lv_has ls 3 [(0, .ref t), (1, .ref (G.2.2.2.1 x1))] := hl
  have J28 : ∀ (n : Nat) (t : Nat) (x1 : Nat) (x2 : Int32) (H : Heap) (locs : List Loc) (ls : Array Slot), th_R G s H locs σ μ → lv_has ls 3 [(0, .ref t), (1, .ref (G.2.2.2.1 x1)), (2, .int x2)] → f_X11_is_b28  n σ μ t x1 x2 = some r → W p l e { frames := 5, cells := 0, slots := 0, locals := 261 } s m args below meth c H locs 0 0 Q (F0 m 28 ls []) := by
    intro n
    induction n with
    | zero => intro t x1 x2 H locs ls T hl h; unfold f_X11_is_b28 at h; cases h
    | succ n28 ih28 =>
      intro t x1 x2 H locs ls T hl h
      unfold f_X11_is_b28 at h
      refine lv_iload_n hx hb dX11_is_28 rfl (lv_at hl 2 rfl) ?_
      refine lv_aload_n hx hb dX11_is_29 rfl (lv_at hl 1 rfl) ?_
      obtain ⟨v1, e2, h⟩ := ob_ h
      refine th_callT (As := []) (rest := [.int x2]) C T (c_J0_length_8abf5 e2) (hd_length e2) k_RX11_82 rfl rfl hl.1 rfl (st1 := [.int v1, .int x2]) rfl (cells1 := 0) rfl (slots1 := 0) rfl (Nat.le_of_ble_eq_true rfl) ⟨Nat.le_of_ble_eq_true rfl, Nat.le_of_ble_eq_true rfl⟩ ⟨Nat.le_of_ble_eq_true rfl, Nat.le_of_ble_eq_true rfl⟩ dX11_is_30 (fun H locs T => ?_)
      refine lv_icmp_ge (tgt := 63) hx hb dX11_is_33 (by decide) (fun c3 => ?_) (fun c3 => ?_)
      · replace h := ot_ c3 h
        refine lv_iconst (v := 1) hx hb dX11_is_63 (by decide) ?_
        obtain rfl := os1 h
        exact th_zret hQ C hr hk T (Nat.le_of_ble_eq_true rfl) (Nat.le_of_ble_eq_true rfl) dX11_is_64 rfl
      · replace h := of_ c3 h
        refine lv_aload_n hx hb dX11_is_36 rfl (lv_at hl 0 rfl) ?_
        obtain ⟨a4, e5, h⟩ := ob_ h
        refine g_RX11_31 C T e5 dX11_is_37 ?_
        refine lv_aload_n hx hb dX11_is_40 rfl (lv_at hl 0 rfl) ?_
        obtain ⟨v6, e7, h⟩ := ob_ h
        refine g_RX11_162 C T e7 dX11_is_41 ?_
        refine lv_iload_n hx hb dX11_is_44 rfl (lv_at hl 2 rfl) ?_
        refine lv_iadd hx hb dX11_is_45 ?_
        obtain ⟨v8, e9, h⟩ := ob_ h
        refine th_iald C T e9 dX11_is_46 ?_
        refine lv_aload_n hx hb dX11_is_47 rfl (lv_at hl 1 rfl) ?_
        refine lv_iload_n hx hb dX11_is_48 rfl (lv_at hl 2 rfl) ?_
        obtain ⟨v10, e11, h⟩ := ob_ h
        refine th_callT (As := [.int x2]) (rest := [.int v8]) C T (c_J0_charAt_5068e e11) (hd_charAt e11) k_RX11_88 rfl rfl hl.1 rfl (st1 := [.int v10, .int v8]) rfl (cells1 := 0) rfl (slots1 := 0) rfl (Nat.le_of_ble_eq_true rfl) ⟨Nat.le_of_ble_eq_true rfl, Nat.le_of_ble_eq_true rfl⟩ ⟨Nat.le_of_ble_eq_true rfl, Nat.le_of_ble_eq_true rfl⟩ dX11_is_49 (fun H locs T => ?_)
        refine lv_icmp_eq (tgt := 57) hx hb dX11_is_52 (by decide) (fun c12 => ?_) (fun c12 => ?_)
        · replace h := ot_ c12 h
          refine lv_iinc (v := x2 + 1) (lv' := [(2, .int (x2 + 1)), (0, .ref t), (1, .ref (G.2.2.2.1 x1))]) hx hb dX11_is_57 hl (k := 2) rfl rfl (by decide) rfl (fun ls hl => ?_)
          refine lv_goto (tgt := 28) hx hb dX11_is_60 (by decide) ?_
          exact ih28 _ _ _ _ _ _ T (lv_sub hl [1, 2, 0] rfl) h
        · replace h := of_ c12 h
          refine lv_iconst (v := 0) hx hb dX11_is_55 (by decide) ?_
          obtain rfl := os1 h
          exact th_zret hQ C hr hk T (Nat.le_of_ble_eq_true rfl) (Nat.le_of_ble_eq_true rfl) dX11_is_56 rfl
  unfold f_X11_is at h
  refine lv_aload_n hx hb dX11_is_0 rfl (lv_at hl 0 rfl) ?_
  obtain ⟨v1, e2, h⟩ := ob_ h
  refine g_RX11_165 C T e2 dX11_is_1 ?_
  refine lv_iconst (v := 2) hx hb dX11_is_4 (by decide) ?_
  refine lv_icmp_ne (tgt := 24) hx hb dX11_is_5 (by decide) (fun c3 => ?_) (fun c3 => ?_)
  · replace h := of_ c3 h
    refine lv_iconst (v := 0) hx hb dX11_is_24 (by decide) ?_
    obtain rfl := os1 h
    exact th_zret hQ C hr hk T (Nat.le_of_ble_eq_true rfl) (Nat.le_of_ble_eq_true rfl) dX11_is_25 rfl
  · replace h := ot_ c3 h
    refine lv_aload_n hx hb dX11_is_8 rfl (lv_at hl 0 rfl) ?_
    obtain ⟨v4, e5, h⟩ := ob_ h
    refine g_RX11_159 C T e5 dX11_is_9 ?_
    refine lv_aload_n hx hb dX11_is_12 rfl (lv_at hl 0 rfl) ?_
    obtain ⟨v6, e7, h⟩ := ob_ h
    refine g_RX11_162 C T e7 dX11_is_13 ?_
    refine lv_isub hx hb dX11_is_16 ?_
    refine lv_aload_n hx hb dX11_is_17 rfl (lv_at hl 1 rfl) ?_
    obtain ⟨v8, e9, h⟩ := ob_ h
    refine th_callT (As := []) (rest := [.int (v4 - v6)]) C T (c_J0_length_8abf5 e9) (hd_length e9) k_RX11_82 rfl rfl hl.1 rfl (st1 := [.int v8, .int (v4 - v6)]) rfl (cells1 := 0) rfl (slots1 := 0) rfl (Nat.le_of_ble_eq_true rfl) ⟨Nat.le_of_ble_eq_true rfl, Nat.le_of_ble_eq_true rfl⟩ ⟨Nat.le_of_ble_eq_true rfl, Nat.le_of_ble_eq_true rfl⟩ dX11_is_18 (fun H locs T => ?_)
    refine lv_icmp_eq (tgt := 26) hx hb dX11_is_21 (by decide) (fun c10 => ?_) (fun c10 => ?_)
    · replace h := ot_ c10 h
      refine lv_iconst (v := 0) hx hb dX11_is_26 (by decide) ?_
      refine lv_istore_n (lv' := [(2, .int 0), (0, .ref t), (1, .ref (G.2.2.2.1 x1))]) hx hb dX11_is_27 rfl hl (by decide) rfl (fun ls hl => ?_)
      exact J28 fu _ _ _ _ _ _ T (lv_sub hl [1, 2, 0] rfl) h
    · replace h := of_ c10 h
      refine lv_iconst (v := 0) hx hb dX11_is_24 (by decide) ?_
      obtain rfl := os1 h
      exact th_zret hQ C hr hk T (Nat.le_of_ble_eq_true rfl) (Nat.le_of_ble_eq_true rfl) dX11_is_25 rfl
set_option maxRecDepth 100000 in
set_option maxHeartbeats 4000000 in
theorem c_X11_put {l : Launch} {G : th_G} {σ : th_S} {μ : th_M} {t : Nat} {x1 : Int32}  {μ' : th_M} (h : f_X11_put σ μ t x1 = some μ') : th_Met l G yX11_put cX11_put 2 none { frames := 0, cells := 0, slots := 0, locals := 0 } [.ref t, .int x1] σ μ none σ μ' := by
  refine th_ofW (by decide +kernel) (Nat.le_of_ble_eq_true rfl) ?_
  intro p e s m args below meth c ls Q hQ C hr hk hnm T hl
  have hx := C.1
  have hb := C.2.1
  have C : CallFix p m c cX11_put 2 s args th_ws RX11 := C
  have hl : lv_has ls 2 [(0, .ref t), (1, .int x1)] := hl
  unfold f_X11_put at h
  refine lv_aload_n hx hb dX11_put_0 rfl (lv_at hl 0 rfl) ?_
  obtain ⟨a1, e2, h⟩ := ob_ h
  refine g_RX11_34 C T e2 dX11_put_1 ?_
  refine lv_sipush (v := 170) hx hb dX11_put_4 (by decide) ?_
  refine lv_aload_n hx hb dX11_put_7 rfl (lv_at hl 0 rfl) ?_
  obtain ⟨v3, e4, h⟩ := ob_ h
  refine g_RX11_190 C T e4 dX11_put_8 ?_
  refine lv_imul hx hb dX11_put_11 ?_
  refine lv_aload_n hx hb dX11_put_12 rfl (lv_at hl 0 rfl) ?_
  refine lv_dup hx hb dX11_put_13 rfl ?_
  obtain ⟨v5, e6, h⟩ := ob_ h
  refine g_RX11_193 C T e6 dX11_put_14 ?_
  refine lv_dup_x1 hx hb dX11_put_17 rfl rfl ?_
  refine lv_iconst (v := 1) hx hb dX11_put_18 (by decide) ?_
  refine lv_iadd hx hb dX11_put_19 ?_
  obtain ⟨μ7, e8, h⟩ := ob_ h
  refine p_RX11_193 C T e8 dX11_put_20 (fun H locs T => ?_)
  refine lv_iadd hx hb dX11_put_23 ?_
  refine lv_iload_n hx hb dX11_put_24 rfl (lv_at hl 1 rfl) ?_
  obtain ⟨μ9, e10, h⟩ := ob_ h
  refine th_iast C T e10 dX11_put_25 (fun H locs T => ?_)
  obtain rfl := os1 h
  exact th_vret hQ C hr hk T (Nat.le_of_ble_eq_true rfl) (Nat.le_of_ble_eq_true rfl) dX11_put_26
set_option maxRecDepth 100000 in
set_option maxHeartbeats 4000000 in
theorem c_X11_name {l : Launch} {G : th_G} {σ : th_S} {μ : th_M} {t : Nat} {r : Int32} (h : f_X11_name σ μ t = some r) : th_Met l G yX11_name cX11_name 1 (some FieldType.int) { frames := 6, cells := 0, slots := 0, locals := 283 } [.ref t] σ μ (some (.int r)) σ μ := by
  refine th_ofW (by decide +kernel) (Nat.le_of_ble_eq_true rfl) ?_
  intro p e s m args below meth c ls Q hQ C hr hk hnm T hl
  have hx := C.1
  have hb := C.2.1
  have C : CallFix p m c cX11_name 1 s args th_ws RX11 := C
  have hl : lv_has ls 1 [(0, .ref t)] := hl
  unfold f_X11_name at h
  refine lv_aload_n hx hb dX11_name_0 rfl (lv_at hl 0 rfl) ?_
  refine th_ldcS C T 16 rfl dX11_name_1 ?_
  obtain ⟨k1, h⟩ := oc_ h
  obtain ⟨v2, e3, h⟩ := ob_ h
  refine th_callV (As := [.ref (G.2.2.2.1 1)]) (rest := []) C T (c_X11_is e3) k_RX11_178 11 rfl rfl (by decide) k1 rfl hl.1 rfl (st1 := [.int v2]) rfl (cells1 := 0) rfl (slots1 := 0) rfl (Nat.le_of_ble_eq_true rfl) ⟨Nat.le_of_ble_eq_true rfl, Nat.le_of_ble_eq_true rfl⟩ ⟨Nat.le_of_ble_eq_true rfl, Nat.le_of_ble_eq_true rfl⟩ dX11_name_3 (fun H locs T => ?_)
  refine lv_if_eq (tgt := 11) hx hb dX11_name_6 (by decide) (fun c4 => ?_) (fun c4 => ?_)
  · replace h := ot_ c4 h
    refine lv_aload_n hx hb dX11_name_11 rfl (lv_at hl 0 rfl) ?_
    refine th_ldcS C T 17 rfl dX11_name_12 ?_
    obtain ⟨v5, e6, h⟩ := ob_ h
    refine th_callV (As := [.ref (G.2.2.2.1 2)]) (rest := []) C T (c_X11_is e6) k_RX11_178 11 rfl rfl (by decide) k1 rfl hl.1 rfl (st1 := [.int v5]) rfl (cells1 := 0) rfl (slots1 := 0) rfl (Nat.le_of_ble_eq_true rfl) ⟨Nat.le_of_ble_eq_true rfl, Nat.le_of_ble_eq_true rfl⟩ ⟨Nat.le_of_ble_eq_true rfl, Nat.le_of_ble_eq_true rfl⟩ dX11_name_14 (fun H locs T => ?_)
    refine lv_if_eq (tgt := 22) hx hb dX11_name_17 (by decide) (fun c7 => ?_) (fun c7 => ?_)
    · replace h := ot_ c7 h
      refine lv_aload_n hx hb dX11_name_22 rfl (lv_at hl 0 rfl) ?_
      refine th_ldcS C T 18 rfl dX11_name_23 ?_
      obtain ⟨v8, e9, h⟩ := ob_ h
      refine th_callV (As := [.ref (G.2.2.2.1 3)]) (rest := []) C T (c_X11_is e9) k_RX11_178 11 rfl rfl (by decide) k1 rfl hl.1 rfl (st1 := [.int v8]) rfl (cells1 := 0) rfl (slots1 := 0) rfl (Nat.le_of_ble_eq_true rfl) ⟨Nat.le_of_ble_eq_true rfl, Nat.le_of_ble_eq_true rfl⟩ ⟨Nat.le_of_ble_eq_true rfl, Nat.le_of_ble_eq_true rfl⟩ dX11_name_25 (fun H locs T => ?_)
      refine lv_if_eq (tgt := 33) hx hb dX11_name_28 (by decide) (fun c10 => ?_) (fun c10 => ?_)
      · replace h := ot_ c10 h
        refine lv_aload_n hx hb dX11_name_33 rfl (lv_at hl 0 rfl) ?_
        refine th_ldcS C T 19 rfl dX11_name_34 ?_
        obtain ⟨v11, e12, h⟩ := ob_ h
        refine th_callV (As := [.ref (G.2.2.2.1 4)]) (rest := []) C T (c_X11_is e12) k_RX11_178 11 rfl rfl (by decide) k1 rfl hl.1 rfl (st1 := [.int v11]) rfl (cells1 := 0) rfl (slots1 := 0) rfl (Nat.le_of_ble_eq_true rfl) ⟨Nat.le_of_ble_eq_true rfl, Nat.le_of_ble_eq_true rfl⟩ ⟨Nat.le_of_ble_eq_true rfl, Nat.le_of_ble_eq_true rfl⟩ dX11_name_36 (fun H locs T => ?_)
        refine lv_if_eq (tgt := 44) hx hb dX11_name_39 (by decide) (fun c13 => ?_) (fun c13 => ?_)
        · replace h := ot_ c13 h
          refine lv_aload_n hx hb dX11_name_44 rfl (lv_at hl 0 rfl) ?_
          refine th_ldcS C T 20 rfl dX11_name_45 ?_
          obtain ⟨v14, e15, h⟩ := ob_ h
          refine th_callV (As := [.ref (G.2.2.2.1 5)]) (rest := []) C T (c_X11_is e15) k_RX11_178 11 rfl rfl (by decide) k1 rfl hl.1 rfl (st1 := [.int v14]) rfl (cells1 := 0) rfl (slots1 := 0) rfl (Nat.le_of_ble_eq_true rfl) ⟨Nat.le_of_ble_eq_true rfl, Nat.le_of_ble_eq_true rfl⟩ ⟨Nat.le_of_ble_eq_true rfl, Nat.le_of_ble_eq_true rfl⟩ dX11_name_47 (fun H locs T => ?_)
          refine lv_if_eq (tgt := 55) hx hb dX11_name_50 (by decide) (fun c16 => ?_) (fun c16 => ?_)
          · replace h := ot_ c16 h
            refine lv_aload_n hx hb dX11_name_55 rfl (lv_at hl 0 rfl) ?_
            refine th_ldcS C T 21 rfl dX11_name_56 ?_
            obtain ⟨v17, e18, h⟩ := ob_ h
            refine th_callV (As := [.ref (G.2.2.2.1 6)]) (rest := []) C T (c_X11_is e18) k_RX11_178 11 rfl rfl (by decide) k1 rfl hl.1 rfl (st1 := [.int v17]) rfl (cells1 := 0) rfl (slots1 := 0) rfl (Nat.le_of_ble_eq_true rfl) ⟨Nat.le_of_ble_eq_true rfl, Nat.le_of_ble_eq_true rfl⟩ ⟨Nat.le_of_ble_eq_true rfl, Nat.le_of_ble_eq_true rfl⟩ dX11_name_58 (fun H locs T => ?_)
            refine lv_if_eq (tgt := 67) hx hb dX11_name_61 (by decide) (fun c19 => ?_) (fun c19 => ?_)
            · replace h := ot_ c19 h
              refine lv_iconst (v := 0) hx hb dX11_name_67 (by decide) ?_
              obtain rfl := os1 h
              exact th_iret hQ C hr hk T (Nat.le_of_ble_eq_true rfl) (Nat.le_of_ble_eq_true rfl) dX11_name_68
            · replace h := of_ c19 h
              refine lv_bipush (v := 6) hx hb dX11_name_64 (by decide) ?_
              obtain rfl := os1 h
              exact th_iret hQ C hr hk T (Nat.le_of_ble_eq_true rfl) (Nat.le_of_ble_eq_true rfl) dX11_name_66
          · replace h := of_ c16 h
            refine lv_iconst (v := 5) hx hb dX11_name_53 (by decide) ?_
            obtain rfl := os1 h
            exact th_iret hQ C hr hk T (Nat.le_of_ble_eq_true rfl) (Nat.le_of_ble_eq_true rfl) dX11_name_54
        · replace h := of_ c13 h
          refine lv_iconst (v := 4) hx hb dX11_name_42 (by decide) ?_
          obtain rfl := os1 h
          exact th_iret hQ C hr hk T (Nat.le_of_ble_eq_true rfl) (Nat.le_of_ble_eq_true rfl) dX11_name_43
      · replace h := of_ c10 h
        refine lv_iconst (v := 3) hx hb dX11_name_31 (by decide) ?_
        obtain rfl := os1 h
        exact th_iret hQ C hr hk T (Nat.le_of_ble_eq_true rfl) (Nat.le_of_ble_eq_true rfl) dX11_name_32
    · replace h := of_ c7 h
      refine lv_iconst (v := 2) hx hb dX11_name_20 (by decide) ?_
      obtain rfl := os1 h
      exact th_iret hQ C hr hk T (Nat.le_of_ble_eq_true rfl) (Nat.le_of_ble_eq_true rfl) dX11_name_21
  · replace h := of_ c4 h
    refine lv_iconst (v := 1) hx hb dX11_name_9 (by decide) ?_
    obtain rfl := os1 h
    exact th_iret hQ C hr hk T (Nat.le_of_ble_eq_true rfl) (Nat.le_of_ble_eq_true rfl) dX11_name_10
set_option maxRecDepth 100000 in
set_option maxHeartbeats 4000000 in
theorem c_X11_is_ {l : Launch} {G : th_G} {σ : th_S} {μ : th_M} {t : Nat} {x1 : Int32} {r : Int32} (h : f_X11_is_ σ μ t x1 = some r) : th_Met l G yX11_is_ cX11_is_ 2 (some FieldType.boolean) { frames := 0, cells := 0, slots := 0, locals := 0 } [.ref t, .int x1] σ μ (some (.int r)) σ μ := by
  refine th_ofW (by decide +kernel) (Nat.le_of_ble_eq_true rfl) ?_
  intro p e s m args below meth c ls Q hQ C hr hk hnm T hl
  have hx := C.1
  have hb := C.2.1
  have C : CallFix p m c cX11_is_ 2 s args th_ws RX11 := C
  have hl : lv_has ls 2 [(0, .ref t), (1, .int x1)] := hl
  unfold f_X11_is_ at h
  refine lv_aload_n hx hb dX11_is__0 rfl (lv_at hl 0 rfl) ?_
  obtain ⟨v1, e2, h⟩ := ob_ h
  refine g_RX11_165 C T e2 dX11_is__1 ?_
  refine lv_iconst (v := 3) hx hb dX11_is__4 (by decide) ?_
  refine lv_icmp_ne (tgt := 20) hx hb dX11_is__5 (by decide) (fun c3 => ?_) (fun c3 => ?_)
  · replace h := of_ c3 h
    refine lv_iconst (v := 0) hx hb dX11_is__20 (by decide) ?_
    obtain rfl := os1 h
    exact th_zret hQ C hr hk T (Nat.le_of_ble_eq_true rfl) (Nat.le_of_ble_eq_true rfl) dX11_is__21 rfl
  · replace h := ot_ c3 h
    refine lv_aload_n hx hb dX11_is__8 rfl (lv_at hl 0 rfl) ?_
    obtain ⟨v4, e5, h⟩ := ob_ h
    refine g_RX11_171 C T e5 dX11_is__9 ?_
    refine lv_iload_n hx hb dX11_is__12 rfl (lv_at hl 1 rfl) ?_
    refine lv_icmp_ne (tgt := 20) hx hb dX11_is__13 (by decide) (fun c6 => ?_) (fun c6 => ?_)
    · replace h := of_ c6 h
      refine lv_iconst (v := 0) hx hb dX11_is__20 (by decide) ?_
      obtain rfl := os1 h
      exact th_zret hQ C hr hk T (Nat.le_of_ble_eq_true rfl) (Nat.le_of_ble_eq_true rfl) dX11_is__21 rfl
    · replace h := ot_ c6 h
      refine lv_iconst (v := 1) hx hb dX11_is__16 (by decide) ?_
      refine lv_goto (tgt := 21) hx hb dX11_is__17 (by decide) ?_
      obtain rfl := os1 h
      exact th_zret hQ C hr hk T (Nat.le_of_ble_eq_true rfl) (Nat.le_of_ble_eq_true rfl) dX11_is__21 rfl
def IH_X11_any (l : Launch) (G : th_G) (d : Nat) : Prop :=
  (∀ (σ : th_S) (μ : th_M) (t : Nat) (r : Int32) (μ' : th_M), f_scc_X11_any d 0 σ μ t = some (r, μ') → th_Met l G yX11_any cX11_any 1 (some FieldType.boolean) { frames := 7 + d, cells := 0, slots := 0, locals := 303 + 21 * d } [.ref t] σ μ (some (.int r)) σ μ') ∧
  (∀ (σ : th_S) (μ : th_M) (t : Nat) (r : Int32) (μ' : th_M), f_scc_X11_any d 1 σ μ t = some (r, μ') → th_Met l G yX11_both cX11_both 1 (some FieldType.boolean) { frames := 7 + d, cells := 0, slots := 0, locals := 303 + 21 * d } [.ref t] σ μ (some (.int r)) σ μ') ∧
  (∀ (σ : th_S) (μ : th_M) (t : Nat) (r : Int32) (μ' : th_M), f_scc_X11_any d 2 σ μ t = some (r, μ') → th_Met l G yX11_not cX11_not 2 (some FieldType.boolean) { frames := 7 + d, cells := 0, slots := 0, locals := 303 + 21 * d } [.ref t] σ μ (some (.int r)) σ μ') ∧
  (∀ (σ : th_S) (μ : th_M) (t : Nat) (r : Int32) (μ' : th_M), f_scc_X11_any d 3 σ μ t = some (r, μ') → th_Met l G yX11_sum cX11_sum 2 (some FieldType.boolean) { frames := 7 + d, cells := 0, slots := 0, locals := 303 + 21 * d } [.ref t] σ μ (some (.int r)) σ μ') ∧
  (∀ (σ : th_S) (μ : th_M) (t : Nat) (r : Int32) (μ' : th_M), f_scc_X11_any d 4 σ μ t = some (r, μ') → th_Met l G yX11_term cX11_term 1 (some FieldType.boolean) { frames := 7 + d, cells := 0, slots := 0, locals := 303 + 21 * d } [.ref t] σ μ (some (.int r)) σ μ') ∧
  (∀ (σ : th_S) (μ : th_M) (t : Nat) (r : Int32) (μ' : th_M), f_scc_X11_any d 5 σ μ t = some (r, μ') → th_Met l G yX11_one cX11_one 2 (some FieldType.boolean) { frames := 7 + d, cells := 0, slots := 0, locals := 303 + 21 * d } [.ref t] σ μ (some (.int r)) σ μ')
theorem ih_0_X11_any {l : Launch} {G : th_G} {σ : th_S} {μ : th_M} {t : Nat} {r : Int32} {μ' : th_M} {d : Nat} (IH : IH_X11_any l G d) (h : f_scc_X11_any d 0 σ μ t = some (r, μ')) : th_Met l G yX11_any cX11_any 1 (some FieldType.boolean) { frames := 7 + d, cells := 0, slots := 0, locals := 303 + 21 * d } [.ref t] σ μ (some (.int r)) σ μ' := IH.1 _ _ _ _ _ h
theorem ih_1_X11_any {l : Launch} {G : th_G} {σ : th_S} {μ : th_M} {t : Nat} {r : Int32} {μ' : th_M} {d : Nat} (IH : IH_X11_any l G d) (h : f_scc_X11_any d 1 σ μ t = some (r, μ')) : th_Met l G yX11_both cX11_both 1 (some FieldType.boolean) { frames := 7 + d, cells := 0, slots := 0, locals := 303 + 21 * d } [.ref t] σ μ (some (.int r)) σ μ' := IH.2.1 _ _ _ _ _ h
theorem ih_2_X11_any {l : Launch} {G : th_G} {σ : th_S} {μ : th_M} {t : Nat} {r : Int32} {μ' : th_M} {d : Nat} (IH : IH_X11_any l G d) (h : f_scc_X11_any d 2 σ μ t = some (r, μ')) : th_Met l G yX11_not cX11_not 2 (some FieldType.boolean) { frames := 7 + d, cells := 0, slots := 0, locals := 303 + 21 * d } [.ref t] σ μ (some (.int r)) σ μ' := IH.2.2.1 _ _ _ _ _ h
theorem ih_3_X11_any {l : Launch} {G : th_G} {σ : th_S} {μ : th_M} {t : Nat} {r : Int32} {μ' : th_M} {d : Nat} (IH : IH_X11_any l G d) (h : f_scc_X11_any d 3 σ μ t = some (r, μ')) : th_Met l G yX11_sum cX11_sum 2 (some FieldType.boolean) { frames := 7 + d, cells := 0, slots := 0, locals := 303 + 21 * d } [.ref t] σ μ (some (.int r)) σ μ' := IH.2.2.2.1 _ _ _ _ _ h
theorem ih_4_X11_any {l : Launch} {G : th_G} {σ : th_S} {μ : th_M} {t : Nat} {r : Int32} {μ' : th_M} {d : Nat} (IH : IH_X11_any l G d) (h : f_scc_X11_any d 4 σ μ t = some (r, μ')) : th_Met l G yX11_term cX11_term 1 (some FieldType.boolean) { frames := 7 + d, cells := 0, slots := 0, locals := 303 + 21 * d } [.ref t] σ μ (some (.int r)) σ μ' := IH.2.2.2.2.1 _ _ _ _ _ h
theorem ih_5_X11_any {l : Launch} {G : th_G} {σ : th_S} {μ : th_M} {t : Nat} {r : Int32} {μ' : th_M} {d : Nat} (IH : IH_X11_any l G d) (h : f_scc_X11_any d 5 σ μ t = some (r, μ')) : th_Met l G yX11_one cX11_one 2 (some FieldType.boolean) { frames := 7 + d, cells := 0, slots := 0, locals := 303 + 21 * d } [.ref t] σ μ (some (.int r)) σ μ' := IH.2.2.2.2.2 _ _ _ _ _ h
set_option maxRecDepth 100000 in
set_option maxHeartbeats 4000000 in
theorem cb_X11_any {l : Launch} {G : th_G} {σ : th_S} {μ : th_M} {t : Nat} {r : Int32} {μ' : th_M} (d : Nat) (IH : IH_X11_any l G d) (h : fb_X11_any (f_scc_X11_any d) σ μ t = some (r, μ')) : th_Met l G yX11_any cX11_any 1 (some FieldType.boolean) { frames := 7 + (d + 1), cells := 0, slots := 0, locals := 303 + 21 * (d + 1) } [.ref t] σ μ (some (.int r)) σ μ' := by
  refine th_ofW (by decide +kernel) (Nat.le_of_ble_eq_true rfl) ?_
  intro p e s m args below meth c ls Q hQ C hr hk hnm T hl
  have hx := C.1
  have hb := C.2.1
  have C : CallFix p m c cX11_any 1 s args th_ws RX11 := C
  have hl : lv_has ls 1 [(0, .ref t)] := hl
  have J9 : ∀ (n : Nat) (μ : th_M) (t : Nat) (H : Heap) (locs : List Loc) (ls : Array Slot), th_R G s H locs σ μ → lv_has ls 1 [(0, .ref t)] → f_X11_any_b9 (f_scc_X11_any d)  n σ μ t = some (r, μ') → W p l e { frames := 7 + (d + 1), cells := 0, slots := 0, locals := 303 + 21 * (d + 1) } s m args below meth c H locs 0 0 Q (F0 m 9 ls []) := by
    intro n
    induction n with
    | zero => intro μ t H locs ls T hl h; unfold f_X11_any_b9 at h; cases h
    | succ n9 ih9 =>
      intro μ t H locs ls T hl h
      unfold f_X11_any_b9 at h
      refine lv_aload_n hx hb dX11_any_9 rfl (lv_at hl 0 rfl) ?_
      refine th_ldcS C T 23 rfl dX11_any_10 ?_
      obtain ⟨k1, h⟩ := oc_ h
      obtain ⟨v2, e3, h⟩ := ob_ h
      refine th_callV (As := [.ref (G.2.2.2.1 10)]) (rest := []) C T (c_X11_is e3) k_RX11_178 11 rfl rfl (by decide) k1 rfl hl.1 rfl (st1 := [.int v2]) rfl (cells1 := 0) rfl (slots1 := 0) rfl (Nat.le_of_ble_eq_true rfl) ⟨show 5 + 1 ≤ 7 + (d + 1) by omega, show 8 + (3 + 11) + 261 ≤ 303 + 21 * (d + 1) by omega⟩ ⟨Nat.le_of_ble_eq_true rfl, Nat.le_of_ble_eq_true rfl⟩ dX11_any_12 (fun H locs T => ?_)
      refine lv_if_eq (tgt := 40) hx hb dX11_any_15 (by decide) (fun c4 => ?_) (fun c4 => ?_)
      · replace h := ot_ c4 h
        refine lv_iconst (v := 1) hx hb dX11_any_40 (by decide) ?_
        obtain ⟨rfl, rfl⟩ := os2 h
        exact th_zret hQ C hr hk T (Nat.le_of_ble_eq_true rfl) (Nat.le_of_ble_eq_true rfl) dX11_any_41 rfl
      · replace h := of_ c4 h
        refine lv_aload_n hx hb dX11_any_18 rfl (lv_at hl 0 rfl) ?_
        obtain ⟨μ5, e6, h⟩ := ob_ h
        refine th_callV (As := []) (rest := []) C T (c_X11_next e6) k_RX11_202 11 rfl rfl (by decide) k1 rfl hl.1 rfl (st1 := []) rfl (cells1 := 0) rfl (slots1 := 0) rfl (Nat.le_of_ble_eq_true rfl) ⟨show 1 + 1 ≤ 7 + (d + 1) by omega, show 8 + (2 + 11) + 20 ≤ 303 + 21 * (d + 1) by omega⟩ ⟨Nat.le_of_ble_eq_true rfl, Nat.le_of_ble_eq_true rfl⟩ dX11_any_19 (fun H locs T => ?_)
        refine lv_aload_n hx hb dX11_any_22 rfl (lv_at hl 0 rfl) ?_
        obtain ⟨v7, μ8, e9, h⟩ := ob2 h
        refine th_callV (As := []) (rest := []) C T (ih_1_X11_any IH e9) k_RX11_196 11 rfl rfl (by decide) k1 rfl hl.1 rfl (st1 := [.int v7]) rfl (cells1 := 0) rfl (slots1 := 0) rfl (Nat.le_of_ble_eq_true rfl) ⟨show 7 + d + 1 ≤ 7 + (d + 1) by omega, show 8 + (1 + 11) + (303 + 21 * d) ≤ 303 + 21 * (d + 1) by omega⟩ ⟨Nat.le_of_ble_eq_true rfl, Nat.le_of_ble_eq_true rfl⟩ dX11_any_23 (fun H locs T => ?_)
        refine lv_if_ne (tgt := 31) hx hb dX11_any_26 (by decide) (fun c10 => ?_) (fun c10 => ?_)
        · replace h := of_ c10 h
          refine lv_aload_n hx hb dX11_any_31 rfl (lv_at hl 0 rfl) ?_
          refine lv_bipush (v := -11) hx hb dX11_any_32 (by decide) ?_
          obtain ⟨μ11, e12, h⟩ := ob_ h
          refine th_callV (As := [.int (-11)]) (rest := []) C T (c_X11_put e12) k_RX11_205 11 rfl rfl (by decide) k1 rfl hl.1 rfl (st1 := []) rfl (cells1 := 0) rfl (slots1 := 0) rfl (Nat.le_of_ble_eq_true rfl) ⟨show 0 + 1 ≤ 7 + (d + 1) by omega, show 8 + (2 + 11) + 0 ≤ 303 + 21 * (d + 1) by omega⟩ ⟨Nat.le_of_ble_eq_true rfl, Nat.le_of_ble_eq_true rfl⟩ dX11_any_34 (fun H locs T => ?_)
          refine lv_goto (tgt := 9) hx hb dX11_any_37 (by decide) ?_
          exact ih9 _ _ _ _ _ T (lv_sub hl [0] rfl) h
        · replace h := ot_ c10 h
          refine lv_iconst (v := 0) hx hb dX11_any_29 (by decide) ?_
          obtain ⟨rfl, rfl⟩ := os2 h
          exact th_zret hQ C hr hk T (Nat.le_of_ble_eq_true rfl) (Nat.le_of_ble_eq_true rfl) dX11_any_30 rfl
  unfold fb_X11_any at h
  refine lv_aload_n hx hb dX11_any_0 rfl (lv_at hl 0 rfl) ?_
  obtain ⟨k1, h⟩ := oc_ h
  obtain ⟨v2, μ3, e4, h⟩ := ob2 h
  refine th_callV (As := []) (rest := []) C T (ih_1_X11_any IH e4) k_RX11_196 11 rfl rfl (by decide) k1 rfl hl.1 rfl (st1 := [.int v2]) rfl (cells1 := 0) rfl (slots1 := 0) rfl (Nat.le_of_ble_eq_true rfl) ⟨show 7 + d + 1 ≤ 7 + (d + 1) by omega, show 8 + (1 + 11) + (303 + 21 * d) ≤ 303 + 21 * (d + 1) by omega⟩ ⟨Nat.le_of_ble_eq_true rfl, Nat.le_of_ble_eq_true rfl⟩ dX11_any_1 (fun H locs T => ?_)
  refine lv_if_ne (tgt := 9) hx hb dX11_any_4 (by decide) (fun c5 => ?_) (fun c5 => ?_)
  · replace h := of_ c5 h
    exact J9 fu _ _ _ _ _ T (lv_sub hl [0] rfl) h
  · replace h := ot_ c5 h
    refine lv_iconst (v := 0) hx hb dX11_any_7 (by decide) ?_
    obtain ⟨rfl, rfl⟩ := os2 h
    exact th_zret hQ C hr hk T (Nat.le_of_ble_eq_true rfl) (Nat.le_of_ble_eq_true rfl) dX11_any_8 rfl
set_option maxRecDepth 100000 in
set_option maxHeartbeats 4000000 in
theorem cb_X11_both {l : Launch} {G : th_G} {σ : th_S} {μ : th_M} {t : Nat} {r : Int32} {μ' : th_M} (d : Nat) (IH : IH_X11_any l G d) (h : fb_X11_both (f_scc_X11_any d) σ μ t = some (r, μ')) : th_Met l G yX11_both cX11_both 1 (some FieldType.boolean) { frames := 7 + (d + 1), cells := 0, slots := 0, locals := 303 + 21 * (d + 1) } [.ref t] σ μ (some (.int r)) σ μ' := by
  refine th_ofW (by decide +kernel) (Nat.le_of_ble_eq_true rfl) ?_
  intro p e s m args below meth c ls Q hQ C hr hk hnm T hl
  have hx := C.1
  have hb := C.2.1
  have C : CallFix p m c cX11_both 1 s args th_ws RX11 := C
  have hl : lv_has ls 1 [(0, .ref t)] := hl
  have J9 : ∀ (n : Nat) (μ : th_M) (t : Nat) (H : Heap) (locs : List Loc) (ls : Array Slot), th_R G s H locs σ μ → lv_has ls 1 [(0, .ref t)] → f_X11_both_b9 (f_scc_X11_any d)  n σ μ t = some (r, μ') → W p l e { frames := 7 + (d + 1), cells := 0, slots := 0, locals := 303 + 21 * (d + 1) } s m args below meth c H locs 0 0 Q (F0 m 9 ls []) := by
    intro n
    induction n with
    | zero => intro μ t H locs ls T hl h; unfold f_X11_both_b9 at h; cases h
    | succ n9 ih9 =>
      intro μ t H locs ls T hl h
      unfold f_X11_both_b9 at h
      refine lv_aload_n hx hb dX11_both_9 rfl (lv_at hl 0 rfl) ?_
      refine th_ldcS C T 22 rfl dX11_both_10 ?_
      obtain ⟨k1, h⟩ := oc_ h
      obtain ⟨v2, e3, h⟩ := ob_ h
      refine th_callV (As := [.ref (G.2.2.2.1 11)]) (rest := []) C T (c_X11_is e3) k_RX11_178 11 rfl rfl (by decide) k1 rfl hl.1 rfl (st1 := [.int v2]) rfl (cells1 := 0) rfl (slots1 := 0) rfl (Nat.le_of_ble_eq_true rfl) ⟨show 5 + 1 ≤ 7 + (d + 1) by omega, show 8 + (3 + 11) + 261 ≤ 303 + 21 * (d + 1) by omega⟩ ⟨Nat.le_of_ble_eq_true rfl, Nat.le_of_ble_eq_true rfl⟩ dX11_both_12 (fun H locs T => ?_)
      refine lv_if_eq (tgt := 40) hx hb dX11_both_15 (by decide) (fun c4 => ?_) (fun c4 => ?_)
      · replace h := ot_ c4 h
        refine lv_iconst (v := 1) hx hb dX11_both_40 (by decide) ?_
        obtain ⟨rfl, rfl⟩ := os2 h
        exact th_zret hQ C hr hk T (Nat.le_of_ble_eq_true rfl) (Nat.le_of_ble_eq_true rfl) dX11_both_41 rfl
      · replace h := of_ c4 h
        refine lv_aload_n hx hb dX11_both_18 rfl (lv_at hl 0 rfl) ?_
        obtain ⟨μ5, e6, h⟩ := ob_ h
        refine th_callV (As := []) (rest := []) C T (c_X11_next e6) k_RX11_202 11 rfl rfl (by decide) k1 rfl hl.1 rfl (st1 := []) rfl (cells1 := 0) rfl (slots1 := 0) rfl (Nat.le_of_ble_eq_true rfl) ⟨show 1 + 1 ≤ 7 + (d + 1) by omega, show 8 + (2 + 11) + 20 ≤ 303 + 21 * (d + 1) by omega⟩ ⟨Nat.le_of_ble_eq_true rfl, Nat.le_of_ble_eq_true rfl⟩ dX11_both_19 (fun H locs T => ?_)
        refine lv_aload_n hx hb dX11_both_22 rfl (lv_at hl 0 rfl) ?_
        obtain ⟨v7, μ8, e9, h⟩ := ob2 h
        refine th_callV (As := []) (rest := []) C T (ih_2_X11_any IH e9) k_RX11_209 11 rfl rfl (by decide) k1 rfl hl.1 rfl (st1 := [.int v7]) rfl (cells1 := 0) rfl (slots1 := 0) rfl (Nat.le_of_ble_eq_true rfl) ⟨show 7 + d + 1 ≤ 7 + (d + 1) by omega, show 8 + (2 + 11) + (303 + 21 * d) ≤ 303 + 21 * (d + 1) by omega⟩ ⟨Nat.le_of_ble_eq_true rfl, Nat.le_of_ble_eq_true rfl⟩ dX11_both_23 (fun H locs T => ?_)
        refine lv_if_ne (tgt := 31) hx hb dX11_both_26 (by decide) (fun c10 => ?_) (fun c10 => ?_)
        · replace h := of_ c10 h
          refine lv_aload_n hx hb dX11_both_31 rfl (lv_at hl 0 rfl) ?_
          refine lv_bipush (v := -12) hx hb dX11_both_32 (by decide) ?_
          obtain ⟨μ11, e12, h⟩ := ob_ h
          refine th_callV (As := [.int (-12)]) (rest := []) C T (c_X11_put e12) k_RX11_205 11 rfl rfl (by decide) k1 rfl hl.1 rfl (st1 := []) rfl (cells1 := 0) rfl (slots1 := 0) rfl (Nat.le_of_ble_eq_true rfl) ⟨show 0 + 1 ≤ 7 + (d + 1) by omega, show 8 + (2 + 11) + 0 ≤ 303 + 21 * (d + 1) by omega⟩ ⟨Nat.le_of_ble_eq_true rfl, Nat.le_of_ble_eq_true rfl⟩ dX11_both_34 (fun H locs T => ?_)
          refine lv_goto (tgt := 9) hx hb dX11_both_37 (by decide) ?_
          exact ih9 _ _ _ _ _ T (lv_sub hl [0] rfl) h
        · replace h := ot_ c10 h
          refine lv_iconst (v := 0) hx hb dX11_both_29 (by decide) ?_
          obtain ⟨rfl, rfl⟩ := os2 h
          exact th_zret hQ C hr hk T (Nat.le_of_ble_eq_true rfl) (Nat.le_of_ble_eq_true rfl) dX11_both_30 rfl
  unfold fb_X11_both at h
  refine lv_aload_n hx hb dX11_both_0 rfl (lv_at hl 0 rfl) ?_
  obtain ⟨k1, h⟩ := oc_ h
  obtain ⟨v2, μ3, e4, h⟩ := ob2 h
  refine th_callV (As := []) (rest := []) C T (ih_2_X11_any IH e4) k_RX11_209 11 rfl rfl (by decide) k1 rfl hl.1 rfl (st1 := [.int v2]) rfl (cells1 := 0) rfl (slots1 := 0) rfl (Nat.le_of_ble_eq_true rfl) ⟨show 7 + d + 1 ≤ 7 + (d + 1) by omega, show 8 + (2 + 11) + (303 + 21 * d) ≤ 303 + 21 * (d + 1) by omega⟩ ⟨Nat.le_of_ble_eq_true rfl, Nat.le_of_ble_eq_true rfl⟩ dX11_both_1 (fun H locs T => ?_)
  refine lv_if_ne (tgt := 9) hx hb dX11_both_4 (by decide) (fun c5 => ?_) (fun c5 => ?_)
  · replace h := of_ c5 h
    exact J9 fu _ _ _ _ _ T (lv_sub hl [0] rfl) h
  · replace h := ot_ c5 h
    refine lv_iconst (v := 0) hx hb dX11_both_7 (by decide) ?_
    obtain ⟨rfl, rfl⟩ := os2 h
    exact th_zret hQ C hr hk T (Nat.le_of_ble_eq_true rfl) (Nat.le_of_ble_eq_true rfl) dX11_both_8 rfl
set_option maxRecDepth 100000 in
set_option maxHeartbeats 4000000 in
theorem cb_X11_not {l : Launch} {G : th_G} {σ : th_S} {μ : th_M} {t : Nat} {r : Int32} {μ' : th_M} (d : Nat) (IH : IH_X11_any l G d) (h : fb_X11_not (f_scc_X11_any d) σ μ t = some (r, μ')) : th_Met l G yX11_not cX11_not 2 (some FieldType.boolean) { frames := 7 + (d + 1), cells := 0, slots := 0, locals := 303 + 21 * (d + 1) } [.ref t] σ μ (some (.int r)) σ μ' := by
  refine th_ofW (by decide +kernel) (Nat.le_of_ble_eq_true rfl) ?_
  intro p e s m args below meth c ls Q hQ C hr hk hnm T hl
  have hx := C.1
  have hb := C.2.1
  have C : CallFix p m c cX11_not 2 s args th_ws RX11 := C
  have hl : lv_has ls 2 [(0, .ref t)] := hl
  have J103 : ∀ (μ : th_M) (t : Nat) (y0 : Int32) (H : Heap) (locs : List Loc) (ls : Array Slot), th_R G s H locs σ μ → lv_has ls 2 [(0, .ref t)] → f_X11_not_b103 (f_scc_X11_any d) σ μ t y0 = some (r, μ') → W p l e { frames := 7 + (d + 1), cells := 0, slots := 0, locals := 303 + 21 * (d + 1) } s m args below meth c H locs 0 0 Q (F0 m 103 ls [.int y0]) := by
    intro μ t y0 H locs ls T hl h
    unfold f_X11_not_b103 at h
    refine lv_istore_n (lv' := [(1, .int y0), (0, .ref t)]) hx hb dX11_not_103 rfl hl (by decide) rfl (fun ls hl => ?_)
    refine lv_aload_n hx hb dX11_not_104 rfl (lv_at hl 1 rfl) ?_
    obtain ⟨k1, h⟩ := oc_ h
    obtain ⟨μ2, e3, h⟩ := ob_ h
    refine th_callV (As := []) (rest := []) C T (c_X11_next e3) k_RX11_202 11 rfl rfl (by decide) k1 rfl hl.1 rfl (st1 := []) rfl (cells1 := 0) rfl (slots1 := 0) rfl (Nat.le_of_ble_eq_true rfl) ⟨show 1 + 1 ≤ 7 + (d + 1) by omega, show 8 + (2 + 11) + 20 ≤ 303 + 21 * (d + 1) by omega⟩ ⟨Nat.le_of_ble_eq_true rfl, Nat.le_of_ble_eq_true rfl⟩ dX11_not_105 (fun H locs T => ?_)
    refine lv_aload_n hx hb dX11_not_108 rfl (lv_at hl 1 rfl) ?_
    obtain ⟨v4, μ5, e6, h⟩ := ob2 h
    refine th_callV (As := []) (rest := []) C T (ih_3_X11_any IH e6) k_RX11_218 11 rfl rfl (by decide) k1 rfl hl.1 rfl (st1 := [.int v4]) rfl (cells1 := 0) rfl (slots1 := 0) rfl (Nat.le_of_ble_eq_true rfl) ⟨show 7 + d + 1 ≤ 7 + (d + 1) by omega, show 8 + (2 + 11) + (303 + 21 * d) ≤ 303 + 21 * (d + 1) by omega⟩ ⟨Nat.le_of_ble_eq_true rfl, Nat.le_of_ble_eq_true rfl⟩ dX11_not_109 (fun H locs T => ?_)
    refine lv_if_ne (tgt := 117) hx hb dX11_not_112 (by decide) (fun c7 => ?_) (fun c7 => ?_)
    · replace h := of_ c7 h
      refine lv_aload_n hx hb dX11_not_117 rfl (lv_at hl 1 rfl) ?_
      refine lv_iload_n hx hb dX11_not_118 rfl (lv_at hl 0 rfl) ?_
      obtain ⟨μ8, e9, h⟩ := ob_ h
      refine th_callV (As := [.int y0]) (rest := []) C T (c_X11_put e9) k_RX11_205 11 rfl rfl (by decide) k1 rfl hl.1 rfl (st1 := []) rfl (cells1 := 0) rfl (slots1 := 0) rfl (Nat.le_of_ble_eq_true rfl) ⟨show 0 + 1 ≤ 7 + (d + 1) by omega, show 8 + (2 + 11) + 0 ≤ 303 + 21 * (d + 1) by omega⟩ ⟨Nat.le_of_ble_eq_true rfl, Nat.le_of_ble_eq_true rfl⟩ dX11_not_119 (fun H locs T => ?_)
      refine lv_iconst (v := 1) hx hb dX11_not_122 (by decide) ?_
      obtain ⟨rfl, rfl⟩ := os2 h
      exact th_zret hQ C hr hk T (Nat.le_of_ble_eq_true rfl) (Nat.le_of_ble_eq_true rfl) dX11_not_123 rfl
    · replace h := ot_ c7 h
      refine lv_iconst (v := 0) hx hb dX11_not_115 (by decide) ?_
      obtain ⟨rfl, rfl⟩ := os2 h
      exact th_zret hQ C hr hk T (Nat.le_of_ble_eq_true rfl) (Nat.le_of_ble_eq_true rfl) dX11_not_116 rfl
  unfold fb_X11_not at h
  refine lv_aload_n hx hb dX11_not_0 rfl (lv_at hl 0 rfl) ?_
  refine th_ldcS C T 15 rfl dX11_not_1 ?_
  obtain ⟨k1, h⟩ := oc_ h
  obtain ⟨v2, e3, h⟩ := ob_ h
  refine th_callV (As := [.ref (G.2.2.2.1 12)]) (rest := []) C T (c_X11_is e3) k_RX11_178 11 rfl rfl (by decide) k1 rfl hl.1 rfl (st1 := [.int v2]) rfl (cells1 := 0) rfl (slots1 := 0) rfl (Nat.le_of_ble_eq_true rfl) ⟨show 5 + 1 ≤ 7 + (d + 1) by omega, show 8 + (3 + 11) + 261 ≤ 303 + 21 * (d + 1) by omega⟩ ⟨Nat.le_of_ble_eq_true rfl, Nat.le_of_ble_eq_true rfl⟩ dX11_not_3 (fun H locs T => ?_)
  refine lv_if_eq (tgt := 60) hx hb dX11_not_6 (by decide) (fun c4 => ?_) (fun c4 => ?_)
  · replace h := ot_ c4 h
    refine lv_aload_n hx hb dX11_not_60 rfl (lv_at hl 0 rfl) ?_
    obtain ⟨v5, μ6, e7, h⟩ := ob2 h
    refine th_callV (As := []) (rest := []) C T (ih_3_X11_any IH e7) k_RX11_218 11 rfl rfl (by decide) k1 rfl hl.1 rfl (st1 := [.int v5]) rfl (cells1 := 0) rfl (slots1 := 0) rfl (Nat.le_of_ble_eq_true rfl) ⟨show 7 + d + 1 ≤ 7 + (d + 1) by omega, show 8 + (2 + 11) + (303 + 21 * d) ≤ 303 + 21 * (d + 1) by omega⟩ ⟨Nat.le_of_ble_eq_true rfl, Nat.le_of_ble_eq_true rfl⟩ dX11_not_61 (fun H locs T => ?_)
    refine lv_if_ne (tgt := 69) hx hb dX11_not_64 (by decide) (fun c8 => ?_) (fun c8 => ?_)
    · replace h := of_ c8 h
      refine lv_aload_n hx hb dX11_not_69 rfl (lv_at hl 0 rfl) ?_
      refine lv_bipush (v := 60) hx hb dX11_not_70 (by decide) ?_
      obtain ⟨v9, e10, h⟩ := ob_ h
      refine th_callV (As := [.int 60]) (rest := []) C T (c_X11_is_ e10) k_RX11_221 11 rfl rfl (by decide) k1 rfl hl.1 rfl (st1 := [.int v9]) rfl (cells1 := 0) rfl (slots1 := 0) rfl (Nat.le_of_ble_eq_true rfl) ⟨show 0 + 1 ≤ 7 + (d + 1) by omega, show 8 + (2 + 11) + 0 ≤ 303 + 21 * (d + 1) by omega⟩ ⟨Nat.le_of_ble_eq_true rfl, Nat.le_of_ble_eq_true rfl⟩ dX11_not_72 (fun H locs T => ?_)
      refine lv_if_ne (tgt := 87) hx hb dX11_not_75 (by decide) (fun c11 => ?_) (fun c11 => ?_)
      · replace h := of_ c11 h
        refine lv_aload_n hx hb dX11_not_87 rfl (lv_at hl 0 rfl) ?_
        refine lv_bipush (v := 60) hx hb dX11_not_88 (by decide) ?_
        obtain ⟨v12, e13, h⟩ := ob_ h
        refine th_callV (As := [.int 60]) (rest := []) C T (c_X11_is_ e13) k_RX11_221 11 rfl rfl (by decide) k1 rfl hl.1 rfl (st1 := [.int v12]) rfl (cells1 := 0) rfl (slots1 := 0) rfl (Nat.le_of_ble_eq_true rfl) ⟨show 0 + 1 ≤ 7 + (d + 1) by omega, show 8 + (2 + 11) + 0 ≤ 303 + 21 * (d + 1) by omega⟩ ⟨Nat.le_of_ble_eq_true rfl, Nat.le_of_ble_eq_true rfl⟩ dX11_not_90 (fun H locs T => ?_)
        refine lv_if_eq (tgt := 101) hx hb dX11_not_93 (by decide) (fun c14 => ?_) (fun c14 => ?_)
        · replace h := ot_ c14 h
          refine lv_bipush (v := -15) hx hb dX11_not_101 (by decide) ?_
          exact J103 _ _ _ _ _ _ T (lv_sub hl [0] rfl) h
        · replace h := of_ c14 h
          refine lv_bipush (v := -14) hx hb dX11_not_96 (by decide) ?_
          refine lv_goto (tgt := 103) hx hb dX11_not_98 (by decide) ?_
          exact J103 _ _ _ _ _ _ T (lv_sub hl [0] rfl) h
      · replace h := ot_ c11 h
        refine lv_aload_n hx hb dX11_not_78 rfl (lv_at hl 0 rfl) ?_
        refine lv_bipush (v := 61) hx hb dX11_not_79 (by decide) ?_
        obtain ⟨v15, e16, h⟩ := ob_ h
        refine th_callV (As := [.int 61]) (rest := []) C T (c_X11_is_ e16) k_RX11_221 11 rfl rfl (by decide) k1 rfl hl.1 rfl (st1 := [.int v15]) rfl (cells1 := 0) rfl (slots1 := 0) rfl (Nat.le_of_ble_eq_true rfl) ⟨show 0 + 1 ≤ 7 + (d + 1) by omega, show 8 + (2 + 11) + 0 ≤ 303 + 21 * (d + 1) by omega⟩ ⟨Nat.le_of_ble_eq_true rfl, Nat.le_of_ble_eq_true rfl⟩ dX11_not_81 (fun H locs T => ?_)
        refine lv_if_eq (tgt := 122) hx hb dX11_not_84 (by decide) (fun c17 => ?_) (fun c17 => ?_)
        · replace h := ot_ c17 h
          refine lv_iconst (v := 1) hx hb dX11_not_122 (by decide) ?_
          obtain ⟨rfl, rfl⟩ := os2 h
          exact th_zret hQ C hr hk T (Nat.le_of_ble_eq_true rfl) (Nat.le_of_ble_eq_true rfl) dX11_not_123 rfl
        · replace h := of_ c17 h
          refine lv_aload_n hx hb dX11_not_87 rfl (lv_at hl 0 rfl) ?_
          refine lv_bipush (v := 60) hx hb dX11_not_88 (by decide) ?_
          obtain ⟨v18, e19, h⟩ := ob_ h
          refine th_callV (As := [.int 60]) (rest := []) C T (c_X11_is_ e19) k_RX11_221 11 rfl rfl (by decide) k1 rfl hl.1 rfl (st1 := [.int v18]) rfl (cells1 := 0) rfl (slots1 := 0) rfl (Nat.le_of_ble_eq_true rfl) ⟨show 0 + 1 ≤ 7 + (d + 1) by omega, show 8 + (2 + 11) + 0 ≤ 303 + 21 * (d + 1) by omega⟩ ⟨Nat.le_of_ble_eq_true rfl, Nat.le_of_ble_eq_true rfl⟩ dX11_not_90 (fun H locs T => ?_)
          refine lv_if_eq (tgt := 101) hx hb dX11_not_93 (by decide) (fun c20 => ?_) (fun c20 => ?_)
          · replace h := ot_ c20 h
            refine lv_bipush (v := -15) hx hb dX11_not_101 (by decide) ?_
            exact J103 _ _ _ _ _ _ T (lv_sub hl [0] rfl) h
          · replace h := of_ c20 h
            refine lv_bipush (v := -14) hx hb dX11_not_96 (by decide) ?_
            refine lv_goto (tgt := 103) hx hb dX11_not_98 (by decide) ?_
            exact J103 _ _ _ _ _ _ T (lv_sub hl [0] rfl) h
    · replace h := ot_ c8 h
      refine lv_iconst (v := 0) hx hb dX11_not_67 (by decide) ?_
      obtain ⟨rfl, rfl⟩ := os2 h
      exact th_zret hQ C hr hk T (Nat.le_of_ble_eq_true rfl) (Nat.le_of_ble_eq_true rfl) dX11_not_68 rfl
  · replace h := of_ c4 h
    refine lv_aload_n hx hb dX11_not_9 rfl (lv_at hl 0 rfl) ?_
    obtain ⟨v21, e22, h⟩ := ob_ h
    refine g_RX11_215 C T e22 dX11_not_10 ?_
    refine lv_iconst (v := 5) hx hb dX11_not_13 (by decide) ?_
    refine lv_icmp_ne (tgt := 19) hx hb dX11_not_14 (by decide) (fun c23 => ?_) (fun c23 => ?_)
    · replace h := of_ c23 h
      refine lv_aload_n hx hb dX11_not_19 rfl (lv_at hl 0 rfl) ?_
      refine lv_dup hx hb dX11_not_20 rfl ?_
      obtain ⟨v24, e25, h⟩ := ob_ h
      refine g_RX11_215 C T e25 dX11_not_21 ?_
      refine lv_iconst (v := 1) hx hb dX11_not_24 (by decide) ?_
      refine lv_iadd hx hb dX11_not_25 ?_
      obtain ⟨μ26, e27, h⟩ := ob_ h
      refine p_RX11_215 C T e27 dX11_not_26 (fun H locs T => ?_)
      refine lv_aload_n hx hb dX11_not_29 rfl (lv_at hl 0 rfl) ?_
      obtain ⟨μ28, e29, h⟩ := ob_ h
      refine th_callV (As := []) (rest := []) C T (c_X11_next e29) k_RX11_202 11 rfl rfl (by decide) k1 rfl hl.1 rfl (st1 := []) rfl (cells1 := 0) rfl (slots1 := 0) rfl (Nat.le_of_ble_eq_true rfl) ⟨show 1 + 1 ≤ 7 + (d + 1) by omega, show 8 + (2 + 11) + 20 ≤ 303 + 21 * (d + 1) by omega⟩ ⟨Nat.le_of_ble_eq_true rfl, Nat.le_of_ble_eq_true rfl⟩ dX11_not_30 (fun H locs T => ?_)
      refine lv_aload_n hx hb dX11_not_33 rfl (lv_at hl 0 rfl) ?_
      obtain ⟨v30, μ31, e32, h⟩ := ob2 h
      refine th_callV (As := []) (rest := []) C T (ih_2_X11_any IH e32) k_RX11_209 11 rfl rfl (by decide) k1 rfl hl.1 rfl (st1 := [.int v30]) rfl (cells1 := 0) rfl (slots1 := 0) rfl (Nat.le_of_ble_eq_true rfl) ⟨show 7 + d + 1 ≤ 7 + (d + 1) by omega, show 8 + (2 + 11) + (303 + 21 * d) ≤ 303 + 21 * (d + 1) by omega⟩ ⟨Nat.le_of_ble_eq_true rfl, Nat.le_of_ble_eq_true rfl⟩ dX11_not_34 (fun H locs T => ?_)
      refine lv_if_ne (tgt := 42) hx hb dX11_not_37 (by decide) (fun c33 => ?_) (fun c33 => ?_)
      · replace h := of_ c33 h
        refine lv_aload_n hx hb dX11_not_42 rfl (lv_at hl 0 rfl) ?_
        refine lv_dup hx hb dX11_not_43 rfl ?_
        obtain ⟨v34, e35, h⟩ := ob_ h
        refine g_RX11_215 C T e35 dX11_not_44 ?_
        refine lv_iconst (v := 1) hx hb dX11_not_47 (by decide) ?_
        refine lv_isub hx hb dX11_not_48 ?_
        obtain ⟨μ36, e37, h⟩ := ob_ h
        refine p_RX11_215 C T e37 dX11_not_49 (fun H locs T => ?_)
        refine lv_aload_n hx hb dX11_not_52 rfl (lv_at hl 0 rfl) ?_
        refine lv_bipush (v := -13) hx hb dX11_not_53 (by decide) ?_
        obtain ⟨μ38, e39, h⟩ := ob_ h
        refine th_callV (As := [.int (-13)]) (rest := []) C T (c_X11_put e39) k_RX11_205 11 rfl rfl (by decide) k1 rfl hl.1 rfl (st1 := []) rfl (cells1 := 0) rfl (slots1 := 0) rfl (Nat.le_of_ble_eq_true rfl) ⟨show 0 + 1 ≤ 7 + (d + 1) by omega, show 8 + (2 + 11) + 0 ≤ 303 + 21 * (d + 1) by omega⟩ ⟨Nat.le_of_ble_eq_true rfl, Nat.le_of_ble_eq_true rfl⟩ dX11_not_55 (fun H locs T => ?_)
        refine lv_iconst (v := 1) hx hb dX11_not_58 (by decide) ?_
        obtain ⟨rfl, rfl⟩ := os2 h
        exact th_zret hQ C hr hk T (Nat.le_of_ble_eq_true rfl) (Nat.le_of_ble_eq_true rfl) dX11_not_59 rfl
      · replace h := ot_ c33 h
        refine lv_iconst (v := 0) hx hb dX11_not_40 (by decide) ?_
        obtain ⟨rfl, rfl⟩ := os2 h
        exact th_zret hQ C hr hk T (Nat.le_of_ble_eq_true rfl) (Nat.le_of_ble_eq_true rfl) dX11_not_41 rfl
    · replace h := ot_ c23 h
      refine lv_iconst (v := 0) hx hb dX11_not_17 (by decide) ?_
      obtain ⟨rfl, rfl⟩ := os2 h
      exact th_zret hQ C hr hk T (Nat.le_of_ble_eq_true rfl) (Nat.le_of_ble_eq_true rfl) dX11_not_18 rfl
set_option maxRecDepth 100000 in
set_option maxHeartbeats 4000000 in
theorem cb_X11_sum {l : Launch} {G : th_G} {σ : th_S} {μ : th_M} {t : Nat} {r : Int32} {μ' : th_M} (d : Nat) (IH : IH_X11_any l G d) (h : fb_X11_sum (f_scc_X11_any d) σ μ t = some (r, μ')) : th_Met l G yX11_sum cX11_sum 2 (some FieldType.boolean) { frames := 7 + (d + 1), cells := 0, slots := 0, locals := 303 + 21 * (d + 1) } [.ref t] σ μ (some (.int r)) σ μ' := by
  refine th_ofW (by decide +kernel) (Nat.le_of_ble_eq_true rfl) ?_
  intro p e s m args below meth c ls Q hQ C hr hk hnm T hl
  have hx := C.1
  have hb := C.2.1
  have C : CallFix p m c cX11_sum 2 s args th_ws RX11 := C
  have hl : lv_has ls 2 [(0, .ref t)] := hl
  have J9 : ∀ (n : Nat) (μ : th_M) (t : Nat) (H : Heap) (locs : List Loc) (ls : Array Slot), th_R G s H locs σ μ → lv_has ls 2 [(0, .ref t)] → f_X11_sum_b9 (f_scc_X11_any d)  n σ μ t = some (r, μ') → W p l e { frames := 7 + (d + 1), cells := 0, slots := 0, locals := 303 + 21 * (d + 1) } s m args below meth c H locs 0 0 Q (F0 m 9 ls []) := by
    intro n
    induction n with
    | zero => intro μ t H locs ls T hl h; unfold f_X11_sum_b9 at h; cases h
    | succ n9 ih9 =>
      intro μ t H locs ls T hl h
      unfold f_X11_sum_b9 at h
      have J43 : ∀ (μ : th_M) (t : Nat) (y0 : Int32) (H : Heap) (locs : List Loc) (ls : Array Slot), th_R G s H locs σ μ → lv_has ls 2 [(0, .ref t)] → f_X11_sum_b43 (f_scc_X11_any d) (f_X11_sum_b9 (f_scc_X11_any d) n9) σ μ t y0 = some (r, μ') → W p l e { frames := 7 + (d + 1), cells := 0, slots := 0, locals := 303 + 21 * (d + 1) } s m args below meth c H locs 0 0 Q (F0 m 43 ls [.int y0]) := by
        intro μ t y0 H locs ls T hl h
        unfold f_X11_sum_b43 at h
        refine lv_istore_n (lv' := [(1, .int y0), (0, .ref t)]) hx hb dX11_sum_43 rfl hl (by decide) rfl (fun ls hl => ?_)
        refine lv_aload_n hx hb dX11_sum_44 rfl (lv_at hl 1 rfl) ?_
        obtain ⟨k1, h⟩ := oc_ h
        obtain ⟨μ2, e3, h⟩ := ob_ h
        refine th_callV (As := []) (rest := []) C T (c_X11_next e3) k_RX11_202 11 rfl rfl (by decide) k1 rfl hl.1 rfl (st1 := []) rfl (cells1 := 0) rfl (slots1 := 0) rfl (Nat.le_of_ble_eq_true rfl) ⟨show 1 + 1 ≤ 7 + (d + 1) by omega, show 8 + (2 + 11) + 20 ≤ 303 + 21 * (d + 1) by omega⟩ ⟨Nat.le_of_ble_eq_true rfl, Nat.le_of_ble_eq_true rfl⟩ dX11_sum_45 (fun H locs T => ?_)
        refine lv_aload_n hx hb dX11_sum_48 rfl (lv_at hl 1 rfl) ?_
        obtain ⟨v4, μ5, e6, h⟩ := ob2 h
        refine th_callV (As := []) (rest := []) C T (ih_4_X11_any IH e6) k_RX11_224 11 rfl rfl (by decide) k1 rfl hl.1 rfl (st1 := [.int v4]) rfl (cells1 := 0) rfl (slots1 := 0) rfl (Nat.le_of_ble_eq_true rfl) ⟨show 7 + d + 1 ≤ 7 + (d + 1) by omega, show 8 + (1 + 11) + (303 + 21 * d) ≤ 303 + 21 * (d + 1) by omega⟩ ⟨Nat.le_of_ble_eq_true rfl, Nat.le_of_ble_eq_true rfl⟩ dX11_sum_49 (fun H locs T => ?_)
        refine lv_if_ne (tgt := 57) hx hb dX11_sum_52 (by decide) (fun c7 => ?_) (fun c7 => ?_)
        · replace h := of_ c7 h
          refine lv_aload_n hx hb dX11_sum_57 rfl (lv_at hl 1 rfl) ?_
          refine lv_iload_n hx hb dX11_sum_58 rfl (lv_at hl 0 rfl) ?_
          obtain ⟨μ8, e9, h⟩ := ob_ h
          refine th_callV (As := [.int y0]) (rest := []) C T (c_X11_put e9) k_RX11_205 11 rfl rfl (by decide) k1 rfl hl.1 rfl (st1 := []) rfl (cells1 := 0) rfl (slots1 := 0) rfl (Nat.le_of_ble_eq_true rfl) ⟨show 0 + 1 ≤ 7 + (d + 1) by omega, show 8 + (2 + 11) + 0 ≤ 303 + 21 * (d + 1) by omega⟩ ⟨Nat.le_of_ble_eq_true rfl, Nat.le_of_ble_eq_true rfl⟩ dX11_sum_59 (fun H locs T => ?_)
          refine lv_goto (tgt := 9) hx hb dX11_sum_62 (by decide) ?_
          exact ih9 _ _ _ _ _ T (lv_sub hl [1] rfl) h
        · replace h := ot_ c7 h
          refine lv_iconst (v := 0) hx hb dX11_sum_55 (by decide) ?_
          obtain ⟨rfl, rfl⟩ := os2 h
          exact th_zret hQ C hr hk T (Nat.le_of_ble_eq_true rfl) (Nat.le_of_ble_eq_true rfl) dX11_sum_56 rfl
      refine lv_aload_n hx hb dX11_sum_9 rfl (lv_at hl 0 rfl) ?_
      refine lv_bipush (v := 43) hx hb dX11_sum_10 (by decide) ?_
      obtain ⟨k1, h⟩ := oc_ h
      obtain ⟨v2, e3, h⟩ := ob_ h
      refine th_callV (As := [.int 43]) (rest := []) C T (c_X11_is_ e3) k_RX11_221 11 rfl rfl (by decide) k1 rfl hl.1 rfl (st1 := [.int v2]) rfl (cells1 := 0) rfl (slots1 := 0) rfl (Nat.le_of_ble_eq_true rfl) ⟨show 0 + 1 ≤ 7 + (d + 1) by omega, show 8 + (2 + 11) + 0 ≤ 303 + 21 * (d + 1) by omega⟩ ⟨Nat.le_of_ble_eq_true rfl, Nat.le_of_ble_eq_true rfl⟩ dX11_sum_12 (fun H locs T => ?_)
      refine lv_if_ne (tgt := 27) hx hb dX11_sum_15 (by decide) (fun c4 => ?_) (fun c4 => ?_)
      · replace h := of_ c4 h
        refine lv_aload_n hx hb dX11_sum_27 rfl (lv_at hl 0 rfl) ?_
        refine lv_bipush (v := 43) hx hb dX11_sum_28 (by decide) ?_
        obtain ⟨v5, e6, h⟩ := ob_ h
        refine th_callV (As := [.int 43]) (rest := []) C T (c_X11_is_ e6) k_RX11_221 11 rfl rfl (by decide) k1 rfl hl.1 rfl (st1 := [.int v5]) rfl (cells1 := 0) rfl (slots1 := 0) rfl (Nat.le_of_ble_eq_true rfl) ⟨show 0 + 1 ≤ 7 + (d + 1) by omega, show 8 + (2 + 11) + 0 ≤ 303 + 21 * (d + 1) by omega⟩ ⟨Nat.le_of_ble_eq_true rfl, Nat.le_of_ble_eq_true rfl⟩ dX11_sum_30 (fun H locs T => ?_)
        refine lv_if_eq (tgt := 41) hx hb dX11_sum_33 (by decide) (fun c7 => ?_) (fun c7 => ?_)
        · replace h := ot_ c7 h
          refine lv_bipush (v := -17) hx hb dX11_sum_41 (by decide) ?_
          exact J43 _ _ _ _ _ _ T (lv_sub hl [0] rfl) h
        · replace h := of_ c7 h
          refine lv_bipush (v := -16) hx hb dX11_sum_36 (by decide) ?_
          refine lv_goto (tgt := 43) hx hb dX11_sum_38 (by decide) ?_
          exact J43 _ _ _ _ _ _ T (lv_sub hl [0] rfl) h
      · replace h := ot_ c4 h
        refine lv_aload_n hx hb dX11_sum_18 rfl (lv_at hl 0 rfl) ?_
        refine lv_bipush (v := 45) hx hb dX11_sum_19 (by decide) ?_
        obtain ⟨v8, e9, h⟩ := ob_ h
        refine th_callV (As := [.int 45]) (rest := []) C T (c_X11_is_ e9) k_RX11_221 11 rfl rfl (by decide) k1 rfl hl.1 rfl (st1 := [.int v8]) rfl (cells1 := 0) rfl (slots1 := 0) rfl (Nat.le_of_ble_eq_true rfl) ⟨show 0 + 1 ≤ 7 + (d + 1) by omega, show 8 + (2 + 11) + 0 ≤ 303 + 21 * (d + 1) by omega⟩ ⟨Nat.le_of_ble_eq_true rfl, Nat.le_of_ble_eq_true rfl⟩ dX11_sum_21 (fun H locs T => ?_)
        refine lv_if_eq (tgt := 65) hx hb dX11_sum_24 (by decide) (fun c10 => ?_) (fun c10 => ?_)
        · replace h := ot_ c10 h
          refine lv_iconst (v := 1) hx hb dX11_sum_65 (by decide) ?_
          obtain ⟨rfl, rfl⟩ := os2 h
          exact th_zret hQ C hr hk T (Nat.le_of_ble_eq_true rfl) (Nat.le_of_ble_eq_true rfl) dX11_sum_66 rfl
        · replace h := of_ c10 h
          refine lv_aload_n hx hb dX11_sum_27 rfl (lv_at hl 0 rfl) ?_
          refine lv_bipush (v := 43) hx hb dX11_sum_28 (by decide) ?_
          obtain ⟨v11, e12, h⟩ := ob_ h
          refine th_callV (As := [.int 43]) (rest := []) C T (c_X11_is_ e12) k_RX11_221 11 rfl rfl (by decide) k1 rfl hl.1 rfl (st1 := [.int v11]) rfl (cells1 := 0) rfl (slots1 := 0) rfl (Nat.le_of_ble_eq_true rfl) ⟨show 0 + 1 ≤ 7 + (d + 1) by omega, show 8 + (2 + 11) + 0 ≤ 303 + 21 * (d + 1) by omega⟩ ⟨Nat.le_of_ble_eq_true rfl, Nat.le_of_ble_eq_true rfl⟩ dX11_sum_30 (fun H locs T => ?_)
          refine lv_if_eq (tgt := 41) hx hb dX11_sum_33 (by decide) (fun c13 => ?_) (fun c13 => ?_)
          · replace h := ot_ c13 h
            refine lv_bipush (v := -17) hx hb dX11_sum_41 (by decide) ?_
            exact J43 _ _ _ _ _ _ T (lv_sub hl [0] rfl) h
          · replace h := of_ c13 h
            refine lv_bipush (v := -16) hx hb dX11_sum_36 (by decide) ?_
            refine lv_goto (tgt := 43) hx hb dX11_sum_38 (by decide) ?_
            exact J43 _ _ _ _ _ _ T (lv_sub hl [0] rfl) h
  unfold fb_X11_sum at h
  refine lv_aload_n hx hb dX11_sum_0 rfl (lv_at hl 0 rfl) ?_
  obtain ⟨k1, h⟩ := oc_ h
  obtain ⟨v2, μ3, e4, h⟩ := ob2 h
  refine th_callV (As := []) (rest := []) C T (ih_4_X11_any IH e4) k_RX11_224 11 rfl rfl (by decide) k1 rfl hl.1 rfl (st1 := [.int v2]) rfl (cells1 := 0) rfl (slots1 := 0) rfl (Nat.le_of_ble_eq_true rfl) ⟨show 7 + d + 1 ≤ 7 + (d + 1) by omega, show 8 + (1 + 11) + (303 + 21 * d) ≤ 303 + 21 * (d + 1) by omega⟩ ⟨Nat.le_of_ble_eq_true rfl, Nat.le_of_ble_eq_true rfl⟩ dX11_sum_1 (fun H locs T => ?_)
  refine lv_if_ne (tgt := 9) hx hb dX11_sum_4 (by decide) (fun c5 => ?_) (fun c5 => ?_)
  · replace h := of_ c5 h
    exact J9 fu _ _ _ _ _ T (lv_sub hl [0] rfl) h
  · replace h := ot_ c5 h
    refine lv_iconst (v := 0) hx hb dX11_sum_7 (by decide) ?_
    obtain ⟨rfl, rfl⟩ := os2 h
    exact th_zret hQ C hr hk T (Nat.le_of_ble_eq_true rfl) (Nat.le_of_ble_eq_true rfl) dX11_sum_8 rfl
set_option maxRecDepth 100000 in
set_option maxHeartbeats 4000000 in
theorem cb_X11_term {l : Launch} {G : th_G} {σ : th_S} {μ : th_M} {t : Nat} {r : Int32} {μ' : th_M} (d : Nat) (IH : IH_X11_any l G d) (h : fb_X11_term (f_scc_X11_any d) σ μ t = some (r, μ')) : th_Met l G yX11_term cX11_term 1 (some FieldType.boolean) { frames := 7 + (d + 1), cells := 0, slots := 0, locals := 303 + 21 * (d + 1) } [.ref t] σ μ (some (.int r)) σ μ' := by
  refine th_ofW (by decide +kernel) (Nat.le_of_ble_eq_true rfl) ?_
  intro p e s m args below meth c ls Q hQ C hr hk hnm T hl
  have hx := C.1
  have hb := C.2.1
  have C : CallFix p m c cX11_term 1 s args th_ws RX11 := C
  have hl : lv_has ls 1 [(0, .ref t)] := hl
  have J9 : ∀ (n : Nat) (μ : th_M) (t : Nat) (H : Heap) (locs : List Loc) (ls : Array Slot), th_R G s H locs σ μ → lv_has ls 1 [(0, .ref t)] → f_X11_term_b9 (f_scc_X11_any d)  n σ μ t = some (r, μ') → W p l e { frames := 7 + (d + 1), cells := 0, slots := 0, locals := 303 + 21 * (d + 1) } s m args below meth c H locs 0 0 Q (F0 m 9 ls []) := by
    intro n
    induction n with
    | zero => intro μ t H locs ls T hl h; unfold f_X11_term_b9 at h; cases h
    | succ n9 ih9 =>
      intro μ t H locs ls T hl h
      unfold f_X11_term_b9 at h
      refine lv_aload_n hx hb dX11_term_9 rfl (lv_at hl 0 rfl) ?_
      refine lv_bipush (v := 42) hx hb dX11_term_10 (by decide) ?_
      obtain ⟨k1, h⟩ := oc_ h
      obtain ⟨v2, e3, h⟩ := ob_ h
      refine th_callV (As := [.int 42]) (rest := []) C T (c_X11_is_ e3) k_RX11_221 11 rfl rfl (by decide) k1 rfl hl.1 rfl (st1 := [.int v2]) rfl (cells1 := 0) rfl (slots1 := 0) rfl (Nat.le_of_ble_eq_true rfl) ⟨show 0 + 1 ≤ 7 + (d + 1) by omega, show 8 + (2 + 11) + 0 ≤ 303 + 21 * (d + 1) by omega⟩ ⟨Nat.le_of_ble_eq_true rfl, Nat.le_of_ble_eq_true rfl⟩ dX11_term_12 (fun H locs T => ?_)
      refine lv_if_eq (tgt := 40) hx hb dX11_term_15 (by decide) (fun c4 => ?_) (fun c4 => ?_)
      · replace h := ot_ c4 h
        refine lv_iconst (v := 1) hx hb dX11_term_40 (by decide) ?_
        obtain ⟨rfl, rfl⟩ := os2 h
        exact th_zret hQ C hr hk T (Nat.le_of_ble_eq_true rfl) (Nat.le_of_ble_eq_true rfl) dX11_term_41 rfl
      · replace h := of_ c4 h
        refine lv_aload_n hx hb dX11_term_18 rfl (lv_at hl 0 rfl) ?_
        obtain ⟨μ5, e6, h⟩ := ob_ h
        refine th_callV (As := []) (rest := []) C T (c_X11_next e6) k_RX11_202 11 rfl rfl (by decide) k1 rfl hl.1 rfl (st1 := []) rfl (cells1 := 0) rfl (slots1 := 0) rfl (Nat.le_of_ble_eq_true rfl) ⟨show 1 + 1 ≤ 7 + (d + 1) by omega, show 8 + (2 + 11) + 20 ≤ 303 + 21 * (d + 1) by omega⟩ ⟨Nat.le_of_ble_eq_true rfl, Nat.le_of_ble_eq_true rfl⟩ dX11_term_19 (fun H locs T => ?_)
        refine lv_aload_n hx hb dX11_term_22 rfl (lv_at hl 0 rfl) ?_
        obtain ⟨v7, μ8, e9, h⟩ := ob2 h
        refine th_callV (As := []) (rest := []) C T (ih_5_X11_any IH e9) k_RX11_227 11 rfl rfl (by decide) k1 rfl hl.1 rfl (st1 := [.int v7]) rfl (cells1 := 0) rfl (slots1 := 0) rfl (Nat.le_of_ble_eq_true rfl) ⟨show 7 + d + 1 ≤ 7 + (d + 1) by omega, show 8 + (2 + 11) + (303 + 21 * d) ≤ 303 + 21 * (d + 1) by omega⟩ ⟨Nat.le_of_ble_eq_true rfl, Nat.le_of_ble_eq_true rfl⟩ dX11_term_23 (fun H locs T => ?_)
        refine lv_if_ne (tgt := 31) hx hb dX11_term_26 (by decide) (fun c10 => ?_) (fun c10 => ?_)
        · replace h := of_ c10 h
          refine lv_aload_n hx hb dX11_term_31 rfl (lv_at hl 0 rfl) ?_
          refine lv_bipush (v := -18) hx hb dX11_term_32 (by decide) ?_
          obtain ⟨μ11, e12, h⟩ := ob_ h
          refine th_callV (As := [.int (-18)]) (rest := []) C T (c_X11_put e12) k_RX11_205 11 rfl rfl (by decide) k1 rfl hl.1 rfl (st1 := []) rfl (cells1 := 0) rfl (slots1 := 0) rfl (Nat.le_of_ble_eq_true rfl) ⟨show 0 + 1 ≤ 7 + (d + 1) by omega, show 8 + (2 + 11) + 0 ≤ 303 + 21 * (d + 1) by omega⟩ ⟨Nat.le_of_ble_eq_true rfl, Nat.le_of_ble_eq_true rfl⟩ dX11_term_34 (fun H locs T => ?_)
          refine lv_goto (tgt := 9) hx hb dX11_term_37 (by decide) ?_
          exact ih9 _ _ _ _ _ T (lv_sub hl [0] rfl) h
        · replace h := ot_ c10 h
          refine lv_iconst (v := 0) hx hb dX11_term_29 (by decide) ?_
          obtain ⟨rfl, rfl⟩ := os2 h
          exact th_zret hQ C hr hk T (Nat.le_of_ble_eq_true rfl) (Nat.le_of_ble_eq_true rfl) dX11_term_30 rfl
  unfold fb_X11_term at h
  refine lv_aload_n hx hb dX11_term_0 rfl (lv_at hl 0 rfl) ?_
  obtain ⟨k1, h⟩ := oc_ h
  obtain ⟨v2, μ3, e4, h⟩ := ob2 h
  refine th_callV (As := []) (rest := []) C T (ih_5_X11_any IH e4) k_RX11_227 11 rfl rfl (by decide) k1 rfl hl.1 rfl (st1 := [.int v2]) rfl (cells1 := 0) rfl (slots1 := 0) rfl (Nat.le_of_ble_eq_true rfl) ⟨show 7 + d + 1 ≤ 7 + (d + 1) by omega, show 8 + (2 + 11) + (303 + 21 * d) ≤ 303 + 21 * (d + 1) by omega⟩ ⟨Nat.le_of_ble_eq_true rfl, Nat.le_of_ble_eq_true rfl⟩ dX11_term_1 (fun H locs T => ?_)
  refine lv_if_ne (tgt := 9) hx hb dX11_term_4 (by decide) (fun c5 => ?_) (fun c5 => ?_)
  · replace h := of_ c5 h
    exact J9 fu _ _ _ _ _ T (lv_sub hl [0] rfl) h
  · replace h := ot_ c5 h
    refine lv_iconst (v := 0) hx hb dX11_term_7 (by decide) ?_
    obtain ⟨rfl, rfl⟩ := os2 h
    exact th_zret hQ C hr hk T (Nat.le_of_ble_eq_true rfl) (Nat.le_of_ble_eq_true rfl) dX11_term_8 rfl
set_option maxRecDepth 100000 in
set_option maxHeartbeats 4000000 in
theorem cb_X11_one {l : Launch} {G : th_G} {σ : th_S} {μ : th_M} {t : Nat} {r : Int32} {μ' : th_M} (d : Nat) (IH : IH_X11_any l G d) (h : fb_X11_one (f_scc_X11_any d) σ μ t = some (r, μ')) : th_Met l G yX11_one cX11_one 2 (some FieldType.boolean) { frames := 7 + (d + 1), cells := 0, slots := 0, locals := 303 + 21 * (d + 1) } [.ref t] σ μ (some (.int r)) σ μ' := by
  refine th_ofW (by decide +kernel) (Nat.le_of_ble_eq_true rfl) ?_
  intro p e s m args below meth c ls Q hQ C hr hk hnm T hl
  have hx := C.1
  have hb := C.2.1
  have C : CallFix p m c cX11_one 2 s args th_ws RX11 := C
  have hl : lv_has ls 2 [(0, .ref t)] := hl
  unfold fb_X11_one at h
  refine lv_aload_n hx hb dX11_one_0 rfl (lv_at hl 0 rfl) ?_
  obtain ⟨v1, e2, h⟩ := ob_ h
  refine g_RX11_165 C T e2 dX11_one_1 ?_
  refine lv_iconst (v := 1) hx hb dX11_one_4 (by decide) ?_
  refine lv_icmp_ne (tgt := 22) hx hb dX11_one_5 (by decide) (fun c3 => ?_) (fun c3 => ?_)
  · replace h := of_ c3 h
    refine lv_aload_n hx hb dX11_one_22 rfl (lv_at hl 0 rfl) ?_
    obtain ⟨k4, h⟩ := oc_ h
    obtain ⟨v5, e6, h⟩ := ob_ h
    refine th_callV (As := []) (rest := []) C T (c_X11_name e6) k_RX11_230 11 rfl rfl (by decide) k4 rfl hl.1 rfl (st1 := [.int v5]) rfl (cells1 := 0) rfl (slots1 := 0) rfl (Nat.le_of_ble_eq_true rfl) ⟨show 6 + 1 ≤ 7 + (d + 1) by omega, show 8 + (1 + 11) + 283 ≤ 303 + 21 * (d + 1) by omega⟩ ⟨Nat.le_of_ble_eq_true rfl, Nat.le_of_ble_eq_true rfl⟩ dX11_one_23 (fun H locs T => ?_)
    refine lv_istore_n (lv' := [(1, .int v5), (0, .ref t)]) hx hb dX11_one_26 rfl hl (by decide) rfl (fun ls hl => ?_)
    refine lv_iload_n hx hb dX11_one_27 rfl (lv_at hl 0 rfl) ?_
    refine lv_if_le (tgt := 43) hx hb dX11_one_28 (by decide) (fun c7 => ?_) (fun c7 => ?_)
    · replace h := ot_ c7 h
      refine lv_aload_n hx hb dX11_one_43 rfl (lv_at hl 1 rfl) ?_
      refine lv_bipush (v := 45) hx hb dX11_one_44 (by decide) ?_
      obtain ⟨v8, e9, h⟩ := ob_ h
      refine th_callV (As := [.int 45]) (rest := []) C T (c_X11_is_ e9) k_RX11_221 11 rfl rfl (by decide) k4 rfl hl.1 rfl (st1 := [.int v8]) rfl (cells1 := 0) rfl (slots1 := 0) rfl (Nat.le_of_ble_eq_true rfl) ⟨show 0 + 1 ≤ 7 + (d + 1) by omega, show 8 + (2 + 11) + 0 ≤ 303 + 21 * (d + 1) by omega⟩ ⟨Nat.le_of_ble_eq_true rfl, Nat.le_of_ble_eq_true rfl⟩ dX11_one_46 (fun H locs T => ?_)
      refine lv_if_eq (tgt := 103) hx hb dX11_one_49 (by decide) (fun c10 => ?_) (fun c10 => ?_)
      · replace h := ot_ c10 h
        refine lv_aload_n hx hb dX11_one_103 rfl (lv_at hl 1 rfl) ?_
        refine lv_bipush (v := 40) hx hb dX11_one_104 (by decide) ?_
        obtain ⟨v11, e12, h⟩ := ob_ h
        refine th_callV (As := [.int 40]) (rest := []) C T (c_X11_is_ e12) k_RX11_221 11 rfl rfl (by decide) k4 rfl hl.1 rfl (st1 := [.int v11]) rfl (cells1 := 0) rfl (slots1 := 0) rfl (Nat.le_of_ble_eq_true rfl) ⟨show 0 + 1 ≤ 7 + (d + 1) by omega, show 8 + (2 + 11) + 0 ≤ 303 + 21 * (d + 1) by omega⟩ ⟨Nat.le_of_ble_eq_true rfl, Nat.le_of_ble_eq_true rfl⟩ dX11_one_106 (fun H locs T => ?_)
        refine lv_if_eq (tgt := 120) hx hb dX11_one_109 (by decide) (fun c13 => ?_) (fun c13 => ?_)
        · replace h := ot_ c13 h
          refine lv_iconst (v := 0) hx hb dX11_one_120 (by decide) ?_
          obtain ⟨rfl, rfl⟩ := os2 h
          exact th_zret hQ C hr hk T (Nat.le_of_ble_eq_true rfl) (Nat.le_of_ble_eq_true rfl) dX11_one_121 rfl
        · replace h := of_ c13 h
          refine lv_aload_n hx hb dX11_one_112 rfl (lv_at hl 1 rfl) ?_
          obtain ⟨v14, e15, h⟩ := ob_ h
          refine g_RX11_215 C T e15 dX11_one_113 ?_
          refine lv_iconst (v := 5) hx hb dX11_one_116 (by decide) ?_
          refine lv_icmp_ne (tgt := 122) hx hb dX11_one_117 (by decide) (fun c16 => ?_) (fun c16 => ?_)
          · replace h := of_ c16 h
            refine lv_aload_n hx hb dX11_one_122 rfl (lv_at hl 1 rfl) ?_
            refine lv_dup hx hb dX11_one_123 rfl ?_
            obtain ⟨v17, e18, h⟩ := ob_ h
            refine g_RX11_215 C T e18 dX11_one_124 ?_
            refine lv_iconst (v := 1) hx hb dX11_one_127 (by decide) ?_
            refine lv_iadd hx hb dX11_one_128 ?_
            obtain ⟨μ19, e20, h⟩ := ob_ h
            refine p_RX11_215 C T e20 dX11_one_129 (fun H locs T => ?_)
            refine lv_aload_n hx hb dX11_one_132 rfl (lv_at hl 1 rfl) ?_
            obtain ⟨μ21, e22, h⟩ := ob_ h
            refine th_callV (As := []) (rest := []) C T (c_X11_next e22) k_RX11_202 11 rfl rfl (by decide) k4 rfl hl.1 rfl (st1 := []) rfl (cells1 := 0) rfl (slots1 := 0) rfl (Nat.le_of_ble_eq_true rfl) ⟨show 1 + 1 ≤ 7 + (d + 1) by omega, show 8 + (2 + 11) + 20 ≤ 303 + 21 * (d + 1) by omega⟩ ⟨Nat.le_of_ble_eq_true rfl, Nat.le_of_ble_eq_true rfl⟩ dX11_one_133 (fun H locs T => ?_)
            refine lv_aload_n hx hb dX11_one_136 rfl (lv_at hl 1 rfl) ?_
            obtain ⟨v23, μ24, e25, h⟩ := ob2 h
            refine th_callV (As := []) (rest := []) C T (ih_0_X11_any IH e25) k_RX11_233 11 rfl rfl (by decide) k4 rfl hl.1 rfl (st1 := [.int v23]) rfl (cells1 := 0) rfl (slots1 := 0) rfl (Nat.le_of_ble_eq_true rfl) ⟨show 7 + d + 1 ≤ 7 + (d + 1) by omega, show 8 + (1 + 11) + (303 + 21 * d) ≤ 303 + 21 * (d + 1) by omega⟩ ⟨Nat.le_of_ble_eq_true rfl, Nat.le_of_ble_eq_true rfl⟩ dX11_one_137 (fun H locs T => ?_)
            refine lv_if_eq (tgt := 152) hx hb dX11_one_140 (by decide) (fun c26 => ?_) (fun c26 => ?_)
            · replace h := ot_ c26 h
              refine lv_iconst (v := 0) hx hb dX11_one_152 (by decide) ?_
              obtain ⟨rfl, rfl⟩ := os2 h
              exact th_zret hQ C hr hk T (Nat.le_of_ble_eq_true rfl) (Nat.le_of_ble_eq_true rfl) dX11_one_153 rfl
            · replace h := of_ c26 h
              refine lv_aload_n hx hb dX11_one_143 rfl (lv_at hl 1 rfl) ?_
              refine lv_bipush (v := 41) hx hb dX11_one_144 (by decide) ?_
              obtain ⟨v27, e28, h⟩ := ob_ h
              refine th_callV (As := [.int 41]) (rest := []) C T (c_X11_is_ e28) k_RX11_221 11 rfl rfl (by decide) k4 rfl hl.1 rfl (st1 := [.int v27]) rfl (cells1 := 0) rfl (slots1 := 0) rfl (Nat.le_of_ble_eq_true rfl) ⟨show 0 + 1 ≤ 7 + (d + 1) by omega, show 8 + (2 + 11) + 0 ≤ 303 + 21 * (d + 1) by omega⟩ ⟨Nat.le_of_ble_eq_true rfl, Nat.le_of_ble_eq_true rfl⟩ dX11_one_146 (fun H locs T => ?_)
              refine lv_if_ne (tgt := 154) hx hb dX11_one_149 (by decide) (fun c29 => ?_) (fun c29 => ?_)
              · replace h := of_ c29 h
                refine lv_aload_n hx hb dX11_one_154 rfl (lv_at hl 1 rfl) ?_
                refine lv_dup hx hb dX11_one_155 rfl ?_
                obtain ⟨v30, e31, h⟩ := ob_ h
                refine g_RX11_215 C T e31 dX11_one_156 ?_
                refine lv_iconst (v := 1) hx hb dX11_one_159 (by decide) ?_
                refine lv_isub hx hb dX11_one_160 ?_
                obtain ⟨μ32, e33, h⟩ := ob_ h
                refine p_RX11_215 C T e33 dX11_one_161 (fun H locs T => ?_)
                refine lv_aload_n hx hb dX11_one_164 rfl (lv_at hl 1 rfl) ?_
                obtain ⟨μ34, e35, h⟩ := ob_ h
                refine th_callV (As := []) (rest := []) C T (c_X11_next e35) k_RX11_202 11 rfl rfl (by decide) k4 rfl hl.1 rfl (st1 := []) rfl (cells1 := 0) rfl (slots1 := 0) rfl (Nat.le_of_ble_eq_true rfl) ⟨show 1 + 1 ≤ 7 + (d + 1) by omega, show 8 + (2 + 11) + 20 ≤ 303 + 21 * (d + 1) by omega⟩ ⟨Nat.le_of_ble_eq_true rfl, Nat.le_of_ble_eq_true rfl⟩ dX11_one_165 (fun H locs T => ?_)
                refine lv_iconst (v := 1) hx hb dX11_one_168 (by decide) ?_
                obtain ⟨rfl, rfl⟩ := os2 h
                exact th_zret hQ C hr hk T (Nat.le_of_ble_eq_true rfl) (Nat.le_of_ble_eq_true rfl) dX11_one_169 rfl
              · replace h := ot_ c29 h
                refine lv_iconst (v := 0) hx hb dX11_one_152 (by decide) ?_
                obtain ⟨rfl, rfl⟩ := os2 h
                exact th_zret hQ C hr hk T (Nat.le_of_ble_eq_true rfl) (Nat.le_of_ble_eq_true rfl) dX11_one_153 rfl
          · replace h := ot_ c16 h
            refine lv_iconst (v := 0) hx hb dX11_one_120 (by decide) ?_
            obtain ⟨rfl, rfl⟩ := os2 h
            exact th_zret hQ C hr hk T (Nat.le_of_ble_eq_true rfl) (Nat.le_of_ble_eq_true rfl) dX11_one_121 rfl
      · replace h := of_ c10 h
        refine lv_aload_n hx hb dX11_one_52 rfl (lv_at hl 1 rfl) ?_
        obtain ⟨v36, e37, h⟩ := ob_ h
        refine g_RX11_215 C T e37 dX11_one_53 ?_
        refine lv_iconst (v := 5) hx hb dX11_one_56 (by decide) ?_
        refine lv_icmp_ne (tgt := 62) hx hb dX11_one_57 (by decide) (fun c38 => ?_) (fun c38 => ?_)
        · replace h := of_ c38 h
          refine lv_aload_n hx hb dX11_one_62 rfl (lv_at hl 1 rfl) ?_
          refine lv_dup hx hb dX11_one_63 rfl ?_
          obtain ⟨v39, e40, h⟩ := ob_ h
          refine g_RX11_215 C T e40 dX11_one_64 ?_
          refine lv_iconst (v := 1) hx hb dX11_one_67 (by decide) ?_
          refine lv_iadd hx hb dX11_one_68 ?_
          obtain ⟨μ41, e42, h⟩ := ob_ h
          refine p_RX11_215 C T e42 dX11_one_69 (fun H locs T => ?_)
          refine lv_aload_n hx hb dX11_one_72 rfl (lv_at hl 1 rfl) ?_
          obtain ⟨μ43, e44, h⟩ := ob_ h
          refine th_callV (As := []) (rest := []) C T (c_X11_next e44) k_RX11_202 11 rfl rfl (by decide) k4 rfl hl.1 rfl (st1 := []) rfl (cells1 := 0) rfl (slots1 := 0) rfl (Nat.le_of_ble_eq_true rfl) ⟨show 1 + 1 ≤ 7 + (d + 1) by omega, show 8 + (2 + 11) + 20 ≤ 303 + 21 * (d + 1) by omega⟩ ⟨Nat.le_of_ble_eq_true rfl, Nat.le_of_ble_eq_true rfl⟩ dX11_one_73 (fun H locs T => ?_)
          refine lv_aload_n hx hb dX11_one_76 rfl (lv_at hl 1 rfl) ?_
          obtain ⟨v45, μ46, e47, h⟩ := ob2 h
          refine th_callV (As := []) (rest := []) C T (ih_5_X11_any IH e47) k_RX11_227 11 rfl rfl (by decide) k4 rfl hl.1 rfl (st1 := [.int v45]) rfl (cells1 := 0) rfl (slots1 := 0) rfl (Nat.le_of_ble_eq_true rfl) ⟨show 7 + d + 1 ≤ 7 + (d + 1) by omega, show 8 + (2 + 11) + (303 + 21 * d) ≤ 303 + 21 * (d + 1) by omega⟩ ⟨Nat.le_of_ble_eq_true rfl, Nat.le_of_ble_eq_true rfl⟩ dX11_one_77 (fun H locs T => ?_)
          refine lv_if_ne (tgt := 85) hx hb dX11_one_80 (by decide) (fun c48 => ?_) (fun c48 => ?_)
          · replace h := of_ c48 h
            refine lv_aload_n hx hb dX11_one_85 rfl (lv_at hl 1 rfl) ?_
            refine lv_dup hx hb dX11_one_86 rfl ?_
            obtain ⟨v49, e50, h⟩ := ob_ h
            refine g_RX11_215 C T e50 dX11_one_87 ?_
            refine lv_iconst (v := 1) hx hb dX11_one_90 (by decide) ?_
            refine lv_isub hx hb dX11_one_91 ?_
            obtain ⟨μ51, e52, h⟩ := ob_ h
            refine p_RX11_215 C T e52 dX11_one_92 (fun H locs T => ?_)
            refine lv_aload_n hx hb dX11_one_95 rfl (lv_at hl 1 rfl) ?_
            refine lv_bipush (v := -19) hx hb dX11_one_96 (by decide) ?_
            obtain ⟨μ53, e54, h⟩ := ob_ h
            refine th_callV (As := [.int (-19)]) (rest := []) C T (c_X11_put e54) k_RX11_205 11 rfl rfl (by decide) k4 rfl hl.1 rfl (st1 := []) rfl (cells1 := 0) rfl (slots1 := 0) rfl (Nat.le_of_ble_eq_true rfl) ⟨show 0 + 1 ≤ 7 + (d + 1) by omega, show 8 + (2 + 11) + 0 ≤ 303 + 21 * (d + 1) by omega⟩ ⟨Nat.le_of_ble_eq_true rfl, Nat.le_of_ble_eq_true rfl⟩ dX11_one_98 (fun H locs T => ?_)
            refine lv_iconst (v := 1) hx hb dX11_one_101 (by decide) ?_
            obtain ⟨rfl, rfl⟩ := os2 h
            exact th_zret hQ C hr hk T (Nat.le_of_ble_eq_true rfl) (Nat.le_of_ble_eq_true rfl) dX11_one_102 rfl
          · replace h := ot_ c48 h
            refine lv_iconst (v := 0) hx hb dX11_one_83 (by decide) ?_
            obtain ⟨rfl, rfl⟩ := os2 h
            exact th_zret hQ C hr hk T (Nat.le_of_ble_eq_true rfl) (Nat.le_of_ble_eq_true rfl) dX11_one_84 rfl
        · replace h := ot_ c38 h
          refine lv_iconst (v := 0) hx hb dX11_one_60 (by decide) ?_
          obtain ⟨rfl, rfl⟩ := os2 h
          exact th_zret hQ C hr hk T (Nat.le_of_ble_eq_true rfl) (Nat.le_of_ble_eq_true rfl) dX11_one_61 rfl
    · replace h := of_ c7 h
      refine lv_aload_n hx hb dX11_one_31 rfl (lv_at hl 1 rfl) ?_
      refine lv_iload_n hx hb dX11_one_32 rfl (lv_at hl 0 rfl) ?_
      refine lv_ineg hx hb dX11_one_33 ?_
      obtain ⟨μ55, e56, h⟩ := ob_ h
      refine th_callV (As := [.int (-v5)]) (rest := []) C T (c_X11_put e56) k_RX11_205 11 rfl rfl (by decide) k4 rfl hl.1 rfl (st1 := []) rfl (cells1 := 0) rfl (slots1 := 0) rfl (Nat.le_of_ble_eq_true rfl) ⟨show 0 + 1 ≤ 7 + (d + 1) by omega, show 8 + (2 + 11) + 0 ≤ 303 + 21 * (d + 1) by omega⟩ ⟨Nat.le_of_ble_eq_true rfl, Nat.le_of_ble_eq_true rfl⟩ dX11_one_34 (fun H locs T => ?_)
      refine lv_aload_n hx hb dX11_one_37 rfl (lv_at hl 1 rfl) ?_
      obtain ⟨μ57, e58, h⟩ := ob_ h
      refine th_callV (As := []) (rest := []) C T (c_X11_next e58) k_RX11_202 11 rfl rfl (by decide) k4 rfl hl.1 rfl (st1 := []) rfl (cells1 := 0) rfl (slots1 := 0) rfl (Nat.le_of_ble_eq_true rfl) ⟨show 1 + 1 ≤ 7 + (d + 1) by omega, show 8 + (2 + 11) + 20 ≤ 303 + 21 * (d + 1) by omega⟩ ⟨Nat.le_of_ble_eq_true rfl, Nat.le_of_ble_eq_true rfl⟩ dX11_one_38 (fun H locs T => ?_)
      refine lv_iconst (v := 1) hx hb dX11_one_41 (by decide) ?_
      obtain ⟨rfl, rfl⟩ := os2 h
      exact th_zret hQ C hr hk T (Nat.le_of_ble_eq_true rfl) (Nat.le_of_ble_eq_true rfl) dX11_one_42 rfl
  · replace h := ot_ c3 h
    refine lv_aload_n hx hb dX11_one_8 rfl (lv_at hl 0 rfl) ?_
    refine lv_aload_n hx hb dX11_one_9 rfl (lv_at hl 0 rfl) ?_
    obtain ⟨v59, e60, h⟩ := ob_ h
    refine g_RX11_171 C T e60 dX11_one_10 ?_
    obtain ⟨k61, h⟩ := oc_ h
    obtain ⟨μ62, e63, h⟩ := ob_ h
    refine th_callV (As := [.int v59]) (rest := []) C T (c_X11_put e63) k_RX11_205 11 rfl rfl (by decide) k61 rfl hl.1 rfl (st1 := []) rfl (cells1 := 0) rfl (slots1 := 0) rfl (Nat.le_of_ble_eq_true rfl) ⟨show 0 + 1 ≤ 7 + (d + 1) by omega, show 8 + (2 + 11) + 0 ≤ 303 + 21 * (d + 1) by omega⟩ ⟨Nat.le_of_ble_eq_true rfl, Nat.le_of_ble_eq_true rfl⟩ dX11_one_13 (fun H locs T => ?_)
    refine lv_aload_n hx hb dX11_one_16 rfl (lv_at hl 0 rfl) ?_
    obtain ⟨μ64, e65, h⟩ := ob_ h
    refine th_callV (As := []) (rest := []) C T (c_X11_next e65) k_RX11_202 11 rfl rfl (by decide) k61 rfl hl.1 rfl (st1 := []) rfl (cells1 := 0) rfl (slots1 := 0) rfl (Nat.le_of_ble_eq_true rfl) ⟨show 1 + 1 ≤ 7 + (d + 1) by omega, show 8 + (2 + 11) + 20 ≤ 303 + 21 * (d + 1) by omega⟩ ⟨Nat.le_of_ble_eq_true rfl, Nat.le_of_ble_eq_true rfl⟩ dX11_one_17 (fun H locs T => ?_)
    refine lv_iconst (v := 1) hx hb dX11_one_20 (by decide) ?_
    obtain ⟨rfl, rfl⟩ := os2 h
    exact th_zret hQ C hr hk T (Nat.le_of_ble_eq_true rfl) (Nat.le_of_ble_eq_true rfl) dX11_one_21 rfl
set_option maxRecDepth 100000 in
set_option maxHeartbeats 4000000 in
theorem IHall_X11_any (l : Launch) (G : th_G) : ∀ d, IH_X11_any l G d := by
  intro d
  induction d with
  | zero => exact ⟨(fun σ μ t r μ' h => by unfold f_scc_X11_any at h; cases h), (fun σ μ t r μ' h => by unfold f_scc_X11_any at h; cases h), (fun σ μ t r μ' h => by unfold f_scc_X11_any at h; cases h), (fun σ μ t r μ' h => by unfold f_scc_X11_any at h; cases h), (fun σ μ t r μ' h => by unfold f_scc_X11_any at h; cases h), (fun σ μ t r μ' h => by unfold f_scc_X11_any at h; cases h)⟩
  | succ d IH => exact ⟨(fun σ μ t r μ' h => by unfold f_scc_X11_any at h; replace h := ot_ rfl h; exact cb_X11_any d IH h),
      (fun σ μ t r μ' h => by unfold f_scc_X11_any at h; replace h := of_ (by decide) h; replace h := ot_ rfl h; exact cb_X11_both d IH h),
      (fun σ μ t r μ' h => by unfold f_scc_X11_any at h; replace h := of_ (by decide) h; replace h := of_ (by decide) h; replace h := ot_ rfl h; exact cb_X11_not d IH h),
      (fun σ μ t r μ' h => by unfold f_scc_X11_any at h; replace h := of_ (by decide) h; replace h := of_ (by decide) h; replace h := of_ (by decide) h; replace h := ot_ rfl h; exact cb_X11_sum d IH h),
      (fun σ μ t r μ' h => by unfold f_scc_X11_any at h; replace h := of_ (by decide) h; replace h := of_ (by decide) h; replace h := of_ (by decide) h; replace h := of_ (by decide) h; replace h := ot_ rfl h; exact cb_X11_term d IH h),
      (fun σ μ t r μ' h => by unfold f_scc_X11_any at h; replace h := of_ (by decide) h; replace h := of_ (by decide) h; replace h := of_ (by decide) h; replace h := of_ (by decide) h; replace h := of_ (by decide) h; exact cb_X11_one d IH h)⟩
theorem c_X11_any {l : Launch} {G : th_G} {σ : th_S} {μ : th_M} {t : Nat} {r : Int32} {μ' : th_M} (h : f_X11_any σ μ t = some (r, μ')) : th_Met l G yX11_any cX11_any 1 (some FieldType.boolean) { frames := 7 + 64, cells := 0, slots := 0, locals := 303 + 21 * 64 } [.ref t] σ μ (some (.int r)) σ μ' := ih_0_X11_any (IHall_X11_any l G 64) h
theorem c_X11_both {l : Launch} {G : th_G} {σ : th_S} {μ : th_M} {t : Nat} {r : Int32} {μ' : th_M} (h : f_X11_both σ μ t = some (r, μ')) : th_Met l G yX11_both cX11_both 1 (some FieldType.boolean) { frames := 7 + 64, cells := 0, slots := 0, locals := 303 + 21 * 64 } [.ref t] σ μ (some (.int r)) σ μ' := ih_1_X11_any (IHall_X11_any l G 64) h
theorem c_X11_not {l : Launch} {G : th_G} {σ : th_S} {μ : th_M} {t : Nat} {r : Int32} {μ' : th_M} (h : f_X11_not σ μ t = some (r, μ')) : th_Met l G yX11_not cX11_not 2 (some FieldType.boolean) { frames := 7 + 64, cells := 0, slots := 0, locals := 303 + 21 * 64 } [.ref t] σ μ (some (.int r)) σ μ' := ih_2_X11_any (IHall_X11_any l G 64) h
theorem c_X11_sum {l : Launch} {G : th_G} {σ : th_S} {μ : th_M} {t : Nat} {r : Int32} {μ' : th_M} (h : f_X11_sum σ μ t = some (r, μ')) : th_Met l G yX11_sum cX11_sum 2 (some FieldType.boolean) { frames := 7 + 64, cells := 0, slots := 0, locals := 303 + 21 * 64 } [.ref t] σ μ (some (.int r)) σ μ' := ih_3_X11_any (IHall_X11_any l G 64) h
theorem c_X11_term {l : Launch} {G : th_G} {σ : th_S} {μ : th_M} {t : Nat} {r : Int32} {μ' : th_M} (h : f_X11_term σ μ t = some (r, μ')) : th_Met l G yX11_term cX11_term 1 (some FieldType.boolean) { frames := 7 + 64, cells := 0, slots := 0, locals := 303 + 21 * 64 } [.ref t] σ μ (some (.int r)) σ μ' := ih_4_X11_any (IHall_X11_any l G 64) h
theorem c_X11_one {l : Launch} {G : th_G} {σ : th_S} {μ : th_M} {t : Nat} {r : Int32} {μ' : th_M} (h : f_X11_one σ μ t = some (r, μ')) : th_Met l G yX11_one cX11_one 2 (some FieldType.boolean) { frames := 7 + 64, cells := 0, slots := 0, locals := 303 + 21 * 64 } [.ref t] σ μ (some (.int r)) σ μ' := ih_5_X11_any (IHall_X11_any l G 64) h
