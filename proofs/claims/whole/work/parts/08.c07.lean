set_option maxRecDepth 100000 in
set_option maxHeartbeats 4000000 in
theorem c_X10_commonDivisor {l : Launch} {G : th_G} {σ : th_S} {μ : th_M} {x0 : Int32} {x1 : Int32} {r : Int32} (h : f_X10_commonDivisor x0 x1 = some r) : th_Met l G yX10_commonDivisor cX10_commonDivisor 3 (some FieldType.int) { frames := 0, cells := 0, slots := 0, locals := 0 } [.int x0, .int x1] σ μ (some (.int r)) σ μ := by
  refine th_ofW (by decide +kernel) (Nat.le_of_ble_eq_true rfl) ?_
  intro p e s m args below meth c ls Q hQ C hr hk hnm T hl
  have hx := C.1
  have hb := C.2.1
  have C : CallFix p m c cX10_commonDivisor 3 s args th_ws RX10 := C
  have hl : lv_has ls 3 [(0, .int x0), (1, .int x1)] := hl
  have J2 : ∀ (n : Nat) (x0 : Int32) (x1 : Int32) (x2 : Int32) (H : Heap) (locs : List Loc) (ls : Array Slot), th_R G s H locs σ μ → lv_has ls 3 [(0, .int x0), (1, .int x1), (2, .int x2)] → f_X10_commonDivisor_b2  n x0 x1 x2 = some r → W p l e { frames := 0, cells := 0, slots := 0, locals := 0 } s m args below meth c H locs 0 0 Q (F0 m 2 ls []) := by
    intro n
    induction n with
    | zero => intro x0 x1 x2 H locs ls T hl h; unfold f_X10_commonDivisor_b2 at h; cases h
    | succ n2 ih2 =>
      intro x0 x1 x2 H locs ls T hl h
      unfold f_X10_commonDivisor_b2 at h
      refine lv_iload_n hx hb dX10_commonDivisor_2 rfl (lv_at hl 2 rfl) ?_
      refine lv_iconst (v := 1) hx hb dX10_commonDivisor_3 (by decide) ?_
      refine lv_icmp_le (tgt := 27) hx hb dX10_commonDivisor_4 (by decide) (fun c1 => ?_) (fun c1 => ?_)
      · replace h := ot_ c1 h
        refine lv_iconst (v := 1) hx hb dX10_commonDivisor_27 (by decide) ?_
        obtain rfl := os1 h
        exact th_iret hQ C hr hk T (Nat.le_of_ble_eq_true rfl) (Nat.le_of_ble_eq_true rfl) dX10_commonDivisor_28
      · replace h := of_ c1 h
        refine lv_iload_n hx hb dX10_commonDivisor_7 rfl (lv_at hl 0 rfl) ?_
        refine lv_iload_n hx hb dX10_commonDivisor_8 rfl (lv_at hl 2 rfl) ?_
        obtain ⟨g2, h⟩ := ogg h
        refine th_irem C dX10_commonDivisor_9 g2 ?_
        refine lv_if_ne (tgt := 21) hx hb dX10_commonDivisor_10 (by decide) (fun c3 => ?_) (fun c3 => ?_)
        · replace h := of_ c3 h
          refine lv_iinc (v := x2 + (-1)) (lv' := [(2, .int (x2 + (-1))), (0, .int x0), (1, .int x1)]) hx hb dX10_commonDivisor_21 hl (k := 2) rfl rfl (by decide) rfl (fun ls hl => ?_)
          refine lv_goto (tgt := 2) hx hb dX10_commonDivisor_24 (by decide) ?_
          exact ih2 _ _ _ _ _ _ T (lv_sub hl [1, 2, 0] rfl) h
        · replace h := ot_ c3 h
          refine lv_iload_n hx hb dX10_commonDivisor_13 rfl (lv_at hl 1 rfl) ?_
          refine lv_iload_n hx hb dX10_commonDivisor_14 rfl (lv_at hl 2 rfl) ?_
          obtain ⟨g4, h⟩ := ogg h
          refine th_irem C dX10_commonDivisor_15 g4 ?_
          refine lv_if_ne (tgt := 21) hx hb dX10_commonDivisor_16 (by decide) (fun c5 => ?_) (fun c5 => ?_)
          · replace h := of_ c5 h
            refine lv_iinc (v := x2 + (-1)) (lv' := [(2, .int (x2 + (-1))), (0, .int x0), (1, .int x1)]) hx hb dX10_commonDivisor_21 hl (k := 2) rfl rfl (by decide) rfl (fun ls hl => ?_)
            refine lv_goto (tgt := 2) hx hb dX10_commonDivisor_24 (by decide) ?_
            exact ih2 _ _ _ _ _ _ T (lv_sub hl [1, 2, 0] rfl) h
          · replace h := ot_ c5 h
            refine lv_iload_n hx hb dX10_commonDivisor_19 rfl (lv_at hl 2 rfl) ?_
            obtain rfl := os1 h
            exact th_iret hQ C hr hk T (Nat.le_of_ble_eq_true rfl) (Nat.le_of_ble_eq_true rfl) dX10_commonDivisor_20
  unfold f_X10_commonDivisor at h
  refine lv_iload_n hx hb dX10_commonDivisor_0 rfl (lv_at hl 1 rfl) ?_
  refine lv_istore_n (lv' := [(2, .int x1), (0, .int x0), (1, .int x1)]) hx hb dX10_commonDivisor_1 rfl hl (by decide) rfl (fun ls hl => ?_)
  exact J2 fu _ _ _ _ _ _ T (lv_sub hl [1, 2, 0] rfl) h
set_option maxRecDepth 100000 in
set_option maxHeartbeats 4000000 in
theorem c_X10_chance {l : Launch} {G : th_G} {σ : th_S} {μ : th_M} {t : Nat} {x1 : Int32} {x2 : Int32} {x3 : Int32} {r : Int64} {μ' : th_M} (h : f_X10_chance σ μ t x1 x2 x3 = some (r, μ')) : th_Met l G yX10_chance cX10_chance 7 (some FieldType.long) { frames := 6, cells := 0, slots := 0, locals := 173 } [.ref t, .int x1, .int x2, .int x3] σ μ (some (.long r)) σ μ' := by
  refine th_ofW (by decide +kernel) (Nat.le_of_ble_eq_true rfl) ?_
  intro p e s m args below meth c ls Q hQ C hr hk hnm T hl
  have hx := C.1
  have hb := C.2.1
  have C : CallFix p m c cX10_chance 7 s args th_ws RX10 := C
  have hl : lv_has ls 7 [(0, .ref t), (1, .int x1), (2, .int x2), (3, .int x3)] := hl
  have J40 : ∀ (n : Nat) (μ : th_M) (t : Nat) (x1 : Int32) (x2 : Int32) (x3 : Int32) (x4 : Int32) (x5 : Int32) (x6 : Int32) (H : Heap) (locs : List Loc) (ls : Array Slot), th_R G s H locs σ μ → lv_has ls 7 [(0, .ref t), (1, .int x1), (2, .int x2), (3, .int x3), (4, .int x4), (5, .int x5), (6, .int x6)] → f_X10_chance_b40  n σ μ t x1 x2 x3 x4 x5 x6 = some (r, μ') → W p l e { frames := 6, cells := 0, slots := 0, locals := 173 } s m args below meth c H locs 0 0 Q (F0 m 40 ls []) := by
    intro n
    induction n with
    | zero => intro μ t x1 x2 x3 x4 x5 x6 H locs ls T hl h; unfold f_X10_chance_b40 at h; cases h
    | succ n40 ih40 =>
      intro μ t x1 x2 x3 x4 x5 x6 H locs ls T hl h
      unfold f_X10_chance_b40 at h
      refine lv_iload hx hb dX10_chance_40 (lv_at hl 6 rfl) ?_
      refine lv_iload_n hx hb dX10_chance_42 rfl (lv_at hl 2 rfl) ?_
      refine lv_icmp_ge (tgt := 68) hx hb dX10_chance_43 (by decide) (fun c1 => ?_) (fun c1 => ?_)
      · replace h := ot_ c1 h
        refine lv_iload hx hb dX10_chance_68 (lv_at hl 4 rfl) ?_
        refine lv_iload_n hx hb dX10_chance_70 rfl (lv_at hl 2 rfl) ?_
        obtain ⟨v2, e3, h⟩ := ob_ h
        refine th_callS (As := [.int x4, .int x2]) (rest := []) C T (c_X10_commonDivisor e3) k_RX10_256 rfl hl.1 rfl (st1 := [.int v2]) rfl (cells1 := 0) rfl (slots1 := 0) rfl (Nat.le_of_ble_eq_true rfl) ⟨Nat.le_of_ble_eq_true rfl, Nat.le_of_ble_eq_true rfl⟩ ⟨Nat.le_of_ble_eq_true rfl, Nat.le_of_ble_eq_true rfl⟩ dX10_chance_71 (fun H locs T => ?_)
        refine lv_istore (lv' := [(6, .int v2), (0, .ref t), (1, .int x1), (2, .int x2), (3, .int x3), (4, .int x4), (5, .int x5)]) hx hb dX10_chance_74 hl (by decide) rfl (fun ls hl => ?_)
        refine lv_iload_n hx hb dX10_chance_76 rfl (lv_at hl 4 rfl) ?_
        refine lv_if_ne (tgt := 89) hx hb dX10_chance_77 (by decide) (fun c4 => ?_) (fun c4 => ?_)
        · replace h := of_ c4 h
          refine lv_iload_n hx hb dX10_chance_89 rfl (lv_at hl 3 rfl) ?_
          refine lv_iload hx hb dX10_chance_90 (lv_at hl 0 rfl) ?_
          obtain ⟨g5, h⟩ := ogg h
          refine lv_idiv hx hb dX10_chance_92 g5 ?_
          refine lv_i2l hx hb dX10_chance_93 rfl ?_
          obtain ⟨rfl, rfl⟩ := os2 h
          exact th_lret hQ C hr hk T (Nat.le_of_ble_eq_true rfl) (Nat.le_of_ble_eq_true rfl) dX10_chance_94
        · replace h := ot_ c4 h
          refine lv_iload hx hb dX10_chance_80 (lv_at hl 5 rfl) ?_
          refine lv_iload hx hb dX10_chance_82 (lv_at hl 0 rfl) ?_
          obtain ⟨g6, h⟩ := ogg h
          refine lv_idiv hx hb dX10_chance_84 g6 ?_
          refine lv_i2l hx hb dX10_chance_85 rfl ?_
          refine lv_goto (tgt := 94) hx hb dX10_chance_86 (by decide) ?_
          obtain ⟨rfl, rfl⟩ := os2 h
          exact th_lret hQ C hr hk T (Nat.le_of_ble_eq_true rfl) (Nat.le_of_ble_eq_true rfl) dX10_chance_94
      · replace h := of_ c1 h
        refine lv_aload_n hx hb dX10_chance_46 rfl (lv_at hl 0 rfl) ?_
        refine lv_iload_n hx hb dX10_chance_47 rfl (lv_at hl 1 rfl) ?_
        refine lv_iload hx hb dX10_chance_48 (lv_at hl 6 rfl) ?_
        refine lv_iadd hx hb dX10_chance_50 ?_
        obtain ⟨k7, h⟩ := oc_ h
        obtain ⟨v8, μ9, e10, h⟩ := ob2 h
        refine th_callV (As := [.int (x1 + x6)]) (rest := []) C T (c_X10_drawn e10) k_RX10_253 10 rfl rfl (by decide) k7 rfl hl.1 rfl (st1 := [.int v8]) rfl (cells1 := 0) rfl (slots1 := 0) rfl (Nat.le_of_ble_eq_true rfl) ⟨Nat.le_of_ble_eq_true rfl, Nat.le_of_ble_eq_true rfl⟩ ⟨Nat.le_of_ble_eq_true rfl, Nat.le_of_ble_eq_true rfl⟩ dX10_chance_51 (fun H locs T => ?_)
        refine lv_iload hx hb dX10_chance_54 (lv_at hl 5 rfl) ?_
        refine lv_icmp_ne (tgt := 62) hx hb dX10_chance_56 (by decide) (fun c11 => ?_) (fun c11 => ?_)
        · replace h := of_ c11 h
          refine lv_iinc (v := x6 + 1) (lv' := [(6, .int (x6 + 1)), (0, .ref t), (1, .int x1), (2, .int x2), (3, .int x3), (4, .int x4), (5, .int x5)]) hx hb dX10_chance_62 hl (k := 6) rfl rfl (by decide) rfl (fun ls hl => ?_)
          refine lv_goto (tgt := 40) hx hb dX10_chance_65 (by decide) ?_
          exact ih40 _ _ _ _ _ _ _ _ _ _ _ T (lv_sub hl [1, 2, 3, 4, 5, 6, 0] rfl) h
        · replace h := ot_ c11 h
          refine lv_iinc (v := x4 + 1) (lv' := [(4, .int (x4 + 1)), (0, .ref t), (1, .int x1), (2, .int x2), (3, .int x3), (5, .int x5), (6, .int x6)]) hx hb dX10_chance_59 hl (k := 4) rfl rfl (by decide) rfl (fun ls hl => ?_)
          refine lv_iinc (v := x6 + 1) (lv' := [(6, .int (x6 + 1)), (4, .int (x4 + 1)), (0, .ref t), (1, .int x1), (2, .int x2), (3, .int x3), (5, .int x5)]) hx hb dX10_chance_62 hl (k := 6) rfl rfl (by decide) rfl (fun ls hl => ?_)
          refine lv_goto (tgt := 40) hx hb dX10_chance_65 (by decide) ?_
          exact ih40 _ _ _ _ _ _ _ _ _ _ _ T (lv_sub hl [2, 3, 4, 5, 1, 6, 0] rfl) h
  unfold f_X10_chance at h
  refine lv_iload_n hx hb dX10_chance_0 rfl (lv_at hl 2 rfl) ?_
  refine lv_iconst (v := 1) hx hb dX10_chance_1 (by decide) ?_
  refine lv_icmp_lt (tgt := 20) hx hb dX10_chance_2 (by decide) (fun c1 => ?_) (fun c1 => ?_)
  · replace h := ot_ c1 h
    refine lv_ldc2 hx hb C.2.2.2.1 (C.2.2.2.2 _ w_765) dX10_chance_20 ?_
    obtain ⟨rfl, rfl⟩ := os2 h
    exact th_lret hQ C hr hk T (Nat.le_of_ble_eq_true rfl) (Nat.le_of_ble_eq_true rfl) dX10_chance_23
  · replace h := of_ c1 h
    refine lv_iload_n hx hb dX10_chance_5 rfl (lv_at hl 2 rfl) ?_
    refine lv_bipush (v := 20) hx hb dX10_chance_6 (by decide) ?_
    refine lv_icmp_gt (tgt := 20) hx hb dX10_chance_8 (by decide) (fun c2 => ?_) (fun c2 => ?_)
    · replace h := ot_ c2 h
      refine lv_ldc2 hx hb C.2.2.2.1 (C.2.2.2.2 _ w_765) dX10_chance_20 ?_
      obtain ⟨rfl, rfl⟩ := os2 h
      exact th_lret hQ C hr hk T (Nat.le_of_ble_eq_true rfl) (Nat.le_of_ble_eq_true rfl) dX10_chance_23
    · replace h := of_ c2 h
      refine lv_iload_n hx hb dX10_chance_11 rfl (lv_at hl 3 rfl) ?_
      refine lv_if_lt (tgt := 20) hx hb dX10_chance_12 (by decide) (fun c3 => ?_) (fun c3 => ?_)
      · replace h := ot_ c3 h
        refine lv_ldc2 hx hb C.2.2.2.1 (C.2.2.2.2 _ w_765) dX10_chance_20 ?_
        obtain ⟨rfl, rfl⟩ := os2 h
        exact th_lret hQ C hr hk T (Nat.le_of_ble_eq_true rfl) (Nat.le_of_ble_eq_true rfl) dX10_chance_23
      · replace h := of_ c3 h
        refine lv_iload_n hx hb dX10_chance_15 rfl (lv_at hl 3 rfl) ?_
        refine lv_iconst (v := 1) hx hb dX10_chance_16 (by decide) ?_
        refine lv_icmp_le (tgt := 24) hx hb dX10_chance_17 (by decide) (fun c4 => ?_) (fun c4 => ?_)
        · replace h := ot_ c4 h
          refine lv_iconst (v := 0) hx hb dX10_chance_24 (by decide) ?_
          refine lv_istore (lv' := [(4, .int 0), (0, .ref t), (1, .int x1), (2, .int x2), (3, .int x3)]) hx hb dX10_chance_25 hl (by decide) rfl (fun ls hl => ?_)
          refine lv_aload_n hx hb dX10_chance_27 rfl (lv_at hl 1 rfl) ?_
          refine lv_iconst (v := 0) hx hb dX10_chance_28 (by decide) ?_
          obtain ⟨k5, h⟩ := oc_ h
          obtain ⟨v6, e7, h⟩ := ob_ h
          refine th_callV (As := [.int 0]) (rest := []) C T (c_X10_those e7) k_RX10_245 10 rfl rfl (by decide) k5 rfl hl.1 rfl (st1 := [.int v6]) rfl (cells1 := 0) rfl (slots1 := 0) rfl (Nat.le_of_ble_eq_true rfl) ⟨Nat.le_of_ble_eq_true rfl, Nat.le_of_ble_eq_true rfl⟩ ⟨Nat.le_of_ble_eq_true rfl, Nat.le_of_ble_eq_true rfl⟩ dX10_chance_29 (fun H locs T => ?_)
          obtain ⟨v8, e9, h⟩ := ob_ h
          refine th_callS (As := [.int v6]) (rest := []) C T (c_J6_bitCount_0f7a4 e9) k_RX10_248 rfl hl.1 rfl (st1 := [.int v8]) rfl (cells1 := 0) rfl (slots1 := 0) rfl (Nat.le_of_ble_eq_true rfl) ⟨Nat.le_of_ble_eq_true rfl, Nat.le_of_ble_eq_true rfl⟩ ⟨Nat.le_of_ble_eq_true rfl, Nat.le_of_ble_eq_true rfl⟩ dX10_chance_32 (fun H locs T => ?_)
          refine lv_istore (lv' := [(5, .int v8), (4, .int 0), (0, .ref t), (1, .int x1), (2, .int x2), (3, .int x3)]) hx hb dX10_chance_35 hl (by decide) rfl (fun ls hl => ?_)
          refine lv_iconst (v := 0) hx hb dX10_chance_37 (by decide) ?_
          refine lv_istore (lv' := [(6, .int 0), (5, .int v8), (4, .int 0), (0, .ref t), (1, .int x1), (2, .int x2), (3, .int x3)]) hx hb dX10_chance_38 hl (by decide) rfl (fun ls hl => ?_)
          exact J40 fu _ _ _ _ _ _ _ _ _ _ _ T (lv_sub hl [3, 4, 5, 6, 2, 1, 0] rfl) h
        · replace h := of_ c4 h
          refine lv_ldc2 hx hb C.2.2.2.1 (C.2.2.2.2 _ w_765) dX10_chance_20 ?_
          obtain ⟨rfl, rfl⟩ := os2 h
          exact th_lret hQ C hr hk T (Nat.le_of_ble_eq_true rfl) (Nat.le_of_ble_eq_true rfl) dX10_chance_23
set_option maxRecDepth 100000 in
set_option maxHeartbeats 4000000 in
theorem c_X10_image {l : Launch} {G : th_G} {σ : th_S} {μ : th_M} {t : Nat} {r : Int32} {μ' : th_M} (h : f_X10_image σ μ t = some (r, μ')) : th_Met l G yX10_image cX10_image 2 (some FieldType.int) { frames := 2, cells := 0, slots := 0, locals := 100 } [.ref t] σ μ (some (.int r)) σ μ' := by
  refine th_ofW (by decide +kernel) (Nat.le_of_ble_eq_true rfl) ?_
  intro p e s m args below meth c ls Q hQ C hr hk hnm T hl
  have hx := C.1
  have hb := C.2.1
  have C : CallFix p m c cX10_image 2 s args th_ws RX10 := C
  have hl : lv_has ls 2 [(0, .ref t)] := hl
  have J17 : ∀ (n : Nat) (μ : th_M) (t : Nat) (x1 : Int32) (H : Heap) (locs : List Loc) (ls : Array Slot), th_R G s H locs σ μ → lv_has ls 2 [(0, .ref t), (1, .int x1)] → f_X10_image_b17  n σ μ t x1 = some (r, μ') → W p l e { frames := 2, cells := 0, slots := 0, locals := 100 } s m args below meth c H locs 0 0 Q (F0 m 17 ls []) := by
    intro n
    induction n with
    | zero => intro μ t x1 H locs ls T hl h; unfold f_X10_image_b17 at h; cases h
    | succ n17 ih17 =>
      intro μ t x1 H locs ls T hl h
      unfold f_X10_image_b17 at h
      refine lv_iload_n hx hb dX10_image_17 rfl (lv_at hl 1 rfl) ?_
      refine lv_aload_n hx hb dX10_image_18 rfl (lv_at hl 0 rfl) ?_
      obtain ⟨v1, e2, h⟩ := ob_ h
      refine g_RX10_92 C T e2 dX10_image_19 ?_
      refine lv_icmp_ge (tgt := 40) hx hb dX10_image_22 (by decide) (fun c3 => ?_) (fun c3 => ?_)
      · replace h := ot_ c3 h
        refine lv_aload_n hx hb dX10_image_40 rfl (lv_at hl 0 rfl) ?_
        refine lv_aload_n hx hb dX10_image_41 rfl (lv_at hl 0 rfl) ?_
        obtain ⟨v4, e5, h⟩ := ob_ h
        refine g_RX10_92 C T e5 dX10_image_42 ?_
        obtain ⟨μ6, e7, h⟩ := ob_ h
        refine p_RX10_22 C T e7 dX10_image_45 (fun H locs T => ?_)
        refine lv_aload_n hx hb dX10_image_48 rfl (lv_at hl 0 rfl) ?_
        obtain ⟨v8, e9, h⟩ := ob_ h
        refine g_RX10_92 C T e9 dX10_image_49 ?_
        obtain ⟨rfl, rfl⟩ := os2 h
        exact th_iret hQ C hr hk T (Nat.le_of_ble_eq_true rfl) (Nat.le_of_ble_eq_true rfl) dX10_image_52
      · replace h := of_ c3 h
        refine lv_aload_n hx hb dX10_image_25 rfl (lv_at hl 0 rfl) ?_
        obtain ⟨a10, e11, h⟩ := ob_ h
        refine g_RX10_11 C T e11 dX10_image_26 ?_
        refine lv_iload_n hx hb dX10_image_29 rfl (lv_at hl 1 rfl) ?_
        obtain ⟨a12, e13, h⟩ := ob_ h
        refine th_aald C T 13 e13 (by decide) rfl dX10_image_30 ?_
        obtain ⟨μ14, e15, h⟩ := ob_ h
        refine vc_RX10_265 (rest := []) C T e15 hl.1 (st1 := []) rfl (Nat.le_of_ble_eq_true rfl) ⟨Nat.le_of_ble_eq_true rfl, Nat.le_of_ble_eq_true rfl⟩ ⟨Nat.le_of_ble_eq_true rfl, Nat.le_of_ble_eq_true rfl⟩ dX10_image_31 (fun H locs T => ?_)
        refine lv_iinc (v := x1 + 1) (lv' := [(1, .int (x1 + 1)), (0, .ref t)]) hx hb dX10_image_34 hl (k := 1) rfl rfl (by decide) rfl (fun ls hl => ?_)
        refine lv_goto (tgt := 17) hx hb dX10_image_37 (by decide) ?_
        exact ih17 _ _ _ _ _ _ T (lv_sub hl [1, 0] rfl) h
  unfold f_X10_image at h
  refine lv_aload_n hx hb dX10_image_0 rfl (lv_at hl 0 rfl) ?_
  obtain ⟨a1, e2, h⟩ := ob_ h
  refine g_RX10_15 C T e2 dX10_image_1 ?_
  refine lv_iconst (v := 0) hx hb dX10_image_4 (by decide) ?_
  refine lv_aload_n hx hb dX10_image_5 rfl (lv_at hl 0 rfl) ?_
  obtain ⟨a3, e4, h⟩ := ob_ h
  refine g_RX10_19 C T e4 dX10_image_6 ?_
  refine lv_iconst (v := 0) hx hb dX10_image_9 (by decide) ?_
  refine lv_bipush (v := 12) hx hb dX10_image_10 (by decide) ?_
  obtain ⟨μ5, e6, h⟩ := ob_ h
  refine th_copyn C T e6 (by decide) (by decide) hl.1 w_774 w_275 w_274 w_12 (Nat.le_of_ble_eq_true rfl) (Nat.le_of_ble_eq_true rfl) dX10_image_12 (fun H locs T => ?_)
  refine lv_iconst (v := 0) hx hb dX10_image_15 (by decide) ?_
  refine lv_istore_n (lv' := [(1, .int 0), (0, .ref t)]) hx hb dX10_image_16 rfl hl (by decide) rfl (fun ls hl => ?_)
  exact J17 fu _ _ _ _ _ _ T (lv_sub hl [1, 0] rfl) h
set_option maxRecDepth 100000 in
set_option maxHeartbeats 4000000 in
theorem c_X10_back {l : Launch} {G : th_G} {σ : th_S} {μ : th_M} {t : Nat} {r : Int32} {μ' : th_M} (h : f_X10_back σ μ t = some (r, μ')) : th_Met l G yX10_back cX10_back 2 (some FieldType.int) { frames := 2, cells := 0, slots := 0, locals := 100 } [.ref t] σ μ (some (.int r)) σ μ' := by
  refine th_ofW (by decide +kernel) (Nat.le_of_ble_eq_true rfl) ?_
  intro p e s m args below meth c ls Q hQ C hr hk hnm T hl
  have hx := C.1
  have hb := C.2.1
  have C : CallFix p m c cX10_back 2 s args th_ws RX10 := C
  have hl : lv_has ls 2 [(0, .ref t)] := hl
  have J36 : ∀ (n : Nat) (μ : th_M) (t : Nat) (x1 : Int32) (H : Heap) (locs : List Loc) (ls : Array Slot), th_R G s H locs σ μ → lv_has ls 2 [(0, .ref t), (1, .int x1)] → f_X10_back_b36  n σ μ t x1 = some (r, μ') → W p l e { frames := 2, cells := 0, slots := 0, locals := 100 } s m args below meth c H locs 0 0 Q (F0 m 36 ls []) := by
    intro n
    induction n with
    | zero => intro μ t x1 H locs ls T hl h; unfold f_X10_back_b36 at h; cases h
    | succ n36 ih36 =>
      intro μ t x1 H locs ls T hl h
      unfold f_X10_back_b36 at h
      refine lv_iload_n hx hb dX10_back_36 rfl (lv_at hl 1 rfl) ?_
      refine lv_aload_n hx hb dX10_back_37 rfl (lv_at hl 0 rfl) ?_
      obtain ⟨v1, e2, h⟩ := ob_ h
      refine g_RX10_92 C T e2 dX10_back_38 ?_
      refine lv_icmp_ge (tgt := 59) hx hb dX10_back_41 (by decide) (fun c3 => ?_) (fun c3 => ?_)
      · replace h := ot_ c3 h
        refine lv_aload_n hx hb dX10_back_59 rfl (lv_at hl 0 rfl) ?_
        obtain ⟨v4, e5, h⟩ := ob_ h
        refine g_RX10_92 C T e5 dX10_back_60 ?_
        obtain ⟨rfl, rfl⟩ := os2 h
        exact th_iret hQ C hr hk T (Nat.le_of_ble_eq_true rfl) (Nat.le_of_ble_eq_true rfl) dX10_back_63
      · replace h := of_ c3 h
        refine lv_aload_n hx hb dX10_back_44 rfl (lv_at hl 0 rfl) ?_
        obtain ⟨a6, e7, h⟩ := ob_ h
        refine g_RX10_11 C T e7 dX10_back_45 ?_
        refine lv_iload_n hx hb dX10_back_48 rfl (lv_at hl 1 rfl) ?_
        obtain ⟨a8, e9, h⟩ := ob_ h
        refine th_aald C T 13 e9 (by decide) rfl dX10_back_49 ?_
        obtain ⟨μ10, e11, h⟩ := ob_ h
        refine vc_RX10_268 (rest := []) C T e11 hl.1 (st1 := []) rfl (Nat.le_of_ble_eq_true rfl) ⟨Nat.le_of_ble_eq_true rfl, Nat.le_of_ble_eq_true rfl⟩ ⟨Nat.le_of_ble_eq_true rfl, Nat.le_of_ble_eq_true rfl⟩ dX10_back_50 (fun H locs T => ?_)
        refine lv_iinc (v := x1 + 1) (lv' := [(1, .int (x1 + 1)), (0, .ref t)]) hx hb dX10_back_53 hl (k := 1) rfl rfl (by decide) rfl (fun ls hl => ?_)
        refine lv_goto (tgt := 36) hx hb dX10_back_56 (by decide) ?_
        exact ih36 _ _ _ _ _ _ T (lv_sub hl [1, 0] rfl) h
  unfold f_X10_back at h
  refine lv_aload_n hx hb dX10_back_0 rfl (lv_at hl 0 rfl) ?_
  obtain ⟨v1, e2, h⟩ := ob_ h
  refine g_RX10_22 C T e2 dX10_back_1 ?_
  refine lv_iconst (v := -1) hx hb dX10_back_4 (by decide) ?_
  refine lv_icmp_ne (tgt := 11) hx hb dX10_back_5 (by decide) (fun c3 => ?_) (fun c3 => ?_)
  · replace h := of_ c3 h
    refine lv_aload_n hx hb dX10_back_11 rfl (lv_at hl 0 rfl) ?_
    obtain ⟨a4, e5, h⟩ := ob_ h
    refine g_RX10_19 C T e5 dX10_back_12 ?_
    refine lv_iconst (v := 0) hx hb dX10_back_15 (by decide) ?_
    refine lv_aload_n hx hb dX10_back_16 rfl (lv_at hl 0 rfl) ?_
    obtain ⟨a6, e7, h⟩ := ob_ h
    refine g_RX10_15 C T e7 dX10_back_17 ?_
    refine lv_iconst (v := 0) hx hb dX10_back_20 (by decide) ?_
    refine lv_bipush (v := 12) hx hb dX10_back_21 (by decide) ?_
    obtain ⟨μ8, e9, h⟩ := ob_ h
    refine th_copyn C T e9 (by decide) (by decide) hl.1 w_774 w_275 w_274 w_12 (Nat.le_of_ble_eq_true rfl) (Nat.le_of_ble_eq_true rfl) dX10_back_23 (fun H locs T => ?_)
    refine lv_aload_n hx hb dX10_back_26 rfl (lv_at hl 0 rfl) ?_
    refine lv_aload_n hx hb dX10_back_27 rfl (lv_at hl 0 rfl) ?_
    obtain ⟨v10, e11, h⟩ := ob_ h
    refine g_RX10_22 C T e11 dX10_back_28 ?_
    obtain ⟨μ12, e13, h⟩ := ob_ h
    refine p_RX10_92 C T e13 dX10_back_31 (fun H locs T => ?_)
    refine lv_iconst (v := 0) hx hb dX10_back_34 (by decide) ?_
    refine lv_istore_n (lv' := [(1, .int 0), (0, .ref t)]) hx hb dX10_back_35 rfl hl (by decide) rfl (fun ls hl => ?_)
    exact J36 fu _ _ _ _ _ _ T (lv_sub hl [1, 0] rfl) h
  · replace h := ot_ c3 h
    refine lv_bipush (v := -3) hx hb dX10_back_8 (by decide) ?_
    obtain ⟨rfl, rfl⟩ := os2 h
    exact th_iret hQ C hr hk T (Nat.le_of_ble_eq_true rfl) (Nat.le_of_ble_eq_true rfl) dX10_back_10
set_option maxRecDepth 100000 in
set_option maxHeartbeats 4000000 in
theorem c_X10_count {l : Launch} {G : th_G} {σ : th_S} {μ : th_M} {t : Nat} {x1 : Int32} {r : Int32} (h : f_X10_count σ μ t x1 = some r) : th_Met l G yX10_count cX10_count 2 (some FieldType.int) { frames := 1, cells := 0, slots := 0, locals := 23 } [.ref t, .int x1] σ μ (some (.int r)) σ μ := by
  refine th_ofW (by decide +kernel) (Nat.le_of_ble_eq_true rfl) ?_
  intro p e s m args below meth c ls Q hQ C hr hk hnm T hl
  have hx := C.1
  have hb := C.2.1
  have C : CallFix p m c cX10_count 2 s args th_ws RX10 := C
  have hl : lv_has ls 2 [(0, .ref t), (1, .int x1)] := hl
  unfold f_X10_count at h
  refine lv_iload_n hx hb dX10_count_0 rfl (lv_at hl 1 rfl) ?_
  by_cases c1 : x1 = 0
  · replace h := ot_ c1 h
    refine th_tabIn (off := 55) (tgt := 56) C 0 c1 dX10_count_1 (by decide) (by decide) (by decide) (by decide) ?_
    refine lv_aload_n hx hb dX10_count_56 rfl (lv_at hl 0 rfl) ?_
    obtain ⟨v2, e3, h⟩ := ob_ h
    refine g_RX10_92 C T e3 dX10_count_57 ?_
    obtain rfl := os1 h
    exact th_iret hQ C hr hk T (Nat.le_of_ble_eq_true rfl) (Nat.le_of_ble_eq_true rfl) dX10_count_60
  replace h := of_ c1 h
  by_cases c4 : x1 = 1
  · replace h := ot_ c4 h
    refine th_tabIn (off := 60) (tgt := 61) C 1 c4 dX10_count_1 (by decide) (by decide) (by decide) (by decide) ?_
    refine lv_aload_n hx hb dX10_count_61 rfl (lv_at hl 0 rfl) ?_
    refine lv_iconst (v := 0) hx hb dX10_count_62 (by decide) ?_
    obtain ⟨k5, h⟩ := oc_ h
    obtain ⟨v6, e7, h⟩ := ob_ h
    refine th_callV (As := [.int 0]) (rest := []) C T (c_X10_those e7) k_RX10_245 10 rfl rfl (by decide) k5 rfl hl.1 rfl (st1 := [.int v6]) rfl (cells1 := 0) rfl (slots1 := 0) rfl (Nat.le_of_ble_eq_true rfl) ⟨Nat.le_of_ble_eq_true rfl, Nat.le_of_ble_eq_true rfl⟩ ⟨Nat.le_of_ble_eq_true rfl, Nat.le_of_ble_eq_true rfl⟩ dX10_count_63 (fun H locs T => ?_)
    obtain ⟨v8, e9, h⟩ := ob_ h
    refine th_callS (As := [.int v6]) (rest := []) C T (c_J6_bitCount_0f7a4 e9) k_RX10_248 rfl hl.1 rfl (st1 := [.int v8]) rfl (cells1 := 0) rfl (slots1 := 0) rfl (Nat.le_of_ble_eq_true rfl) ⟨Nat.le_of_ble_eq_true rfl, Nat.le_of_ble_eq_true rfl⟩ ⟨Nat.le_of_ble_eq_true rfl, Nat.le_of_ble_eq_true rfl⟩ dX10_count_66 (fun H locs T => ?_)
    obtain rfl := os1 h
    exact th_iret hQ C hr hk T (Nat.le_of_ble_eq_true rfl) (Nat.le_of_ble_eq_true rfl) dX10_count_69
  replace h := of_ c4 h
  by_cases c10 : x1 = 2
  · replace h := ot_ c10 h
    refine th_tabIn (off := 69) (tgt := 70) C 2 c10 dX10_count_1 (by decide) (by decide) (by decide) (by decide) ?_
    refine lv_aload_n hx hb dX10_count_70 rfl (lv_at hl 0 rfl) ?_
    refine lv_iconst (v := 1) hx hb dX10_count_71 (by decide) ?_
    obtain ⟨k11, h⟩ := oc_ h
    obtain ⟨v12, e13, h⟩ := ob_ h
    refine th_callV (As := [.int 1]) (rest := []) C T (c_X10_those e13) k_RX10_245 10 rfl rfl (by decide) k11 rfl hl.1 rfl (st1 := [.int v12]) rfl (cells1 := 0) rfl (slots1 := 0) rfl (Nat.le_of_ble_eq_true rfl) ⟨Nat.le_of_ble_eq_true rfl, Nat.le_of_ble_eq_true rfl⟩ ⟨Nat.le_of_ble_eq_true rfl, Nat.le_of_ble_eq_true rfl⟩ dX10_count_72 (fun H locs T => ?_)
    obtain ⟨v14, e15, h⟩ := ob_ h
    refine th_callS (As := [.int v12]) (rest := []) C T (c_J6_bitCount_0f7a4 e15) k_RX10_248 rfl hl.1 rfl (st1 := [.int v14]) rfl (cells1 := 0) rfl (slots1 := 0) rfl (Nat.le_of_ble_eq_true rfl) ⟨Nat.le_of_ble_eq_true rfl, Nat.le_of_ble_eq_true rfl⟩ ⟨Nat.le_of_ble_eq_true rfl, Nat.le_of_ble_eq_true rfl⟩ dX10_count_75 (fun H locs T => ?_)
    obtain rfl := os1 h
    exact th_iret hQ C hr hk T (Nat.le_of_ble_eq_true rfl) (Nat.le_of_ble_eq_true rfl) dX10_count_78
  replace h := of_ c10 h
  by_cases c16 : x1 = 3
  · replace h := ot_ c16 h
    refine th_tabIn (off := 78) (tgt := 79) C 3 c16 dX10_count_1 (by decide) (by decide) (by decide) (by decide) ?_
    refine lv_aload_n hx hb dX10_count_79 rfl (lv_at hl 0 rfl) ?_
    refine lv_iconst (v := 2) hx hb dX10_count_80 (by decide) ?_
    obtain ⟨k17, h⟩ := oc_ h
    obtain ⟨v18, e19, h⟩ := ob_ h
    refine th_callV (As := [.int 2]) (rest := []) C T (c_X10_those e19) k_RX10_245 10 rfl rfl (by decide) k17 rfl hl.1 rfl (st1 := [.int v18]) rfl (cells1 := 0) rfl (slots1 := 0) rfl (Nat.le_of_ble_eq_true rfl) ⟨Nat.le_of_ble_eq_true rfl, Nat.le_of_ble_eq_true rfl⟩ ⟨Nat.le_of_ble_eq_true rfl, Nat.le_of_ble_eq_true rfl⟩ dX10_count_81 (fun H locs T => ?_)
    obtain ⟨v20, e21, h⟩ := ob_ h
    refine th_callS (As := [.int v18]) (rest := []) C T (c_J6_bitCount_0f7a4 e21) k_RX10_248 rfl hl.1 rfl (st1 := [.int v20]) rfl (cells1 := 0) rfl (slots1 := 0) rfl (Nat.le_of_ble_eq_true rfl) ⟨Nat.le_of_ble_eq_true rfl, Nat.le_of_ble_eq_true rfl⟩ ⟨Nat.le_of_ble_eq_true rfl, Nat.le_of_ble_eq_true rfl⟩ dX10_count_84 (fun H locs T => ?_)
    obtain rfl := os1 h
    exact th_iret hQ C hr hk T (Nat.le_of_ble_eq_true rfl) (Nat.le_of_ble_eq_true rfl) dX10_count_87
  replace h := of_ c16 h
  by_cases c22 : x1 = 4
  · replace h := ot_ c22 h
    refine th_tabIn (off := 87) (tgt := 88) C 4 c22 dX10_count_1 (by decide) (by decide) (by decide) (by decide) ?_
    refine lv_aload_n hx hb dX10_count_88 rfl (lv_at hl 0 rfl) ?_
    obtain ⟨a23, e24, h⟩ := ob_ h
    refine g_RX10_15 C T e24 dX10_count_89 ?_
    refine lv_bipush (v := 9) hx hb dX10_count_92 (by decide) ?_
    obtain ⟨v25, e26, h⟩ := ob_ h
    refine th_ialdn C T e26 (by decide) (by decide) dX10_count_94 ?_
    obtain rfl := os1 h
    exact th_iret hQ C hr hk T (Nat.le_of_ble_eq_true rfl) (Nat.le_of_ble_eq_true rfl) dX10_count_95
  replace h := of_ c22 h
  by_cases c27 : x1 = 5
  · replace h := ot_ c27 h
    refine th_tabIn (off := 95) (tgt := 96) C 5 c27 dX10_count_1 (by decide) (by decide) (by decide) (by decide) ?_
    refine lv_aload_n hx hb dX10_count_96 rfl (lv_at hl 0 rfl) ?_
    obtain ⟨a28, e29, h⟩ := ob_ h
    refine g_RX10_15 C T e29 dX10_count_97 ?_
    refine lv_bipush (v := 10) hx hb dX10_count_100 (by decide) ?_
    obtain ⟨v30, e31, h⟩ := ob_ h
    refine th_ialdn C T e31 (by decide) (by decide) dX10_count_102 ?_
    obtain rfl := os1 h
    exact th_iret hQ C hr hk T (Nat.le_of_ble_eq_true rfl) (Nat.le_of_ble_eq_true rfl) dX10_count_103
  replace h := of_ c27 h
  by_cases c32 : x1 = 6
  · replace h := ot_ c32 h
    refine th_tabIn (off := 103) (tgt := 104) C 6 c32 dX10_count_1 (by decide) (by decide) (by decide) (by decide) ?_
    refine lv_aload_n hx hb dX10_count_104 rfl (lv_at hl 0 rfl) ?_
    obtain ⟨a33, e34, h⟩ := ob_ h
    refine g_RX10_15 C T e34 dX10_count_105 ?_
    refine lv_bipush (v := 8) hx hb dX10_count_108 (by decide) ?_
    obtain ⟨v35, e36, h⟩ := ob_ h
    refine th_ialdn C T e36 (by decide) (by decide) dX10_count_110 ?_
    obtain rfl := os1 h
    exact th_iret hQ C hr hk T (Nat.le_of_ble_eq_true rfl) (Nat.le_of_ble_eq_true rfl) dX10_count_111
  replace h := of_ c32 h
  by_cases c37 : x1 = 7
  · replace h := ot_ c37 h
    refine th_tabIn (off := 111) (tgt := 112) C 7 c37 dX10_count_1 (by decide) (by decide) (by decide) (by decide) ?_
    refine lv_aload_n hx hb dX10_count_112 rfl (lv_at hl 0 rfl) ?_
    obtain ⟨v38, e39, h⟩ := ob_ h
    refine g_RX10_82 C T e39 dX10_count_113 ?_
    obtain rfl := os1 h
    exact th_iret hQ C hr hk T (Nat.le_of_ble_eq_true rfl) (Nat.le_of_ble_eq_true rfl) dX10_count_116
  replace h := of_ c37 h
  by_cases c40 : x1 = 8
  · replace h := ot_ c40 h
    refine th_tabIn (off := 116) (tgt := 117) C 8 c40 dX10_count_1 (by decide) (by decide) (by decide) (by decide) ?_
    refine lv_aload_n hx hb dX10_count_117 rfl (lv_at hl 0 rfl) ?_
    obtain ⟨a41, e42, h⟩ := ob_ h
    refine g_RX10_29 C T e42 dX10_count_118 ?_
    obtain ⟨v43, e44, h⟩ := ob_ h
    refine g_RX10_146 C T e44 dX10_count_121 ?_
    obtain rfl := os1 h
    exact th_iret hQ C hr hk T (Nat.le_of_ble_eq_true rfl) (Nat.le_of_ble_eq_true rfl) dX10_count_124
  replace h := of_ c40 h
  by_cases c45 : x1 = 9
  · replace h := ot_ c45 h
    refine th_tabIn (off := 124) (tgt := 125) C 9 c45 dX10_count_1 (by decide) (by decide) (by decide) (by decide) ?_
    refine lv_aload_n hx hb dX10_count_125 rfl (lv_at hl 0 rfl) ?_
    obtain ⟨a46, e47, h⟩ := ob_ h
    refine g_RX10_15 C T e47 dX10_count_126 ?_
    refine lv_bipush (v := 11) hx hb dX10_count_129 (by decide) ?_
    obtain ⟨v48, e49, h⟩ := ob_ h
    refine th_ialdn C T e49 (by decide) (by decide) dX10_count_131 ?_
    obtain rfl := os1 h
    exact th_iret hQ C hr hk T (Nat.le_of_ble_eq_true rfl) (Nat.le_of_ble_eq_true rfl) dX10_count_132
  replace h := of_ c45 h
  have n50 := th_ne (n := 0) c1 (by decide)
  have n51 := th_ne (n := 1) c4 (by decide)
  have n52 := th_ne (n := 2) c10 (by decide)
  have n53 := th_ne (n := 3) c16 (by decide)
  have n54 := th_ne (n := 4) c22 (by decide)
  have n55 := th_ne (n := 5) c27 (by decide)
  have n56 := th_ne (n := 6) c32 (by decide)
  have n57 := th_ne (n := 7) c37 (by decide)
  have n58 := th_ne (n := 8) c40 (by decide)
  have n59 := th_ne (n := 9) c45 (by decide)
  refine lv_tableOut (tgt := 133) hx hb dX10_count_1 (by omega) (by decide) ?_
  refine lv_bipush (v := -2) hx hb dX10_count_133 (by decide) ?_
  obtain rfl := os1 h
  exact th_iret hQ C hr hk T (Nat.le_of_ble_eq_true rfl) (Nat.le_of_ble_eq_true rfl) dX10_count_135
set_option maxRecDepth 100000 in
set_option maxHeartbeats 4000000 in
theorem c_X10_sheet {l : Launch} {G : th_G} {σ : th_S} {μ : th_M} {t : Nat} {x1 : Int32} {x2 : Int32} {x3 : Int32} {r : Int32} {μ' : th_M} (h : f_X10_sheet σ μ t x1 x2 x3 = some (r, μ')) : th_Met l G yX10_sheet cX10_sheet 4 (some FieldType.int) { frames := 2, cells := 0, slots := 0, locals := 45 } [.ref t, .int x1, .int x2, .int x3] σ μ (some (.int r)) σ μ' := by
  refine th_ofW (by decide +kernel) (Nat.le_of_ble_eq_true rfl) ?_
  intro p e s m args below meth c ls Q hQ C hr hk hnm T hl
  have hx := C.1
  have hb := C.2.1
  have C : CallFix p m c cX10_sheet 4 s args th_ws RX10 := C
  have hl : lv_has ls 4 [(0, .ref t), (1, .int x1), (2, .int x2), (3, .int x3)] := hl
  unfold f_X10_sheet at h
  refine lv_iload_n hx hb dX10_sheet_0 rfl (lv_at hl 1 rfl) ?_
  obtain ⟨v1, e2, h⟩ := ob_ h
  refine th_callS (As := [.int x1]) (rest := []) C T (c_X10_isSheet e2) k_RX10_226 rfl hl.1 rfl (st1 := [.int v1]) rfl (cells1 := 0) rfl (slots1 := 0) rfl (Nat.le_of_ble_eq_true rfl) ⟨Nat.le_of_ble_eq_true rfl, Nat.le_of_ble_eq_true rfl⟩ ⟨Nat.le_of_ble_eq_true rfl, Nat.le_of_ble_eq_true rfl⟩ dX10_sheet_1 (fun H locs T => ?_)
  refine lv_if_eq (tgt := 17) hx hb dX10_sheet_4 (by decide) (fun c3 => ?_) (fun c3 => ?_)
  · replace h := ot_ c3 h
    refine lv_bipush (v := -2) hx hb dX10_sheet_17 (by decide) ?_
    obtain ⟨rfl, rfl⟩ := os2 h
    exact th_iret hQ C hr hk T (Nat.le_of_ble_eq_true rfl) (Nat.le_of_ble_eq_true rfl) dX10_sheet_19
  · replace h := of_ c3 h
    refine lv_iload_n hx hb dX10_sheet_7 rfl (lv_at hl 2 rfl) ?_
    refine lv_iconst (v := -1) hx hb dX10_sheet_8 (by decide) ?_
    refine lv_icmp_lt (tgt := 17) hx hb dX10_sheet_9 (by decide) (fun c4 => ?_) (fun c4 => ?_)
    · replace h := ot_ c4 h
      refine lv_bipush (v := -2) hx hb dX10_sheet_17 (by decide) ?_
      obtain ⟨rfl, rfl⟩ := os2 h
      exact th_iret hQ C hr hk T (Nat.le_of_ble_eq_true rfl) (Nat.le_of_ble_eq_true rfl) dX10_sheet_19
    · replace h := of_ c4 h
      refine lv_iload_n hx hb dX10_sheet_12 rfl (lv_at hl 2 rfl) ?_
      refine lv_iconst (v := 2) hx hb dX10_sheet_13 (by decide) ?_
      refine lv_icmp_le (tgt := 20) hx hb dX10_sheet_14 (by decide) (fun c5 => ?_) (fun c5 => ?_)
      · replace h := ot_ c5 h
        refine lv_iload_n hx hb dX10_sheet_20 rfl (lv_at hl 2 rfl) ?_
        refine lv_iconst (v := -1) hx hb dX10_sheet_21 (by decide) ?_
        refine lv_icmp_ne (tgt := 38) hx hb dX10_sheet_22 (by decide) (fun c6 => ?_) (fun c6 => ?_)
        · replace h := of_ c6 h
          refine lv_iload_n hx hb dX10_sheet_38 rfl (lv_at hl 3 rfl) ?_
          refine lv_bipush (v := 40) hx hb dX10_sheet_39 (by decide) ?_
          refine lv_icmp_le (tgt := 47) hx hb dX10_sheet_41 (by decide) (fun c7 => ?_) (fun c7 => ?_)
          · replace h := ot_ c7 h
            refine lv_iload_n hx hb dX10_sheet_47 rfl (lv_at hl 3 rfl) ?_
            refine lv_if_ge (tgt := 54) hx hb dX10_sheet_48 (by decide) (fun c8 => ?_) (fun c8 => ?_)
            · replace h := ot_ c8 h
              refine lv_aload_n hx hb dX10_sheet_54 rfl (lv_at hl 0 rfl) ?_
              obtain ⟨a9, e10, h⟩ := ob_ h
              refine g_RX10_54 C T e10 dX10_sheet_55 ?_
              refine lv_iload_n hx hb dX10_sheet_58 rfl (lv_at hl 1 rfl) ?_
              obtain ⟨a11, e12, h⟩ := ob_ h
              refine th_aald C T 15 e12 (by decide) rfl dX10_sheet_59 ?_
              refine lv_iload_n hx hb dX10_sheet_60 rfl (lv_at hl 2 rfl) ?_
              refine lv_iload_n hx hb dX10_sheet_61 rfl (lv_at hl 3 rfl) ?_
              obtain ⟨k13, h⟩ := oc_ h
              obtain ⟨μ14, e15, h⟩ := ob_ h
              refine th_callV (As := [.int x2, .int x3]) (rest := []) C T (c_X6_become e15) k_RX10_284 6 rfl rfl (by decide) k13 rfl hl.1 rfl (st1 := []) rfl (cells1 := 0) rfl (slots1 := 0) rfl (Nat.le_of_ble_eq_true rfl) ⟨Nat.le_of_ble_eq_true rfl, Nat.le_of_ble_eq_true rfl⟩ ⟨Nat.le_of_ble_eq_true rfl, Nat.le_of_ble_eq_true rfl⟩ dX10_sheet_62 (fun H locs T => ?_)
              refine lv_iconst (v := 1) hx hb dX10_sheet_65 (by decide) ?_
              obtain ⟨rfl, rfl⟩ := os2 h
              exact th_iret hQ C hr hk T (Nat.le_of_ble_eq_true rfl) (Nat.le_of_ble_eq_true rfl) dX10_sheet_66
            · replace h := of_ c8 h
              refine lv_bipush (v := -14) hx hb dX10_sheet_51 (by decide) ?_
              obtain ⟨rfl, rfl⟩ := os2 h
              exact th_iret hQ C hr hk T (Nat.le_of_ble_eq_true rfl) (Nat.le_of_ble_eq_true rfl) dX10_sheet_53
          · replace h := of_ c7 h
            refine lv_bipush (v := -2) hx hb dX10_sheet_44 (by decide) ?_
            obtain ⟨rfl, rfl⟩ := os2 h
            exact th_iret hQ C hr hk T (Nat.le_of_ble_eq_true rfl) (Nat.le_of_ble_eq_true rfl) dX10_sheet_46
        · replace h := ot_ c6 h
          refine lv_aload_n hx hb dX10_sheet_25 rfl (lv_at hl 0 rfl) ?_
          obtain ⟨a16, e17, h⟩ := ob_ h
          refine g_RX10_54 C T e17 dX10_sheet_26 ?_
          refine lv_iload_n hx hb dX10_sheet_29 rfl (lv_at hl 1 rfl) ?_
          obtain ⟨a18, e19, h⟩ := ob_ h
          refine th_aald C T 15 e19 (by decide) rfl dX10_sheet_30 ?_
          refine lv_iload_n hx hb dX10_sheet_31 rfl (lv_at hl 2 rfl) ?_
          refine lv_iconst (v := 0) hx hb dX10_sheet_32 (by decide) ?_
          obtain ⟨k20, h⟩ := oc_ h
          obtain ⟨μ21, e22, h⟩ := ob_ h
          refine th_callV (As := [.int x2, .int 0]) (rest := []) C T (c_X6_become e22) k_RX10_284 6 rfl rfl (by decide) k20 rfl hl.1 rfl (st1 := []) rfl (cells1 := 0) rfl (slots1 := 0) rfl (Nat.le_of_ble_eq_true rfl) ⟨Nat.le_of_ble_eq_true rfl, Nat.le_of_ble_eq_true rfl⟩ ⟨Nat.le_of_ble_eq_true rfl, Nat.le_of_ble_eq_true rfl⟩ dX10_sheet_33 (fun H locs T => ?_)
          refine lv_iconst (v := 1) hx hb dX10_sheet_36 (by decide) ?_
          obtain ⟨rfl, rfl⟩ := os2 h
          exact th_iret hQ C hr hk T (Nat.le_of_ble_eq_true rfl) (Nat.le_of_ble_eq_true rfl) dX10_sheet_37
      · replace h := of_ c5 h
        refine lv_bipush (v := -2) hx hb dX10_sheet_17 (by decide) ?_
        obtain ⟨rfl, rfl⟩ := os2 h
        exact th_iret hQ C hr hk T (Nat.le_of_ble_eq_true rfl) (Nat.le_of_ble_eq_true rfl) dX10_sheet_19
set_option maxRecDepth 100000 in
set_option maxHeartbeats 4000000 in
theorem c_X10_cell {l : Launch} {G : th_G} {σ : th_S} {μ : th_M} {t : Nat} {x1 : Int32} {x2 : Int32} {x3 : Int32} {r : Int32} {μ' : th_M} (h : f_X10_cell σ μ t x1 x2 x3 = some (r, μ')) : th_Met l G yX10_cell cX10_cell 4 (some FieldType.int) { frames := 2, cells := 0, slots := 0, locals := 45 } [.ref t, .int x1, .int x2, .int x3] σ μ (some (.int r)) σ μ' := by
  refine th_ofW (by decide +kernel) (Nat.le_of_ble_eq_true rfl) ?_
  intro p e s m args below meth c ls Q hQ C hr hk hnm T hl
  have hx := C.1
  have hb := C.2.1
  have C : CallFix p m c cX10_cell 4 s args th_ws RX10 := C
  have hl : lv_has ls 4 [(0, .ref t), (1, .int x1), (2, .int x2), (3, .int x3)] := hl
  unfold f_X10_cell at h
  refine lv_iload_n hx hb dX10_cell_0 rfl (lv_at hl 1 rfl) ?_
  obtain ⟨v1, e2, h⟩ := ob_ h
  refine th_callS (As := [.int x1]) (rest := []) C T (c_X10_isSheet e2) k_RX10_226 rfl hl.1 rfl (st1 := [.int v1]) rfl (cells1 := 0) rfl (slots1 := 0) rfl (Nat.le_of_ble_eq_true rfl) ⟨Nat.le_of_ble_eq_true rfl, Nat.le_of_ble_eq_true rfl⟩ ⟨Nat.le_of_ble_eq_true rfl, Nat.le_of_ble_eq_true rfl⟩ dX10_cell_1 (fun H locs T => ?_)
  refine lv_if_ne (tgt := 10) hx hb dX10_cell_4 (by decide) (fun c3 => ?_) (fun c3 => ?_)
  · replace h := of_ c3 h
    refine lv_aload_n hx hb dX10_cell_10 rfl (lv_at hl 0 rfl) ?_
    obtain ⟨a4, e5, h⟩ := ob_ h
    refine g_RX10_54 C T e5 dX10_cell_11 ?_
    refine lv_iload_n hx hb dX10_cell_14 rfl (lv_at hl 1 rfl) ?_
    obtain ⟨a6, e7, h⟩ := ob_ h
    refine th_aald C T 15 e7 (by decide) rfl dX10_cell_15 ?_
    obtain ⟨k8, h⟩ := oc_ h
    obtain ⟨v9, e10, h⟩ := ob_ h
    refine th_callV (As := []) (rest := []) C T (c_X6_isMissing e10) k_RX10_229 6 rfl rfl (by decide) k8 rfl hl.1 rfl (st1 := [.int v9]) rfl (cells1 := 0) rfl (slots1 := 0) rfl (Nat.le_of_ble_eq_true rfl) ⟨Nat.le_of_ble_eq_true rfl, Nat.le_of_ble_eq_true rfl⟩ ⟨Nat.le_of_ble_eq_true rfl, Nat.le_of_ble_eq_true rfl⟩ dX10_cell_16 (fun H locs T => ?_)
    refine lv_if_eq (tgt := 25) hx hb dX10_cell_19 (by decide) (fun c11 => ?_) (fun c11 => ?_)
    · replace h := ot_ c11 h
      refine lv_aload_n hx hb dX10_cell_25 rfl (lv_at hl 0 rfl) ?_
      obtain ⟨a12, e13, h⟩ := ob_ h
      refine g_RX10_54 C T e13 dX10_cell_26 ?_
      refine lv_iload_n hx hb dX10_cell_29 rfl (lv_at hl 1 rfl) ?_
      obtain ⟨a14, e15, h⟩ := ob_ h
      refine th_aald C T 15 e15 (by decide) rfl dX10_cell_30 ?_
      refine lv_iload_n hx hb dX10_cell_31 rfl (lv_at hl 2 rfl) ?_
      refine lv_i2l hx hb dX10_cell_32 rfl ?_
      refine lv_iconst (v := 1) hx hb dX10_cell_33 (by decide) ?_
      obtain ⟨k16, h⟩ := oc_ h
      obtain ⟨v17, e18, h⟩ := ob_ h
      refine th_callV (As := [.long x2.toInt64, .int 1]) (rest := []) C T (c_X6_has e18) k_RX10_287 6 rfl rfl (by decide) k16 rfl hl.1 rfl (st1 := [.int v17]) rfl (cells1 := 0) rfl (slots1 := 0) rfl (Nat.le_of_ble_eq_true rfl) ⟨Nat.le_of_ble_eq_true rfl, Nat.le_of_ble_eq_true rfl⟩ ⟨Nat.le_of_ble_eq_true rfl, Nat.le_of_ble_eq_true rfl⟩ dX10_cell_34 (fun H locs T => ?_)
      refine lv_if_ne (tgt := 43) hx hb dX10_cell_37 (by decide) (fun c19 => ?_) (fun c19 => ?_)
      · replace h := of_ c19 h
        refine lv_aload_n hx hb dX10_cell_43 rfl (lv_at hl 0 rfl) ?_
        obtain ⟨a20, e21, h⟩ := ob_ h
        refine g_RX10_54 C T e21 dX10_cell_44 ?_
        refine lv_iload_n hx hb dX10_cell_47 rfl (lv_at hl 1 rfl) ?_
        obtain ⟨a22, e23, h⟩ := ob_ h
        refine th_aald C T 15 e23 (by decide) rfl dX10_cell_48 ?_
        refine lv_iload_n hx hb dX10_cell_49 rfl (lv_at hl 2 rfl) ?_
        refine lv_iload_n hx hb dX10_cell_50 rfl (lv_at hl 3 rfl) ?_
        obtain ⟨k24, h⟩ := oc_ h
        obtain ⟨μ25, e26, h⟩ := ob_ h
        refine th_callV (As := [.int x2, .int x3]) (rest := []) C T (c_X6_put e26) k_RX10_291 6 rfl rfl (by decide) k24 rfl hl.1 rfl (st1 := []) rfl (cells1 := 0) rfl (slots1 := 0) rfl (Nat.le_of_ble_eq_true rfl) ⟨Nat.le_of_ble_eq_true rfl, Nat.le_of_ble_eq_true rfl⟩ ⟨Nat.le_of_ble_eq_true rfl, Nat.le_of_ble_eq_true rfl⟩ dX10_cell_51 (fun H locs T => ?_)
        refine lv_iconst (v := 1) hx hb dX10_cell_54 (by decide) ?_
        obtain ⟨rfl, rfl⟩ := os2 h
        exact th_iret hQ C hr hk T (Nat.le_of_ble_eq_true rfl) (Nat.le_of_ble_eq_true rfl) dX10_cell_55
      · replace h := ot_ c19 h
        refine lv_bipush (v := -12) hx hb dX10_cell_40 (by decide) ?_
        obtain ⟨rfl, rfl⟩ := os2 h
        exact th_iret hQ C hr hk T (Nat.le_of_ble_eq_true rfl) (Nat.le_of_ble_eq_true rfl) dX10_cell_42
    · replace h := of_ c11 h
      refine lv_bipush (v := -11) hx hb dX10_cell_22 (by decide) ?_
      obtain ⟨rfl, rfl⟩ := os2 h
      exact th_iret hQ C hr hk T (Nat.le_of_ble_eq_true rfl) (Nat.le_of_ble_eq_true rfl) dX10_cell_24
  · replace h := ot_ c3 h
    refine lv_bipush (v := -2) hx hb dX10_cell_7 (by decide) ?_
    obtain ⟨rfl, rfl⟩ := os2 h
    exact th_iret hQ C hr hk T (Nat.le_of_ble_eq_true rfl) (Nat.le_of_ble_eq_true rfl) dX10_cell_9
set_option maxRecDepth 100000 in
set_option maxHeartbeats 4000000 in
theorem c_X10_copy {l : Launch} {G : th_G} {σ : th_S} {μ : th_M} {t : Nat} {x1 : Int32} {x2 : Int32} {x3 : Int32} {x4 : Int32} {x5 : Int32} {r : Int32} {μ' : th_M} (h : f_X10_copy σ μ t x1 x2 x3 x4 x5 = some (r, μ')) : th_Met l G yX10_copy cX10_copy 8 (some FieldType.int) { frames := 1, cells := 0, slots := 0, locals := 80 } [.ref t, .int x1, .int x2, .int x3, .int x4, .int x5] σ μ (some (.int r)) σ μ' := by
  refine th_ofW (by decide +kernel) (Nat.le_of_ble_eq_true rfl) ?_
  intro p e s m args below meth c ls Q hQ C hr hk hnm T hl
  have hx := C.1
  have hb := C.2.1
  have C : CallFix p m c cX10_copy 8 s args th_ws RX10 := C
  have hl : lv_has ls 8 [(0, .ref t), (1, .int x1), (2, .int x2), (3, .int x3), (4, .int x4), (5, .int x5)] := hl
  unfold f_X10_copy at h
  refine lv_iload_n hx hb dX10_copy_0 rfl (lv_at hl 1 rfl) ?_
  obtain ⟨v1, e2, h⟩ := ob_ h
  refine th_callS (As := [.int x1]) (rest := []) C T (c_X10_isSheet e2) k_RX10_226 rfl hl.1 rfl (st1 := [.int v1]) rfl (cells1 := 0) rfl (slots1 := 0) rfl (Nat.le_of_ble_eq_true rfl) ⟨Nat.le_of_ble_eq_true rfl, Nat.le_of_ble_eq_true rfl⟩ ⟨Nat.le_of_ble_eq_true rfl, Nat.le_of_ble_eq_true rfl⟩ dX10_copy_1 (fun H locs T => ?_)
  refine lv_if_eq (tgt := 14) hx hb dX10_copy_4 (by decide) (fun c3 => ?_) (fun c3 => ?_)
  · replace h := ot_ c3 h
    refine lv_bipush (v := -2) hx hb dX10_copy_14 (by decide) ?_
    obtain ⟨rfl, rfl⟩ := os2 h
    exact th_iret hQ C hr hk T (Nat.le_of_ble_eq_true rfl) (Nat.le_of_ble_eq_true rfl) dX10_copy_16
  · replace h := of_ c3 h
    refine lv_iload_n hx hb dX10_copy_7 rfl (lv_at hl 3 rfl) ?_
    obtain ⟨v4, e5, h⟩ := ob_ h
    refine th_callS (As := [.int x3]) (rest := []) C T (c_X10_isSheet e5) k_RX10_226 rfl hl.1 rfl (st1 := [.int v4]) rfl (cells1 := 0) rfl (slots1 := 0) rfl (Nat.le_of_ble_eq_true rfl) ⟨Nat.le_of_ble_eq_true rfl, Nat.le_of_ble_eq_true rfl⟩ ⟨Nat.le_of_ble_eq_true rfl, Nat.le_of_ble_eq_true rfl⟩ dX10_copy_8 (fun H locs T => ?_)
    refine lv_if_ne (tgt := 17) hx hb dX10_copy_11 (by decide) (fun c6 => ?_) (fun c6 => ?_)
    · replace h := of_ c6 h
      refine lv_aload_n hx hb dX10_copy_17 rfl (lv_at hl 0 rfl) ?_
      obtain ⟨a7, e8, h⟩ := ob_ h
      refine g_RX10_54 C T e8 dX10_copy_18 ?_
      refine lv_iload_n hx hb dX10_copy_21 rfl (lv_at hl 1 rfl) ?_
      obtain ⟨a9, e10, h⟩ := ob_ h
      refine th_aald C T 15 e10 (by decide) rfl dX10_copy_22 ?_
      refine lv_astore (lv' := [(6, .ref a9), (0, .ref t), (1, .int x1), (2, .int x2), (3, .int x3), (4, .int x4), (5, .int x5)]) hx hb dX10_copy_23 hl (by decide) rfl (fun ls hl => ?_)
      refine lv_aload_n hx hb dX10_copy_25 rfl (lv_at hl 1 rfl) ?_
      obtain ⟨a11, e12, h⟩ := ob_ h
      refine g_RX10_54 C T e12 dX10_copy_26 ?_
      refine lv_iload_n hx hb dX10_copy_29 rfl (lv_at hl 4 rfl) ?_
      obtain ⟨a13, e14, h⟩ := ob_ h
      refine th_aald C T 15 e14 (by decide) rfl dX10_copy_30 ?_
      refine lv_astore (lv' := [(7, .ref a13), (6, .ref a9), (0, .ref t), (1, .int x1), (2, .int x2), (3, .int x3), (4, .int x4), (5, .int x5)]) hx hb dX10_copy_31 hl (by decide) rfl (fun ls hl => ?_)
      refine lv_aload hx hb dX10_copy_33 (lv_at hl 1 rfl) ?_
      obtain ⟨k15, h⟩ := oc_ h
      obtain ⟨v16, e17, h⟩ := ob_ h
      refine th_callV (As := []) (rest := []) C T (c_X6_isMissing e17) k_RX10_229 6 rfl rfl (by decide) k15 rfl hl.1 rfl (st1 := [.int v16]) rfl (cells1 := 0) rfl (slots1 := 0) rfl (Nat.le_of_ble_eq_true rfl) ⟨Nat.le_of_ble_eq_true rfl, Nat.le_of_ble_eq_true rfl⟩ ⟨Nat.le_of_ble_eq_true rfl, Nat.le_of_ble_eq_true rfl⟩ dX10_copy_35 (fun H locs T => ?_)
      refine lv_if_ne (tgt := 49) hx hb dX10_copy_38 (by decide) (fun c18 => ?_) (fun c18 => ?_)
      · replace h := of_ c18 h
        refine lv_bipush (v := -11) hx hb dX10_copy_49 (by decide) ?_
        obtain ⟨rfl, rfl⟩ := os2 h
        exact th_iret hQ C hr hk T (Nat.le_of_ble_eq_true rfl) (Nat.le_of_ble_eq_true rfl) dX10_copy_51
      · replace h := ot_ c18 h
        refine lv_aload hx hb dX10_copy_41 (lv_at hl 0 rfl) ?_
        obtain ⟨k19, h⟩ := oc_ h
        obtain ⟨v20, e21, h⟩ := ob_ h
        refine th_callV (As := []) (rest := []) C T (c_X6_isMissing e21) k_RX10_229 6 rfl rfl (by decide) k19 rfl hl.1 rfl (st1 := [.int v20]) rfl (cells1 := 0) rfl (slots1 := 0) rfl (Nat.le_of_ble_eq_true rfl) ⟨Nat.le_of_ble_eq_true rfl, Nat.le_of_ble_eq_true rfl⟩ ⟨Nat.le_of_ble_eq_true rfl, Nat.le_of_ble_eq_true rfl⟩ dX10_copy_43 (fun H locs T => ?_)
        refine lv_if_eq (tgt := 52) hx hb dX10_copy_46 (by decide) (fun c22 => ?_) (fun c22 => ?_)
        · replace h := ot_ c22 h
          refine lv_aload hx hb dX10_copy_52 (lv_at hl 1 rfl) ?_
          obtain ⟨v23, e24, h⟩ := ob_ h
          refine g_RX10_294 C T e24 dX10_copy_54 ?_
          refine lv_aload hx hb dX10_copy_57 (lv_at hl 0 rfl) ?_
          obtain ⟨v25, e26, h⟩ := ob_ h
          refine g_RX10_294 C T e26 dX10_copy_59 ?_
          refine lv_icmp_eq (tgt := 68) hx hb dX10_copy_62 (by decide) (fun c27 => ?_) (fun c27 => ?_)
          · replace h := ot_ c27 h
            refine lv_aload hx hb dX10_copy_68 (lv_at hl 1 rfl) ?_
            refine lv_iload_n hx hb dX10_copy_70 rfl (lv_at hl 4 rfl) ?_
            refine lv_i2l hx hb dX10_copy_71 rfl ?_
            refine lv_iload hx hb dX10_copy_72 (lv_at hl 7 rfl) ?_
            obtain ⟨v28, e29, h⟩ := ob_ h
            refine th_callV (As := [.long x2.toInt64, .int x5]) (rest := []) C T (c_X6_has e29) k_RX10_287 6 rfl rfl (by decide) k15 rfl hl.1 rfl (st1 := [.int v28]) rfl (cells1 := 0) rfl (slots1 := 0) rfl (Nat.le_of_ble_eq_true rfl) ⟨Nat.le_of_ble_eq_true rfl, Nat.le_of_ble_eq_true rfl⟩ ⟨Nat.le_of_ble_eq_true rfl, Nat.le_of_ble_eq_true rfl⟩ dX10_copy_74 (fun H locs T => ?_)
            refine lv_if_eq (tgt := 93) hx hb dX10_copy_77 (by decide) (fun c30 => ?_) (fun c30 => ?_)
            · replace h := ot_ c30 h
              refine lv_bipush (v := -12) hx hb dX10_copy_93 (by decide) ?_
              obtain ⟨rfl, rfl⟩ := os2 h
              exact th_iret hQ C hr hk T (Nat.le_of_ble_eq_true rfl) (Nat.le_of_ble_eq_true rfl) dX10_copy_95
            · replace h := of_ c30 h
              refine lv_aload hx hb dX10_copy_80 (lv_at hl 0 rfl) ?_
              refine lv_iload hx hb dX10_copy_82 (lv_at hl 6 rfl) ?_
              refine lv_i2l hx hb dX10_copy_84 rfl ?_
              refine lv_iload hx hb dX10_copy_85 (lv_at hl 7 rfl) ?_
              obtain ⟨v31, e32, h⟩ := ob_ h
              refine th_callV (As := [.long x4.toInt64, .int x5]) (rest := []) C T (c_X6_has e32) k_RX10_287 6 rfl rfl (by decide) k19 rfl hl.1 rfl (st1 := [.int v31]) rfl (cells1 := 0) rfl (slots1 := 0) rfl (Nat.le_of_ble_eq_true rfl) ⟨Nat.le_of_ble_eq_true rfl, Nat.le_of_ble_eq_true rfl⟩ ⟨Nat.le_of_ble_eq_true rfl, Nat.le_of_ble_eq_true rfl⟩ dX10_copy_87 (fun H locs T => ?_)
              refine lv_if_ne (tgt := 96) hx hb dX10_copy_90 (by decide) (fun c33 => ?_) (fun c33 => ?_)
              · replace h := of_ c33 h
                refine lv_aload hx hb dX10_copy_96 (lv_at hl 1 rfl) ?_
                obtain ⟨a34, e35, h⟩ := ob_ h
                refine g_RX10_297 C T e35 dX10_copy_98 ?_
                refine lv_iload_n hx hb dX10_copy_101 rfl (lv_at hl 4 rfl) ?_
                refine lv_aload hx hb dX10_copy_102 (lv_at hl 0 rfl) ?_
                obtain ⟨a36, e37, h⟩ := ob_ h
                refine g_RX10_297 C T e37 dX10_copy_104 ?_
                refine lv_iload hx hb dX10_copy_107 (lv_at hl 6 rfl) ?_
                refine lv_iload hx hb dX10_copy_109 (lv_at hl 7 rfl) ?_
                obtain ⟨μ38, e39, h⟩ := ob_ h
                refine th_copy C T e39 hl.1 w_774 w_275 w_274 w_12 (Nat.le_of_ble_eq_true rfl) (Nat.le_of_ble_eq_true rfl) dX10_copy_111 (fun H locs T => ?_)
                refine lv_iload hx hb dX10_copy_114 (lv_at hl 7 rfl) ?_
                obtain ⟨rfl, rfl⟩ := os2 h
                exact th_iret hQ C hr hk T (Nat.le_of_ble_eq_true rfl) (Nat.le_of_ble_eq_true rfl) dX10_copy_116
              · replace h := ot_ c33 h
                refine lv_bipush (v := -12) hx hb dX10_copy_93 (by decide) ?_
                obtain ⟨rfl, rfl⟩ := os2 h
                exact th_iret hQ C hr hk T (Nat.le_of_ble_eq_true rfl) (Nat.le_of_ble_eq_true rfl) dX10_copy_95
          · replace h := of_ c27 h
            refine lv_bipush (v := -13) hx hb dX10_copy_65 (by decide) ?_
            obtain ⟨rfl, rfl⟩ := os2 h
            exact th_iret hQ C hr hk T (Nat.le_of_ble_eq_true rfl) (Nat.le_of_ble_eq_true rfl) dX10_copy_67
        · replace h := of_ c22 h
          refine lv_bipush (v := -11) hx hb dX10_copy_49 (by decide) ?_
          obtain ⟨rfl, rfl⟩ := os2 h
          exact th_iret hQ C hr hk T (Nat.le_of_ble_eq_true rfl) (Nat.le_of_ble_eq_true rfl) dX10_copy_51
    · replace h := ot_ c6 h
      refine lv_bipush (v := -2) hx hb dX10_copy_14 (by decide) ?_
      obtain ⟨rfl, rfl⟩ := os2 h
      exact th_iret hQ C hr hk T (Nat.le_of_ble_eq_true rfl) (Nat.le_of_ble_eq_true rfl) dX10_copy_16
set_option maxRecDepth 100000 in
set_option maxHeartbeats 4000000 in
theorem c_X10_boats {l : Launch} {G : th_G} {σ : th_S} {μ : th_M} {t : Nat} {x1 : Int32} {x2 : Int32} {x3 : Int32} {x4 : Int32} {r : Int32} {σ' : th_S} {μ' : th_M} (h : f_X10_boats σ μ t x1 x2 x3 x4 = some (r, σ', μ')) : th_Met l G yX10_boats cX10_boats 9 (some FieldType.int) { frames := 6, cells := 24, slots := 112, locals := 191 } [.ref t, .int x1, .int x2, .int x3, .int x4] σ μ (some (.int r)) σ' μ' := by
  refine th_ofW (by decide +kernel) (Nat.le_of_ble_eq_true rfl) ?_
  intro p e s m args below meth c ls Q hQ C hr hk hnm T hl
  have hx := C.1
  have hb := C.2.1
  have C : CallFix p m c cX10_boats 9 s args th_ws RX10 := C
  have hl : lv_has ls 9 [(0, .ref t), (1, .int x1), (2, .int x2), (3, .int x3), (4, .int x4)] := hl
  have J76 : ∀ (n : Nat) (cN sN : Nat), cN + n * 3 ≤ 24 → sN + n * 14 ≤ 112 → ∀ (σ : th_S) (μ : th_M) (t : Nat) (x3 : Int32) (x4 : Int32) (x5 : Nat) (x6 : Int32) (x7 : Int32) (H : Heap) (locs : List Loc) (ls : Array Slot), th_R G s H locs σ μ → lv_has ls 9 [(0, .ref t), (3, .int x3), (4, .int x4), (5, .ref x5), (6, .int x6), (7, .int x7)] → f_X10_boats_b76  n σ μ t x3 x4 x5 x6 x7 = some (r, σ', μ') → W p l e { frames := 6, cells := 24, slots := 112, locals := 191 } s m args below meth c H locs cN sN Q (F0 m 76 ls []) := by
    intro n
    induction n with
    | zero => intro cN sN hcN hsN σ μ t x3 x4 x5 x6 x7 H locs ls T hl h; unfold f_X10_boats_b76 at h; cases h
    | succ n76 ih76 =>
      intro cN sN hcN hsN σ μ t x3 x4 x5 x6 x7 H locs ls T hl h
      unfold f_X10_boats_b76 at h
      refine lv_iload hx hb dX10_boats_76 (lv_at hl 5 rfl) ?_
      refine lv_iload hx hb dX10_boats_78 (lv_at hl 2 rfl) ?_
      refine lv_icmp_ge (tgt := 154) hx hb dX10_boats_80 (by decide) (fun c1 => ?_) (fun c1 => ?_)
      · replace h := ot_ c1 h
        refine lv_iload hx hb dX10_boats_154 (lv_at hl 4 rfl) ?_
        obtain ⟨rfl, rfl, rfl⟩ := os3 h
        exact th_iret hQ C hr hk T (show cN ≤ 24 by omega) (show sN ≤ 112 by omega) dX10_boats_156
      · replace h := of_ c1 h
        refine lv_aload hx hb dX10_boats_83 (lv_at hl 3 rfl) ?_
        refine lv_iload_n hx hb dX10_boats_85 rfl (lv_at hl 1 rfl) ?_
        refine lv_i2l hx hb dX10_boats_86 rfl ?_
        refine lv_ldc2 hx hb C.2.2.2.1 (C.2.2.2.2 _ w_832) dX10_boats_87 ?_
        refine lv_iload hx hb dX10_boats_90 (lv_at hl 5 rfl) ?_
        refine lv_i2l hx hb dX10_boats_92 rfl ?_
        refine lv_lmul hx hb dX10_boats_93 ?_
        refine lv_ladd hx hb dX10_boats_94 ?_
        refine lv_iconst (v := 3) hx hb dX10_boats_95 (by decide) ?_
        obtain ⟨k2, h⟩ := oc_ h
        obtain ⟨v3, e4, h⟩ := ob_ h
        refine th_callV (As := [.long (x3.toInt64 + (3 * x7.toInt64)), .int 3]) (rest := []) C T (c_X6_has e4) k_RX10_287 6 rfl rfl (by decide) k2 rfl hl.1 rfl (st1 := [.int v3]) rfl (cells1 := cN) rfl (slots1 := sN) rfl (Nat.le_of_ble_eq_true rfl) ⟨Nat.le_of_ble_eq_true rfl, Nat.le_of_ble_eq_true rfl⟩ ⟨show cN + 0 ≤ 24 by omega, show sN + 0 ≤ 112 by omega⟩ dX10_boats_96 (fun H locs T => ?_)
        refine lv_if_ne (tgt := 105) hx hb dX10_boats_99 (by decide) (fun c5 => ?_) (fun c5 => ?_)
        · replace h := of_ c5 h
          refine lv_iload_n hx hb dX10_boats_105 rfl (lv_at hl 1 rfl) ?_
          refine lv_iconst (v := 3) hx hb dX10_boats_106 (by decide) ?_
          refine lv_iload hx hb dX10_boats_107 (lv_at hl 5 rfl) ?_
          refine lv_imul hx hb dX10_boats_109 ?_
          refine lv_iadd hx hb dX10_boats_110 ?_
          refine lv_istore (lv' := [(8, .int (x3 + (3 * x7))), (0, .ref t), (3, .int x3), (4, .int x4), (5, .ref x5), (6, .int x6), (7, .int x7)]) hx hb dX10_boats_111 hl (by decide) rfl (fun ls hl => ?_)
          refine lv_aload_n hx hb dX10_boats_113 rfl (lv_at hl 1 rfl) ?_
          refine lv_aload hx hb dX10_boats_114 (lv_at hl 4 rfl) ?_
          refine lv_iload hx hb dX10_boats_116 (lv_at hl 0 rfl) ?_
          obtain ⟨v6, e7, h⟩ := ob_ h
          refine th_callV (As := [.int (x3 + (3 * x7))]) (rest := [.ref t]) C T (c_X6_at e7) k_RX10_234 6 rfl rfl (by decide) k2 rfl hl.1 rfl (st1 := [.int v6, .ref t]) rfl (cells1 := cN) rfl (slots1 := sN) rfl (Nat.le_of_ble_eq_true rfl) ⟨Nat.le_of_ble_eq_true rfl, Nat.le_of_ble_eq_true rfl⟩ ⟨show cN + 0 ≤ 24 by omega, show sN + 0 ≤ 112 by omega⟩ dX10_boats_118 (fun H locs T => ?_)
          refine lv_aload hx hb dX10_boats_121 (lv_at hl 4 rfl) ?_
          refine lv_iload hx hb dX10_boats_123 (lv_at hl 0 rfl) ?_
          refine lv_iconst (v := 1) hx hb dX10_boats_125 (by decide) ?_
          refine lv_iadd hx hb dX10_boats_126 ?_
          obtain ⟨v8, e9, h⟩ := ob_ h
          refine th_callV (As := [.int ((x3 + (3 * x7)) + 1)]) (rest := [.int v6, .ref t]) C T (c_X6_at e9) k_RX10_234 6 rfl rfl (by decide) k2 rfl hl.1 rfl (st1 := [.int v8, .int v6, .ref t]) rfl (cells1 := cN) rfl (slots1 := sN) rfl (Nat.le_of_ble_eq_true rfl) ⟨Nat.le_of_ble_eq_true rfl, Nat.le_of_ble_eq_true rfl⟩ ⟨show cN + 0 ≤ 24 by omega, show sN + 0 ≤ 112 by omega⟩ dX10_boats_127 (fun H locs T => ?_)
          refine lv_aload hx hb dX10_boats_130 (lv_at hl 4 rfl) ?_
          refine lv_iload hx hb dX10_boats_132 (lv_at hl 0 rfl) ?_
          refine lv_iconst (v := 2) hx hb dX10_boats_134 (by decide) ?_
          refine lv_iadd hx hb dX10_boats_135 ?_
          obtain ⟨v10, e11, h⟩ := ob_ h
          refine th_callV (As := [.int ((x3 + (3 * x7)) + 2)]) (rest := [.int v8, .int v6, .ref t]) C T (c_X6_at e11) k_RX10_234 6 rfl rfl (by decide) k2 rfl hl.1 rfl (st1 := [.int v10, .int v8, .int v6, .ref t]) rfl (cells1 := cN) rfl (slots1 := sN) rfl (Nat.le_of_ble_eq_true rfl) ⟨Nat.le_of_ble_eq_true rfl, Nat.le_of_ble_eq_true rfl⟩ ⟨show cN + 0 ≤ 24 by omega, show sN + 0 ≤ 112 by omega⟩ dX10_boats_136 (fun H locs T => ?_)
          obtain ⟨k12, h⟩ := oc_ h
          obtain ⟨v13, σ14, μ15, e16, h⟩ := ob3 h
          refine th_callV (As := [.int v6, .int v8, .int v10]) (rest := []) C T (c_X10_boat e16) k_RX10_302 10 rfl rfl (by decide) k12 rfl hl.1 rfl (st1 := [.int v13]) rfl (cells1 := cN + 3) rfl (slots1 := sN + 14) rfl (Nat.le_of_ble_eq_true rfl) ⟨Nat.le_of_ble_eq_true rfl, Nat.le_of_ble_eq_true rfl⟩ ⟨show cN + 3 ≤ 24 by omega, show sN + 14 ≤ 112 by omega⟩ dX10_boats_139 (fun H locs T => ?_)
          refine lv_if_lt (tgt := 148) hx hb dX10_boats_142 (by decide) (fun c17 => ?_) (fun c17 => ?_)
          · replace h := ot_ c17 h
            refine lv_iinc (v := x7 + 1) (lv' := [(7, .int (x7 + 1)), (8, .int (x3 + (3 * x7))), (0, .ref t), (3, .int x3), (4, .int x4), (5, .ref x5), (6, .int x6)]) hx hb dX10_boats_148 hl (k := 6) rfl rfl (by decide) rfl (fun ls hl => ?_)
            refine lv_goto (tgt := 76) hx hb dX10_boats_151 (by decide) ?_
            exact ih76 (cN + 3) (sN + 14) (by omega) (by omega) _ _ _ _ _ _ _ _ _ _ _ T (lv_sub hl [2, 3, 4, 5, 6, 0] rfl) h
          · replace h := of_ c17 h
            refine lv_iinc (v := x6 + 1) (lv' := [(6, .int (x6 + 1)), (8, .int (x3 + (3 * x7))), (0, .ref t), (3, .int x3), (4, .int x4), (5, .ref x5), (7, .int x7)]) hx hb dX10_boats_145 hl (k := 5) rfl rfl (by decide) rfl (fun ls hl => ?_)
            refine lv_iinc (v := x7 + 1) (lv' := [(7, .int (x7 + 1)), (6, .int (x6 + 1)), (8, .int (x3 + (3 * x7))), (0, .ref t), (3, .int x3), (4, .int x4), (5, .ref x5)]) hx hb dX10_boats_148 hl (k := 6) rfl rfl (by decide) rfl (fun ls hl => ?_)
            refine lv_goto (tgt := 76) hx hb dX10_boats_151 (by decide) ?_
            exact ih76 (cN + 3) (sN + 14) (by omega) (by omega) _ _ _ _ _ _ _ _ _ _ _ T (lv_sub hl [3, 4, 5, 6, 1, 0] rfl) h
        · replace h := ot_ c5 h
          refine lv_bipush (v := -12) hx hb dX10_boats_102 (by decide) ?_
          obtain ⟨rfl, rfl, rfl⟩ := os3 h
          exact th_iret hQ C hr hk T (show cN ≤ 24 by omega) (show sN ≤ 112 by omega) dX10_boats_104
  have J59 : ∀ (cN sN : Nat), cN ≤ 0 → sN ≤ 0 → ∀ (σ : th_S) (μ : th_M) (t : Nat) (x3 : Int32) (x4 : Int32) (x5 : Nat) (H : Heap) (locs : List Loc) (ls : Array Slot), th_R G s H locs σ μ → lv_has ls 9 [(0, .ref t), (3, .int x3), (4, .int x4), (5, .ref x5)] → f_X10_boats_b59 σ μ t x3 x4 x5 = some (r, σ', μ') → W p l e { frames := 6, cells := 24, slots := 112, locals := 191 } s m args below meth c H locs cN sN Q (F0 m 59 ls []) := by
    intro cN sN hcN hsN σ μ t x3 x4 x5 H locs ls T hl h
    unfold f_X10_boats_b59 at h
    refine lv_aload hx hb dX10_boats_59 (lv_at hl 3 rfl) ?_
    obtain ⟨k1, h⟩ := oc_ h
    obtain ⟨v2, e3, h⟩ := ob_ h
    refine th_callV (As := []) (rest := []) C T (c_X6_isMissing e3) k_RX10_229 6 rfl rfl (by decide) k1 rfl hl.1 rfl (st1 := [.int v2]) rfl (cells1 := cN) rfl (slots1 := sN) rfl (Nat.le_of_ble_eq_true rfl) ⟨Nat.le_of_ble_eq_true rfl, Nat.le_of_ble_eq_true rfl⟩ ⟨show cN + 0 ≤ 24 by omega, show sN + 0 ≤ 112 by omega⟩ dX10_boats_61 (fun H locs T => ?_)
    refine lv_if_eq (tgt := 70) hx hb dX10_boats_64 (by decide) (fun c4 => ?_) (fun c4 => ?_)
    · replace h := ot_ c4 h
      refine lv_iconst (v := 0) hx hb dX10_boats_70 (by decide) ?_
      refine lv_istore (lv' := [(6, .int 0), (0, .ref t), (3, .int x3), (4, .int x4), (5, .ref x5)]) hx hb dX10_boats_71 hl (by decide) rfl (fun ls hl => ?_)
      refine lv_iconst (v := 0) hx hb dX10_boats_73 (by decide) ?_
      refine lv_istore (lv' := [(7, .int 0), (6, .int 0), (0, .ref t), (3, .int x3), (4, .int x4), (5, .ref x5)]) hx hb dX10_boats_74 hl (by decide) rfl (fun ls hl => ?_)
      exact J76 8 cN sN (by omega) (by omega) _ _ _ _ _ _ _ _ _ _ _ T (lv_sub hl [2, 3, 4, 5, 1, 0] rfl) h
    · replace h := of_ c4 h
      refine lv_bipush (v := -11) hx hb dX10_boats_67 (by decide) ?_
      obtain ⟨rfl, rfl, rfl⟩ := os3 h
      exact th_iret hQ C hr hk T (show cN ≤ 24 by omega) (show sN ≤ 112 by omega) dX10_boats_69
  unfold f_X10_boats at h
  refine lv_iload_n hx hb dX10_boats_0 rfl (lv_at hl 1 rfl) ?_
  obtain ⟨v1, e2, h⟩ := ob_ h
  refine th_callS (As := [.int x1]) (rest := []) C T (c_X10_isSheet e2) k_RX10_226 rfl hl.1 rfl (st1 := [.int v1]) rfl (cells1 := 0) rfl (slots1 := 0) rfl (Nat.le_of_ble_eq_true rfl) ⟨Nat.le_of_ble_eq_true rfl, Nat.le_of_ble_eq_true rfl⟩ ⟨Nat.le_of_ble_eq_true rfl, Nat.le_of_ble_eq_true rfl⟩ dX10_boats_1 (fun H locs T => ?_)
  refine lv_if_eq (tgt := 28) hx hb dX10_boats_4 (by decide) (fun c3 => ?_) (fun c3 => ?_)
  · replace h := ot_ c3 h
    refine lv_bipush (v := -2) hx hb dX10_boats_28 (by decide) ?_
    obtain ⟨rfl, rfl, rfl⟩ := os3 h
    exact th_iret hQ C hr hk T (Nat.le_of_ble_eq_true rfl) (Nat.le_of_ble_eq_true rfl) dX10_boats_30
  · replace h := of_ c3 h
    refine lv_iload_n hx hb dX10_boats_7 rfl (lv_at hl 2 rfl) ?_
    refine lv_if_lt (tgt := 28) hx hb dX10_boats_8 (by decide) (fun c4 => ?_) (fun c4 => ?_)
    · replace h := ot_ c4 h
      refine lv_bipush (v := -2) hx hb dX10_boats_28 (by decide) ?_
      obtain ⟨rfl, rfl, rfl⟩ := os3 h
      exact th_iret hQ C hr hk T (Nat.le_of_ble_eq_true rfl) (Nat.le_of_ble_eq_true rfl) dX10_boats_30
    · replace h := of_ c4 h
      refine lv_iload_n hx hb dX10_boats_11 rfl (lv_at hl 2 rfl) ?_
      refine lv_iconst (v := 2) hx hb dX10_boats_12 (by decide) ?_
      refine lv_icmp_gt (tgt := 28) hx hb dX10_boats_13 (by decide) (fun c5 => ?_) (fun c5 => ?_)
      · replace h := ot_ c5 h
        refine lv_bipush (v := -2) hx hb dX10_boats_28 (by decide) ?_
        obtain ⟨rfl, rfl, rfl⟩ := os3 h
        exact th_iret hQ C hr hk T (Nat.le_of_ble_eq_true rfl) (Nat.le_of_ble_eq_true rfl) dX10_boats_30
      · replace h := of_ c5 h
        refine lv_iload hx hb dX10_boats_16 (lv_at hl 4 rfl) ?_
        refine lv_if_lt (tgt := 28) hx hb dX10_boats_18 (by decide) (fun c6 => ?_) (fun c6 => ?_)
        · replace h := ot_ c6 h
          refine lv_bipush (v := -2) hx hb dX10_boats_28 (by decide) ?_
          obtain ⟨rfl, rfl, rfl⟩ := os3 h
          exact th_iret hQ C hr hk T (Nat.le_of_ble_eq_true rfl) (Nat.le_of_ble_eq_true rfl) dX10_boats_30
        · replace h := of_ c6 h
          refine lv_iload hx hb dX10_boats_21 (lv_at hl 4 rfl) ?_
          refine lv_bipush (v := 7) hx hb dX10_boats_23 (by decide) ?_
          refine lv_icmp_le (tgt := 31) hx hb dX10_boats_25 (by decide) (fun c7 => ?_) (fun c7 => ?_)
          · replace h := ot_ c7 h
            refine lv_aload_n hx hb dX10_boats_31 rfl (lv_at hl 0 rfl) ?_
            obtain ⟨a8, e9, h⟩ := ob_ h
            refine g_RX10_54 C T e9 dX10_boats_32 ?_
            refine lv_iload_n hx hb dX10_boats_35 rfl (lv_at hl 1 rfl) ?_
            obtain ⟨a10, e11, h⟩ := ob_ h
            refine th_aald C T 15 e11 (by decide) rfl dX10_boats_36 ?_
            refine lv_astore (lv' := [(5, .ref a10), (0, .ref t), (1, .int x1), (2, .int x2), (3, .int x3), (4, .int x4)]) hx hb dX10_boats_37 hl (by decide) rfl (fun ls hl => ?_)
            refine lv_aload hx hb dX10_boats_39 (lv_at hl 0 rfl) ?_
            obtain ⟨k12, h⟩ := oc_ h
            obtain ⟨v13, e14, h⟩ := ob_ h
            refine th_callV (As := []) (rest := []) C T (c_X6_isMissing e14) k_RX10_229 6 rfl rfl (by decide) k12 rfl hl.1 rfl (st1 := [.int v13]) rfl (cells1 := 0) rfl (slots1 := 0) rfl (Nat.le_of_ble_eq_true rfl) ⟨Nat.le_of_ble_eq_true rfl, Nat.le_of_ble_eq_true rfl⟩ ⟨Nat.le_of_ble_eq_true rfl, Nat.le_of_ble_eq_true rfl⟩ dX10_boats_41 (fun H locs T => ?_)
            refine lv_if_ne (tgt := 59) hx hb dX10_boats_44 (by decide) (fun c15 => ?_) (fun c15 => ?_)
            · replace h := of_ c15 h
              exact J59 0 0 (by omega) (by omega) _ _ _ _ _ _ _ _ _ T (lv_sub hl [1, 4, 5, 0] rfl) h
            · replace h := ot_ c15 h
              refine lv_aload hx hb dX10_boats_47 (lv_at hl 0 rfl) ?_
              obtain ⟨v16, e17, h⟩ := ob_ h
              refine g_RX10_294 C T e17 dX10_boats_49 ?_
              refine lv_iload_n hx hb dX10_boats_52 rfl (lv_at hl 3 rfl) ?_
              refine lv_icmp_eq (tgt := 59) hx hb dX10_boats_53 (by decide) (fun c18 => ?_) (fun c18 => ?_)
              · replace h := ot_ c18 h
                exact J59 0 0 (by omega) (by omega) _ _ _ _ _ _ _ _ _ T (lv_sub hl [1, 4, 5, 0] rfl) h
              · replace h := of_ c18 h
                refine lv_bipush (v := -13) hx hb dX10_boats_56 (by decide) ?_
                obtain ⟨rfl, rfl, rfl⟩ := os3 h
                exact th_iret hQ C hr hk T (Nat.le_of_ble_eq_true rfl) (Nat.le_of_ble_eq_true rfl) dX10_boats_58
          · replace h := of_ c7 h
            refine lv_bipush (v := -2) hx hb dX10_boats_28 (by decide) ?_
            obtain ⟨rfl, rfl, rfl⟩ := os3 h
            exact th_iret hQ C hr hk T (Nat.le_of_ble_eq_true rfl) (Nat.le_of_ble_eq_true rfl) dX10_boats_30
set_option maxRecDepth 100000 in
set_option maxHeartbeats 4000000 in
theorem c_X10_isOf {l : Launch} {G : th_G} {σ : th_S} {μ : th_M} {x0 : Nat} {x1 : Int32} {r : Int32} (h : f_X10_isOf σ μ x0 x1 = some r) : th_Met l G yX10_isOf cX10_isOf 2 (some FieldType.boolean) { frames := 0, cells := 0, slots := 0, locals := 0 } [.ref x0, .int x1] σ μ (some (.int r)) σ μ := by
  refine th_ofW (by decide +kernel) (Nat.le_of_ble_eq_true rfl) ?_
  intro p e s m args below meth c ls Q hQ C hr hk hnm T hl
  have hx := C.1
  have hb := C.2.1
  have C : CallFix p m c cX10_isOf 2 s args th_ws RX10 := C
  have hl : lv_has ls 2 [(0, .ref x0), (1, .int x1)] := hl
  unfold f_X10_isOf at h
  refine lv_iload_n hx hb dX10_isOf_0 rfl (lv_at hl 1 rfl) ?_
  by_cases c1 : x1 = 1
  · replace h := ot_ c1 h
    refine th_tabIn (off := 35) (tgt := 36) C 1 c1 dX10_isOf_1 (by decide) (by decide) (by decide) (by decide) ?_
    refine lv_aload_n hx hb dX10_isOf_36 rfl (lv_at hl 0 rfl) ?_
    obtain ⟨v2, e3, h⟩ := ob_ h
    refine th_inst C T e3 w_349 is_7_ok dX10_isOf_37 ?_
    obtain ⟨g4, h⟩ := ogg h
    obtain rfl := os1 h
    exact th_zret hQ C hr hk T (Nat.le_of_ble_eq_true rfl) (Nat.le_of_ble_eq_true rfl) dX10_isOf_40 (by show Value.int _ = _; rw [g4])
  replace h := of_ c1 h
  by_cases c5 : x1 = 2
  · replace h := ot_ c5 h
    refine th_tabIn (off := 40) (tgt := 41) C 2 c5 dX10_isOf_1 (by decide) (by decide) (by decide) (by decide) ?_
    refine lv_aload_n hx hb dX10_isOf_41 rfl (lv_at hl 0 rfl) ?_
    obtain ⟨v6, e7, h⟩ := ob_ h
    refine th_inst C T e7 w_372 is_4_ok dX10_isOf_42 ?_
    obtain ⟨g8, h⟩ := ogg h
    obtain rfl := os1 h
    exact th_zret hQ C hr hk T (Nat.le_of_ble_eq_true rfl) (Nat.le_of_ble_eq_true rfl) dX10_isOf_45 (by show Value.int _ = _; rw [g8])
  replace h := of_ c5 h
  by_cases c9 : x1 = 3
  · replace h := ot_ c9 h
    refine th_tabIn (off := 45) (tgt := 46) C 3 c9 dX10_isOf_1 (by decide) (by decide) (by decide) (by decide) ?_
    refine lv_aload_n hx hb dX10_isOf_46 rfl (lv_at hl 0 rfl) ?_
    obtain ⟨v10, e11, h⟩ := ob_ h
    refine th_inst C T e11 w_381 is_2_ok dX10_isOf_47 ?_
    obtain ⟨g12, h⟩ := ogg h
    obtain rfl := os1 h
    exact th_zret hQ C hr hk T (Nat.le_of_ble_eq_true rfl) (Nat.le_of_ble_eq_true rfl) dX10_isOf_50 (by show Value.int _ = _; rw [g12])
  replace h := of_ c9 h
  by_cases c13 : x1 = 4
  · replace h := ot_ c13 h
    refine th_tabIn (off := 50) (tgt := 51) C 4 c13 dX10_isOf_1 (by decide) (by decide) (by decide) (by decide) ?_
    refine lv_aload_n hx hb dX10_isOf_51 rfl (lv_at hl 0 rfl) ?_
    obtain ⟨v14, e15, h⟩ := ob_ h
    refine th_inst C T e15 w_390 is_1_ok dX10_isOf_52 ?_
    obtain ⟨g16, h⟩ := ogg h
    obtain rfl := os1 h
    exact th_zret hQ C hr hk T (Nat.le_of_ble_eq_true rfl) (Nat.le_of_ble_eq_true rfl) dX10_isOf_55 (by show Value.int _ = _; rw [g16])
  replace h := of_ c13 h
  by_cases c17 : x1 = 5
  · replace h := ot_ c17 h
    refine th_tabIn (off := 55) (tgt := 56) C 5 c17 dX10_isOf_1 (by decide) (by decide) (by decide) (by decide) ?_
    refine lv_aload_n hx hb dX10_isOf_56 rfl (lv_at hl 0 rfl) ?_
    obtain ⟨v18, e19, h⟩ := ob_ h
    refine th_inst C T e19 w_399 is_3_ok dX10_isOf_57 ?_
    obtain ⟨g20, h⟩ := ogg h
    obtain rfl := os1 h
    exact th_zret hQ C hr hk T (Nat.le_of_ble_eq_true rfl) (Nat.le_of_ble_eq_true rfl) dX10_isOf_60 (by show Value.int _ = _; rw [g20])
  replace h := of_ c17 h
  have n21 := th_ne (n := 1) c1 (by decide)
  have n22 := th_ne (n := 2) c5 (by decide)
  have n23 := th_ne (n := 3) c9 (by decide)
  have n24 := th_ne (n := 4) c13 (by decide)
  have n25 := th_ne (n := 5) c17 (by decide)
  refine lv_tableOut (tgt := 61) hx hb dX10_isOf_1 (by omega) (by decide) ?_
  refine lv_iconst (v := 1) hx hb dX10_isOf_61 (by decide) ?_
  obtain rfl := os1 h
  exact th_zret hQ C hr hk T (Nat.le_of_ble_eq_true rfl) (Nat.le_of_ble_eq_true rfl) dX10_isOf_62 rfl
