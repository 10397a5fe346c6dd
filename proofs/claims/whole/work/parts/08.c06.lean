set_option maxRecDepth 100000 in
set_option maxHeartbeats 4000000 in
theorem c_X10_one {l : Launch} {G : th_G} {σ : th_S} {μ : th_M} {t : Nat} {x1 : Int32} {r : Int32} {μ' : th_M} (h : f_X10_one σ μ t x1 = some (r, μ')) : th_Met l G yX10_one cX10_one 6 (some FieldType.int) { frames := 5, cells := 0, slots := 0, locals := 179 } [.ref t, .int x1] σ μ (some (.int r)) σ μ' := by
  refine th_ofW (by decide +kernel) (Nat.le_of_ble_eq_true rfl) ?_
  intro p e s m args below meth c ls Q hQ C hr hk hnm T hl
  have hx := C.1
  have hb := C.2.1
  have C : CallFix p m c cX10_one 6 s args th_ws RX10 := C
  have hl : lv_has ls 6 [(0, .ref t), (1, .int x1)] := hl
  have J23 : ∀ (n : Nat) (μ : th_M) (t : Nat) (x1 : Int32) (x2 : Int32) (x3 : Int32) (x4 : Int32) (H : Heap) (locs : List Loc) (ls : Array Slot), th_R G s H locs σ μ → lv_has ls 6 [(0, .ref t), (1, .int x1), (2, .int x2), (3, .int x3), (4, .int x4)] → f_X10_one_b23  n σ μ t x1 x2 x3 x4 = some (r, μ') → W p l e { frames := 5, cells := 0, slots := 0, locals := 179 } s m args below meth c H locs 0 0 Q (F0 m 23 ls []) := by
    intro n
    induction n with
    | zero => intro μ t x1 x2 x3 x4 H locs ls T hl h; unfold f_X10_one_b23 at h; cases h
    | succ n23 ih23 =>
      intro μ t x1 x2 x3 x4 H locs ls T hl h
      unfold f_X10_one_b23 at h
      have J56 : ∀ (μ : th_M) (t : Nat) (x1 : Int32) (x2 : Int32) (x3 : Int32) (x4 : Int32) (y0 : Int32) (H : Heap) (locs : List Loc) (ls : Array Slot), th_R G s H locs σ μ → lv_has ls 6 [(0, .ref t), (1, .int x1), (2, .int x2), (3, .int x3), (4, .int x4)] → f_X10_one_b56 (f_X10_one_b23 n23) σ μ t x1 x2 x3 x4 y0 = some (r, μ') → W p l e { frames := 5, cells := 0, slots := 0, locals := 179 } s m args below meth c H locs 0 0 Q (F0 m 56 ls [.int y0]) := by
        intro μ t x1 x2 x3 x4 y0 H locs ls T hl h
        unfold f_X10_one_b56 at h
        refine lv_istore (lv' := [(5, .int y0), (0, .ref t), (1, .int x1), (2, .int x2), (3, .int x3), (4, .int x4)]) hx hb dX10_one_56 hl (by decide) rfl (fun ls hl => ?_)
        refine lv_iload hx hb dX10_one_58 (lv_at hl 0 rfl) ?_
        refine lv_iconst (v := -1) hx hb dX10_one_60 (by decide) ?_
        refine lv_icmp_eq (tgt := 81) hx hb dX10_one_61 (by decide) (fun c1 => ?_) (fun c1 => ?_)
        · replace h := ot_ c1 h
          refine lv_iinc (v := x4 + 1) (lv' := [(4, .int (x4 + 1)), (5, .int y0), (0, .ref t), (1, .int x1), (2, .int x2), (3, .int x3)]) hx hb dX10_one_81 hl (k := 5) rfl rfl (by decide) rfl (fun ls hl => ?_)
          refine lv_goto (tgt := 23) hx hb dX10_one_84 (by decide) ?_
          exact ih23 _ _ _ _ _ _ _ _ _ T (lv_sub hl [2, 3, 4, 5, 0] rfl) h
        · replace h := of_ c1 h
          refine lv_iload_n hx hb dX10_one_64 rfl (lv_at hl 3 rfl) ?_
          refine lv_iconst (v := -1) hx hb dX10_one_65 (by decide) ?_
          refine lv_icmp_eq (tgt := 75) hx hb dX10_one_66 (by decide) (fun c2 => ?_) (fun c2 => ?_)
          · replace h := ot_ c2 h
            refine lv_iload hx hb dX10_one_75 (lv_at hl 5 rfl) ?_
            refine lv_istore_n (lv' := [(2, .int x4), (5, .int y0), (0, .ref t), (1, .int x1), (3, .int x3), (4, .int x4)]) hx hb dX10_one_77 rfl hl (by decide) rfl (fun ls hl => ?_)
            refine lv_iload hx hb dX10_one_78 (lv_at hl 1 rfl) ?_
            refine lv_istore_n (lv' := [(3, .int y0), (2, .int x4), (5, .int y0), (0, .ref t), (1, .int x1), (4, .int x4)]) hx hb dX10_one_80 rfl hl (by decide) rfl (fun ls hl => ?_)
            refine lv_iinc (v := x4 + 1) (lv' := [(4, .int (x4 + 1)), (3, .int y0), (2, .int x4), (5, .int y0), (0, .ref t), (1, .int x1)]) hx hb dX10_one_81 hl (k := 5) rfl rfl (by decide) rfl (fun ls hl => ?_)
            refine lv_goto (tgt := 23) hx hb dX10_one_84 (by decide) ?_
            exact ih23 _ _ _ _ _ _ _ _ _ T (lv_sub hl [4, 5, 2, 1, 0] rfl) h
          · replace h := of_ c2 h
            refine lv_iload hx hb dX10_one_69 (lv_at hl 0 rfl) ?_
            refine lv_iload_n hx hb dX10_one_71 rfl (lv_at hl 4 rfl) ?_
            refine lv_icmp_ge (tgt := 81) hx hb dX10_one_72 (by decide) (fun c3 => ?_) (fun c3 => ?_)
            · replace h := ot_ c3 h
              refine lv_iinc (v := x4 + 1) (lv' := [(4, .int (x4 + 1)), (5, .int y0), (0, .ref t), (1, .int x1), (2, .int x2), (3, .int x3)]) hx hb dX10_one_81 hl (k := 5) rfl rfl (by decide) rfl (fun ls hl => ?_)
              refine lv_goto (tgt := 23) hx hb dX10_one_84 (by decide) ?_
              exact ih23 _ _ _ _ _ _ _ _ _ T (lv_sub hl [2, 3, 4, 5, 0] rfl) h
            · replace h := of_ c3 h
              refine lv_iload hx hb dX10_one_75 (lv_at hl 5 rfl) ?_
              refine lv_istore_n (lv' := [(2, .int x4), (5, .int y0), (0, .ref t), (1, .int x1), (3, .int x3), (4, .int x4)]) hx hb dX10_one_77 rfl hl (by decide) rfl (fun ls hl => ?_)
              refine lv_iload hx hb dX10_one_78 (lv_at hl 1 rfl) ?_
              refine lv_istore_n (lv' := [(3, .int y0), (2, .int x4), (5, .int y0), (0, .ref t), (1, .int x1), (4, .int x4)]) hx hb dX10_one_80 rfl hl (by decide) rfl (fun ls hl => ?_)
              refine lv_iinc (v := x4 + 1) (lv' := [(4, .int (x4 + 1)), (3, .int y0), (2, .int x4), (5, .int y0), (0, .ref t), (1, .int x1)]) hx hb dX10_one_81 hl (k := 5) rfl rfl (by decide) rfl (fun ls hl => ?_)
              refine lv_goto (tgt := 23) hx hb dX10_one_84 (by decide) ?_
              exact ih23 _ _ _ _ _ _ _ _ _ T (lv_sub hl [4, 5, 2, 1, 0] rfl) h
      refine lv_iload hx hb dX10_one_23 (lv_at hl 4 rfl) ?_
      refine lv_aload_n hx hb dX10_one_25 rfl (lv_at hl 0 rfl) ?_
      obtain ⟨v1, e2, h⟩ := ob_ h
      refine g_RX10_92 C T e2 dX10_one_26 ?_
      refine lv_icmp_ge (tgt := 87) hx hb dX10_one_29 (by decide) (fun c3 => ?_) (fun c3 => ?_)
      · replace h := ot_ c3 h
        refine lv_iload_n hx hb dX10_one_87 rfl (lv_at hl 1 rfl) ?_
        refine lv_if_ne (tgt := 95) hx hb dX10_one_88 (by decide) (fun c4 => ?_) (fun c4 => ?_)
        · replace h := of_ c4 h
          refine lv_iload_n hx hb dX10_one_95 rfl (lv_at hl 3 rfl) ?_
          obtain ⟨rfl, rfl⟩ := os2 h
          exact th_iret hQ C hr hk T (Nat.le_of_ble_eq_true rfl) (Nat.le_of_ble_eq_true rfl) dX10_one_96
        · replace h := ot_ c4 h
          refine lv_iload_n hx hb dX10_one_91 rfl (lv_at hl 2 rfl) ?_
          refine lv_goto (tgt := 96) hx hb dX10_one_92 (by decide) ?_
          obtain ⟨rfl, rfl⟩ := os2 h
          exact th_iret hQ C hr hk T (Nat.le_of_ble_eq_true rfl) (Nat.le_of_ble_eq_true rfl) dX10_one_96
      · replace h := of_ c3 h
        refine lv_aload_n hx hb dX10_one_32 rfl (lv_at hl 0 rfl) ?_
        refine lv_iload hx hb dX10_one_33 (lv_at hl 4 rfl) ?_
        obtain ⟨k5, h⟩ := oc_ h
        obtain ⟨v6, e7, h⟩ := ob_ h
        refine th_callV (As := [.int x4]) (rest := []) C T (c_X10_isOnTheLake e7) k_RX10_163 10 rfl rfl (by decide) k5 rfl hl.1 rfl (st1 := [.int v6]) rfl (cells1 := 0) rfl (slots1 := 0) rfl (Nat.le_of_ble_eq_true rfl) ⟨Nat.le_of_ble_eq_true rfl, Nat.le_of_ble_eq_true rfl⟩ ⟨Nat.le_of_ble_eq_true rfl, Nat.le_of_ble_eq_true rfl⟩ dX10_one_35 (fun H locs T => ?_)
        refine lv_if_eq (tgt := 55) hx hb dX10_one_38 (by decide) (fun c8 => ?_) (fun c8 => ?_)
        · replace h := ot_ c8 h
          refine lv_iconst (v := -1) hx hb dX10_one_55 (by decide) ?_
          exact J56 _ _ _ _ _ _ _ _ _ _ T (lv_sub hl [0, 1, 2, 3, 4] rfl) h
        · replace h := of_ c8 h
          refine lv_aload_n hx hb dX10_one_41 rfl (lv_at hl 0 rfl) ?_
          obtain ⟨a9, e10, h⟩ := ob_ h
          refine g_RX10_45 C T e10 dX10_one_42 ?_
          refine lv_iconst (v := 1) hx hb dX10_one_45 (by decide) ?_
          refine lv_iload hx hb dX10_one_46 (lv_at hl 4 rfl) ?_
          refine th_ishl C dX10_one_48 ?_
          obtain ⟨k11, h⟩ := oc_ h
          obtain ⟨v12, μ13, e14, h⟩ := ob2 h
          refine th_callV (As := [.int (jshl 1 x4)]) (rest := []) C T (c_X9_minutes e14) k_RX10_208 9 rfl rfl (by decide) k11 rfl hl.1 rfl (st1 := [.int v12]) rfl (cells1 := 0) rfl (slots1 := 0) rfl (Nat.le_of_ble_eq_true rfl) ⟨Nat.le_of_ble_eq_true rfl, Nat.le_of_ble_eq_true rfl⟩ ⟨Nat.le_of_ble_eq_true rfl, Nat.le_of_ble_eq_true rfl⟩ dX10_one_49 (fun H locs T => ?_)
          refine lv_goto (tgt := 56) hx hb dX10_one_52 (by decide) ?_
          exact J56 _ _ _ _ _ _ _ _ _ _ T (lv_sub hl [0, 1, 2, 3, 4] rfl) h
  unfold f_X10_one at h
  refine lv_iload_n hx hb dX10_one_0 rfl (lv_at hl 1 rfl) ?_
  refine lv_if_lt (tgt := 9) hx hb dX10_one_1 (by decide) (fun c1 => ?_) (fun c1 => ?_)
  · replace h := ot_ c1 h
    refine lv_bipush (v := -2) hx hb dX10_one_9 (by decide) ?_
    obtain ⟨rfl, rfl⟩ := os2 h
    exact th_iret hQ C hr hk T (Nat.le_of_ble_eq_true rfl) (Nat.le_of_ble_eq_true rfl) dX10_one_11
  · replace h := of_ c1 h
    refine lv_iload_n hx hb dX10_one_4 rfl (lv_at hl 1 rfl) ?_
    refine lv_iconst (v := 1) hx hb dX10_one_5 (by decide) ?_
    refine lv_icmp_le (tgt := 12) hx hb dX10_one_6 (by decide) (fun c2 => ?_) (fun c2 => ?_)
    · replace h := ot_ c2 h
      refine lv_aload_n hx hb dX10_one_12 rfl (lv_at hl 0 rfl) ?_
      obtain ⟨k3, h⟩ := oc_ h
      obtain ⟨μ4, e5, h⟩ := ob_ h
      refine th_callV (As := []) (rest := []) C T (c_X10_readyTug e5) k_RX10_205 10 rfl rfl (by decide) k3 rfl hl.1 rfl (st1 := []) rfl (cells1 := 0) rfl (slots1 := 0) rfl (Nat.le_of_ble_eq_true rfl) ⟨Nat.le_of_ble_eq_true rfl, Nat.le_of_ble_eq_true rfl⟩ ⟨Nat.le_of_ble_eq_true rfl, Nat.le_of_ble_eq_true rfl⟩ dX10_one_13 (fun H locs T => ?_)
      refine lv_iconst (v := -1) hx hb dX10_one_16 (by decide) ?_
      refine lv_istore_n (lv' := [(2, .int (-1)), (0, .ref t), (1, .int x1)]) hx hb dX10_one_17 rfl hl (by decide) rfl (fun ls hl => ?_)
      refine lv_iconst (v := 0) hx hb dX10_one_18 (by decide) ?_
      refine lv_istore_n (lv' := [(3, .int 0), (2, .int (-1)), (0, .ref t), (1, .int x1)]) hx hb dX10_one_19 rfl hl (by decide) rfl (fun ls hl => ?_)
      refine lv_iconst (v := 0) hx hb dX10_one_20 (by decide) ?_
      refine lv_istore (lv' := [(4, .int 0), (3, .int 0), (2, .int (-1)), (0, .ref t), (1, .int x1)]) hx hb dX10_one_21 hl (by decide) rfl (fun ls hl => ?_)
      exact J23 fu _ _ _ _ _ _ _ _ _ T (lv_sub hl [3, 4, 2, 1, 0] rfl) h
    · replace h := of_ c2 h
      refine lv_bipush (v := -2) hx hb dX10_one_9 (by decide) ?_
      obtain ⟨rfl, rfl⟩ := os2 h
      exact th_iret hQ C hr hk T (Nat.le_of_ble_eq_true rfl) (Nat.le_of_ble_eq_true rfl) dX10_one_11
set_option maxRecDepth 100000 in
set_option maxHeartbeats 4000000 in
theorem c_X10_inBy {l : Launch} {G : th_G} {σ : th_S} {μ : th_M} {t : Nat} {x1 : Int32} {r : Int32} {μ' : th_M} (h : f_X10_inBy σ μ t x1 = some (r, μ')) : th_Met l G yX10_inBy cX10_inBy 5 (some FieldType.int) { frames := 7, cells := 0, slots := 0, locals := 191 } [.ref t, .int x1] σ μ (some (.int r)) σ μ' := by
  refine th_ofW (by decide +kernel) (Nat.le_of_ble_eq_true rfl) ?_
  intro p e s m args below meth c ls Q hQ C hr hk hnm T hl
  have hx := C.1
  have hb := C.2.1
  have C : CallFix p m c cX10_inBy 5 s args th_ws RX10 := C
  have hl : lv_has ls 5 [(0, .ref t), (1, .int x1)] := hl
  have J8 : ∀ (n : Nat) (μ : th_M) (t : Nat) (x1 : Int32) (x2 : Int32) (x3 : Int32) (H : Heap) (locs : List Loc) (ls : Array Slot), th_R G s H locs σ μ → lv_has ls 5 [(0, .ref t), (1, .int x1), (2, .int x2), (3, .int x3)] → f_X10_inBy_b8  n σ μ t x1 x2 x3 = some (r, μ') → W p l e { frames := 7, cells := 0, slots := 0, locals := 191 } s m args below meth c H locs 0 0 Q (F0 m 8 ls []) := by
    intro n
    induction n with
    | zero => intro μ t x1 x2 x3 H locs ls T hl h; unfold f_X10_inBy_b8 at h; cases h
    | succ n8 ih8 =>
      intro μ t x1 x2 x3 H locs ls T hl h
      unfold f_X10_inBy_b8 at h
      refine lv_iload_n hx hb dX10_inBy_8 rfl (lv_at hl 3 rfl) ?_
      refine lv_aload_n hx hb dX10_inBy_9 rfl (lv_at hl 0 rfl) ?_
      obtain ⟨v1, e2, h⟩ := ob_ h
      refine g_RX10_92 C T e2 dX10_inBy_10 ?_
      refine lv_icmp_ge (tgt := 47) hx hb dX10_inBy_13 (by decide) (fun c3 => ?_) (fun c3 => ?_)
      · replace h := ot_ c3 h
        refine lv_iload_n hx hb dX10_inBy_47 rfl (lv_at hl 2 rfl) ?_
        obtain ⟨rfl, rfl⟩ := os2 h
        exact th_iret hQ C hr hk T (Nat.le_of_ble_eq_true rfl) (Nat.le_of_ble_eq_true rfl) dX10_inBy_48
      · replace h := of_ c3 h
        refine lv_aload_n hx hb dX10_inBy_16 rfl (lv_at hl 0 rfl) ?_
        refine lv_iload_n hx hb dX10_inBy_17 rfl (lv_at hl 3 rfl) ?_
        obtain ⟨k4, h⟩ := oc_ h
        obtain ⟨v5, μ6, e7, h⟩ := ob2 h
        refine th_callV (As := [.int x3]) (rest := []) C T (c_X10_comingAt e7) k_RX10_176 10 rfl rfl (by decide) k4 rfl hl.1 rfl (st1 := [.int v5]) rfl (cells1 := 0) rfl (slots1 := 0) rfl (Nat.le_of_ble_eq_true rfl) ⟨Nat.le_of_ble_eq_true rfl, Nat.le_of_ble_eq_true rfl⟩ ⟨Nat.le_of_ble_eq_true rfl, Nat.le_of_ble_eq_true rfl⟩ dX10_inBy_18 (fun H locs T => ?_)
        refine lv_istore (lv' := [(4, .int v5), (0, .ref t), (1, .int x1), (2, .int x2), (3, .int x3)]) hx hb dX10_inBy_21 hl (by decide) rfl (fun ls hl => ?_)
        refine lv_iload hx hb dX10_inBy_23 (lv_at hl 0 rfl) ?_
        refine lv_iconst (v := -1) hx hb dX10_inBy_25 (by decide) ?_
        refine lv_icmp_eq (tgt := 41) hx hb dX10_inBy_26 (by decide) (fun c8 => ?_) (fun c8 => ?_)
        · replace h := ot_ c8 h
          refine lv_iinc (v := x3 + 1) (lv' := [(3, .int (x3 + 1)), (4, .int v5), (0, .ref t), (1, .int x1), (2, .int x2)]) hx hb dX10_inBy_41 hl (k := 4) rfl rfl (by decide) rfl (fun ls hl => ?_)
          refine lv_goto (tgt := 8) hx hb dX10_inBy_44 (by decide) ?_
          exact ih8 _ _ _ _ _ _ _ _ T (lv_sub hl [2, 3, 4, 0] rfl) h
        · replace h := of_ c8 h
          refine lv_iload hx hb dX10_inBy_29 (lv_at hl 0 rfl) ?_
          refine lv_iload_n hx hb dX10_inBy_31 rfl (lv_at hl 2 rfl) ?_
          refine lv_icmp_gt (tgt := 41) hx hb dX10_inBy_32 (by decide) (fun c9 => ?_) (fun c9 => ?_)
          · replace h := ot_ c9 h
            refine lv_iinc (v := x3 + 1) (lv' := [(3, .int (x3 + 1)), (4, .int v5), (0, .ref t), (1, .int x1), (2, .int x2)]) hx hb dX10_inBy_41 hl (k := 4) rfl rfl (by decide) rfl (fun ls hl => ?_)
            refine lv_goto (tgt := 8) hx hb dX10_inBy_44 (by decide) ?_
            exact ih8 _ _ _ _ _ _ _ _ T (lv_sub hl [2, 3, 4, 0] rfl) h
          · replace h := of_ c9 h
            refine lv_iload_n hx hb dX10_inBy_35 rfl (lv_at hl 3 rfl) ?_
            refine lv_iconst (v := 1) hx hb dX10_inBy_36 (by decide) ?_
            refine lv_iload_n hx hb dX10_inBy_37 rfl (lv_at hl 4 rfl) ?_
            refine th_ishl C dX10_inBy_38 ?_
            refine lv_ior hx hb dX10_inBy_39 ?_
            refine lv_istore_n (lv' := [(2, .int (x2 ||| (jshl 1 x3))), (4, .int v5), (0, .ref t), (1, .int x1), (3, .int x3)]) hx hb dX10_inBy_40 rfl hl (by decide) rfl (fun ls hl => ?_)
            refine lv_iinc (v := x3 + 1) (lv' := [(3, .int (x3 + 1)), (2, .int (x2 ||| (jshl 1 x3))), (4, .int v5), (0, .ref t), (1, .int x1)]) hx hb dX10_inBy_41 hl (k := 4) rfl rfl (by decide) rfl (fun ls hl => ?_)
            refine lv_goto (tgt := 8) hx hb dX10_inBy_44 (by decide) ?_
            exact ih8 _ _ _ _ _ _ _ _ T (lv_sub hl [3, 4, 1, 0] rfl) h
  unfold f_X10_inBy at h
  refine lv_aload_n hx hb dX10_inBy_0 rfl (lv_at hl 0 rfl) ?_
  refine lv_iconst (v := 2) hx hb dX10_inBy_1 (by decide) ?_
  obtain ⟨k1, h⟩ := oc_ h
  obtain ⟨v2, e3, h⟩ := ob_ h
  refine th_callV (As := [.int 2]) (rest := []) C T (c_X10_those e3) k_RX10_245 10 rfl rfl (by decide) k1 rfl hl.1 rfl (st1 := [.int v2]) rfl (cells1 := 0) rfl (slots1 := 0) rfl (Nat.le_of_ble_eq_true rfl) ⟨Nat.le_of_ble_eq_true rfl, Nat.le_of_ble_eq_true rfl⟩ ⟨Nat.le_of_ble_eq_true rfl, Nat.le_of_ble_eq_true rfl⟩ dX10_inBy_2 (fun H locs T => ?_)
  refine lv_istore_n (lv' := [(2, .int v2), (0, .ref t), (1, .int x1)]) hx hb dX10_inBy_5 rfl hl (by decide) rfl (fun ls hl => ?_)
  refine lv_iconst (v := 0) hx hb dX10_inBy_6 (by decide) ?_
  refine lv_istore_n (lv' := [(3, .int 0), (2, .int v2), (0, .ref t), (1, .int x1)]) hx hb dX10_inBy_7 rfl hl (by decide) rfl (fun ls hl => ?_)
  exact J8 fu _ _ _ _ _ _ _ _ T (lv_sub hl [2, 3, 1, 0] rfl) h
set_option maxRecDepth 100000 in
set_option maxHeartbeats 4000000 in
theorem c_X10_mostFetched {l : Launch} {G : th_G} {σ : th_S} {μ : th_M} {t : Nat} {x1 : Int32} {x2 : Int32} {r : Int32} {μ' : th_M} (h : f_X10_mostFetched σ μ t x1 x2 = some (r, μ')) : th_Met l G yX10_mostFetched cX10_mostFetched 6 (some FieldType.int) { frames := 5, cells := 0, slots := 0, locals := 179 } [.ref t, .int x1, .int x2] σ μ (some (.int r)) σ μ' := by
  refine th_ofW (by decide +kernel) (Nat.le_of_ble_eq_true rfl) ?_
  intro p e s m args below meth c ls Q hQ C hr hk hnm T hl
  have hx := C.1
  have hb := C.2.1
  have C : CallFix p m c cX10_mostFetched 6 s args th_ws RX10 := C
  have hl : lv_has ls 6 [(0, .ref t), (1, .int x1), (2, .int x2)] := hl
  have J9 : ∀ (n : Nat) (μ : th_M) (t : Nat) (x1 : Int32) (x2 : Int32) (x3 : Int32) (x4 : Int32) (H : Heap) (locs : List Loc) (ls : Array Slot), th_R G s H locs σ μ → lv_has ls 6 [(0, .ref t), (1, .int x1), (2, .int x2), (3, .int x3), (4, .int x4)] → f_X10_mostFetched_b9  n σ μ t x1 x2 x3 x4 = some (r, μ') → W p l e { frames := 5, cells := 0, slots := 0, locals := 179 } s m args below meth c H locs 0 0 Q (F0 m 9 ls []) := by
    intro n
    induction n with
    | zero => intro μ t x1 x2 x3 x4 H locs ls T hl h; unfold f_X10_mostFetched_b9 at h; cases h
    | succ n9 ih9 =>
      intro μ t x1 x2 x3 x4 H locs ls T hl h
      unfold f_X10_mostFetched_b9 at h
      refine lv_iload hx hb dX10_mostFetched_9 (lv_at hl 4 rfl) ?_
      refine lv_if_le (tgt := 58) hx hb dX10_mostFetched_11 (by decide) (fun c1 => ?_) (fun c1 => ?_)
      · replace h := ot_ c1 h
        refine lv_iload_n hx hb dX10_mostFetched_58 rfl (lv_at hl 3 rfl) ?_
        obtain ⟨rfl, rfl⟩ := os2 h
        exact th_iret hQ C hr hk T (Nat.le_of_ble_eq_true rfl) (Nat.le_of_ble_eq_true rfl) dX10_mostFetched_59
      · replace h := of_ c1 h
        refine lv_iload hx hb dX10_mostFetched_14 (lv_at hl 4 rfl) ?_
        obtain ⟨v2, e3, h⟩ := ob_ h
        refine th_callS (As := [.int x4]) (rest := []) C T (c_J6_bitCount_0f7a4 e3) k_RX10_248 rfl hl.1 rfl (st1 := [.int v2]) rfl (cells1 := 0) rfl (slots1 := 0) rfl (Nat.le_of_ble_eq_true rfl) ⟨Nat.le_of_ble_eq_true rfl, Nat.le_of_ble_eq_true rfl⟩ ⟨Nat.le_of_ble_eq_true rfl, Nat.le_of_ble_eq_true rfl⟩ dX10_mostFetched_16 (fun H locs T => ?_)
        refine lv_istore (lv' := [(5, .int v2), (0, .ref t), (1, .int x1), (2, .int x2), (3, .int x3), (4, .int x4)]) hx hb dX10_mostFetched_19 hl (by decide) rfl (fun ls hl => ?_)
        refine lv_iload hx hb dX10_mostFetched_21 (lv_at hl 5 rfl) ?_
        refine lv_iload_n hx hb dX10_mostFetched_23 rfl (lv_at hl 2 rfl) ?_
        refine lv_iconst (v := -1) hx hb dX10_mostFetched_24 (by decide) ?_
        refine lv_ixor hx hb dX10_mostFetched_25 ?_
        refine lv_iand hx hb dX10_mostFetched_26 ?_
        refine lv_if_ne (tgt := 52) hx hb dX10_mostFetched_27 (by decide) (fun c4 => ?_) (fun c4 => ?_)
        · replace h := of_ c4 h
          refine lv_iinc (v := x4 + (-1)) (lv' := [(4, .int (x4 + (-1))), (5, .int v2), (0, .ref t), (1, .int x1), (2, .int x2), (3, .int x3)]) hx hb dX10_mostFetched_52 hl (k := 5) rfl rfl (by decide) rfl (fun ls hl => ?_)
          refine lv_goto (tgt := 9) hx hb dX10_mostFetched_55 (by decide) ?_
          exact ih9 _ _ _ _ _ _ _ _ _ T (lv_sub hl [2, 3, 4, 5, 0] rfl) h
        · replace h := ot_ c4 h
          refine lv_iload hx hb dX10_mostFetched_30 (lv_at hl 0 rfl) ?_
          refine lv_iload_n hx hb dX10_mostFetched_32 rfl (lv_at hl 4 rfl) ?_
          refine lv_icmp_le (tgt := 52) hx hb dX10_mostFetched_33 (by decide) (fun c5 => ?_) (fun c5 => ?_)
          · replace h := ot_ c5 h
            refine lv_iinc (v := x4 + (-1)) (lv' := [(4, .int (x4 + (-1))), (5, .int v2), (0, .ref t), (1, .int x1), (2, .int x2), (3, .int x3)]) hx hb dX10_mostFetched_52 hl (k := 5) rfl rfl (by decide) rfl (fun ls hl => ?_)
            refine lv_goto (tgt := 9) hx hb dX10_mostFetched_55 (by decide) ?_
            exact ih9 _ _ _ _ _ _ _ _ _ T (lv_sub hl [2, 3, 4, 5, 0] rfl) h
          · replace h := of_ c5 h
            refine lv_aload_n hx hb dX10_mostFetched_36 rfl (lv_at hl 1 rfl) ?_
            obtain ⟨a6, e7, h⟩ := ob_ h
            refine g_RX10_45 C T e7 dX10_mostFetched_37 ?_
            refine lv_iload hx hb dX10_mostFetched_40 (lv_at hl 5 rfl) ?_
            obtain ⟨k8, h⟩ := oc_ h
            obtain ⟨v9, μ10, e11, h⟩ := ob2 h
            refine th_callV (As := [.int x4]) (rest := []) C T (c_X9_minutes e11) k_RX10_208 9 rfl rfl (by decide) k8 rfl hl.1 rfl (st1 := [.int v9]) rfl (cells1 := 0) rfl (slots1 := 0) rfl (Nat.le_of_ble_eq_true rfl) ⟨Nat.le_of_ble_eq_true rfl, Nat.le_of_ble_eq_true rfl⟩ ⟨Nat.le_of_ble_eq_true rfl, Nat.le_of_ble_eq_true rfl⟩ dX10_mostFetched_42 (fun H locs T => ?_)
            refine lv_iload_n hx hb dX10_mostFetched_45 rfl (lv_at hl 3 rfl) ?_
            refine lv_icmp_gt (tgt := 52) hx hb dX10_mostFetched_46 (by decide) (fun c12 => ?_) (fun c12 => ?_)
            · replace h := ot_ c12 h
              refine lv_iinc (v := x4 + (-1)) (lv' := [(4, .int (x4 + (-1))), (5, .int v2), (0, .ref t), (1, .int x1), (2, .int x2), (3, .int x3)]) hx hb dX10_mostFetched_52 hl (k := 5) rfl rfl (by decide) rfl (fun ls hl => ?_)
              refine lv_goto (tgt := 9) hx hb dX10_mostFetched_55 (by decide) ?_
              exact ih9 _ _ _ _ _ _ _ _ _ T (lv_sub hl [2, 3, 4, 5, 0] rfl) h
            · replace h := of_ c12 h
              refine lv_iload hx hb dX10_mostFetched_49 (lv_at hl 0 rfl) ?_
              refine lv_istore_n (lv' := [(3, .int v2), (5, .int v2), (0, .ref t), (1, .int x1), (2, .int x2), (4, .int x4)]) hx hb dX10_mostFetched_51 rfl hl (by decide) rfl (fun ls hl => ?_)
              refine lv_iinc (v := x4 + (-1)) (lv' := [(4, .int (x4 + (-1))), (3, .int v2), (5, .int v2), (0, .ref t), (1, .int x1), (2, .int x2)]) hx hb dX10_mostFetched_52 hl (k := 5) rfl rfl (by decide) rfl (fun ls hl => ?_)
              refine lv_goto (tgt := 9) hx hb dX10_mostFetched_55 (by decide) ?_
              exact ih9 _ _ _ _ _ _ _ _ _ T (lv_sub hl [3, 4, 5, 1, 0] rfl) h
  unfold f_X10_mostFetched at h
  refine lv_aload_n hx hb dX10_mostFetched_0 rfl (lv_at hl 0 rfl) ?_
  obtain ⟨k1, h⟩ := oc_ h
  obtain ⟨μ2, e3, h⟩ := ob_ h
  refine th_callV (As := []) (rest := []) C T (c_X10_readyTug e3) k_RX10_205 10 rfl rfl (by decide) k1 rfl hl.1 rfl (st1 := []) rfl (cells1 := 0) rfl (slots1 := 0) rfl (Nat.le_of_ble_eq_true rfl) ⟨Nat.le_of_ble_eq_true rfl, Nat.le_of_ble_eq_true rfl⟩ ⟨Nat.le_of_ble_eq_true rfl, Nat.le_of_ble_eq_true rfl⟩ dX10_mostFetched_1 (fun H locs T => ?_)
  refine lv_iconst (v := 0) hx hb dX10_mostFetched_4 (by decide) ?_
  refine lv_istore_n (lv' := [(3, .int 0), (0, .ref t), (1, .int x1), (2, .int x2)]) hx hb dX10_mostFetched_5 rfl hl (by decide) rfl (fun ls hl => ?_)
  refine lv_iload_n hx hb dX10_mostFetched_6 rfl (lv_at hl 2 rfl) ?_
  refine lv_istore (lv' := [(4, .int x1), (3, .int 0), (0, .ref t), (1, .int x1), (2, .int x2)]) hx hb dX10_mostFetched_7 hl (by decide) rfl (fun ls hl => ?_)
  exact J9 fu _ _ _ _ _ _ _ _ _ T (lv_sub hl [2, 3, 4, 1, 0] rfl) h
set_option maxRecDepth 100000 in
set_option maxHeartbeats 4000000 in
theorem c_X10_thunder {l : Launch} {G : th_G} {σ : th_S} {μ : th_M} {t : Nat} {x1 : Int32} {x2 : Int32} {r : Int32} {μ' : th_M} (h : f_X10_thunder σ μ t x1 x2 = some (r, μ')) : th_Met l G yX10_thunder cX10_thunder 3 (some FieldType.int) { frames := 8, cells := 0, slots := 0, locals := 215 } [.ref t, .int x1, .int x2] σ μ (some (.int r)) σ μ' := by
  refine th_ofW (by decide +kernel) (Nat.le_of_ble_eq_true rfl) ?_
  intro p e s m args below meth c ls Q hQ C hr hk hnm T hl
  have hx := C.1
  have hb := C.2.1
  have C : CallFix p m c cX10_thunder 3 s args th_ws RX10 := C
  have hl : lv_has ls 3 [(0, .ref t), (1, .int x1), (2, .int x2)] := hl
  unfold f_X10_thunder at h
  refine lv_iload_n hx hb dX10_thunder_0 rfl (lv_at hl 1 rfl) ?_
  refine lv_if_lt (tgt := 20) hx hb dX10_thunder_1 (by decide) (fun c1 => ?_) (fun c1 => ?_)
  · replace h := ot_ c1 h
    refine lv_bipush (v := -2) hx hb dX10_thunder_20 (by decide) ?_
    obtain ⟨rfl, rfl⟩ := os2 h
    exact th_iret hQ C hr hk T (Nat.le_of_ble_eq_true rfl) (Nat.le_of_ble_eq_true rfl) dX10_thunder_22
  · replace h := of_ c1 h
    refine lv_iload_n hx hb dX10_thunder_4 rfl (lv_at hl 1 rfl) ?_
    refine lv_sipush (v := 240) hx hb dX10_thunder_5 (by decide) ?_
    refine lv_icmp_gt (tgt := 20) hx hb dX10_thunder_8 (by decide) (fun c2 => ?_) (fun c2 => ?_)
    · replace h := ot_ c2 h
      refine lv_bipush (v := -2) hx hb dX10_thunder_20 (by decide) ?_
      obtain ⟨rfl, rfl⟩ := os2 h
      exact th_iret hQ C hr hk T (Nat.le_of_ble_eq_true rfl) (Nat.le_of_ble_eq_true rfl) dX10_thunder_22
    · replace h := of_ c2 h
      refine lv_iload_n hx hb dX10_thunder_11 rfl (lv_at hl 2 rfl) ?_
      refine lv_if_lt (tgt := 20) hx hb dX10_thunder_12 (by decide) (fun c3 => ?_) (fun c3 => ?_)
      · replace h := ot_ c3 h
        refine lv_bipush (v := -2) hx hb dX10_thunder_20 (by decide) ?_
        obtain ⟨rfl, rfl⟩ := os2 h
        exact th_iret hQ C hr hk T (Nat.le_of_ble_eq_true rfl) (Nat.le_of_ble_eq_true rfl) dX10_thunder_22
      · replace h := of_ c3 h
        refine lv_iload_n hx hb dX10_thunder_15 rfl (lv_at hl 2 rfl) ?_
        refine lv_iconst (v := 1) hx hb dX10_thunder_16 (by decide) ?_
        refine lv_icmp_le (tgt := 23) hx hb dX10_thunder_17 (by decide) (fun c4 => ?_) (fun c4 => ?_)
        · replace h := ot_ c4 h
          refine lv_iload_n hx hb dX10_thunder_23 rfl (lv_at hl 2 rfl) ?_
          refine lv_if_ne (tgt := 43) hx hb dX10_thunder_24 (by decide) (fun c5 => ?_) (fun c5 => ?_)
          · replace h := of_ c5 h
            refine lv_aload_n hx hb dX10_thunder_43 rfl (lv_at hl 0 rfl) ?_
            refine lv_aload_n hx hb dX10_thunder_44 rfl (lv_at hl 0 rfl) ?_
            obtain ⟨k6, h⟩ := oc_ h
            obtain ⟨v7, μ8, e9, h⟩ := ob2 h
            refine th_callV (As := []) (rest := [.ref t]) C T (c_X10_nobody e9) k_RX10_217 10 rfl rfl (by decide) k6 rfl hl.1 rfl (st1 := [.int v7, .ref t]) rfl (cells1 := 0) rfl (slots1 := 0) rfl (Nat.le_of_ble_eq_true rfl) ⟨Nat.le_of_ble_eq_true rfl, Nat.le_of_ble_eq_true rfl⟩ ⟨Nat.le_of_ble_eq_true rfl, Nat.le_of_ble_eq_true rfl⟩ dX10_thunder_45 (fun H locs T => ?_)
            refine lv_iload_n hx hb dX10_thunder_48 rfl (lv_at hl 1 rfl) ?_
            obtain ⟨v10, μ11, e12, h⟩ := ob2 h
            refine th_callV (As := [.int v7, .int x1]) (rest := []) C T (c_X10_mostFetched e12) k_RX10_220 10 rfl rfl (by decide) k6 rfl hl.1 rfl (st1 := [.int v10]) rfl (cells1 := 0) rfl (slots1 := 0) rfl (Nat.le_of_ble_eq_true rfl) ⟨Nat.le_of_ble_eq_true rfl, Nat.le_of_ble_eq_true rfl⟩ ⟨Nat.le_of_ble_eq_true rfl, Nat.le_of_ble_eq_true rfl⟩ dX10_thunder_49 (fun H locs T => ?_)
            obtain ⟨rfl, rfl⟩ := os2 h
            exact th_iret hQ C hr hk T (Nat.le_of_ble_eq_true rfl) (Nat.le_of_ble_eq_true rfl) dX10_thunder_52
          · replace h := ot_ c5 h
            refine lv_aload_n hx hb dX10_thunder_27 rfl (lv_at hl 0 rfl) ?_
            refine lv_aload_n hx hb dX10_thunder_28 rfl (lv_at hl 0 rfl) ?_
            obtain ⟨a13, e14, h⟩ := ob_ h
            refine g_RX10_15 C T e14 dX10_thunder_29 ?_
            refine lv_bipush (v := 9) hx hb dX10_thunder_32 (by decide) ?_
            obtain ⟨v15, e16, h⟩ := ob_ h
            refine th_ialdn C T e16 (by decide) (by decide) dX10_thunder_34 ?_
            refine lv_iload_n hx hb dX10_thunder_35 rfl (lv_at hl 1 rfl) ?_
            refine lv_iadd hx hb dX10_thunder_36 ?_
            obtain ⟨k17, h⟩ := oc_ h
            obtain ⟨v18, μ19, e20, h⟩ := ob2 h
            refine th_callV (As := [.int (v15 + x1)]) (rest := []) C T (c_X10_inBy e20) k_RX10_214 10 rfl rfl (by decide) k17 rfl hl.1 rfl (st1 := [.int v18]) rfl (cells1 := 0) rfl (slots1 := 0) rfl (Nat.le_of_ble_eq_true rfl) ⟨Nat.le_of_ble_eq_true rfl, Nat.le_of_ble_eq_true rfl⟩ ⟨Nat.le_of_ble_eq_true rfl, Nat.le_of_ble_eq_true rfl⟩ dX10_thunder_37 (fun H locs T => ?_)
            refine lv_goto (tgt := 52) hx hb dX10_thunder_40 (by decide) ?_
            obtain ⟨rfl, rfl⟩ := os2 h
            exact th_iret hQ C hr hk T (Nat.le_of_ble_eq_true rfl) (Nat.le_of_ble_eq_true rfl) dX10_thunder_52
        · replace h := of_ c4 h
          refine lv_bipush (v := -2) hx hb dX10_thunder_20 (by decide) ?_
          obtain ⟨rfl, rfl⟩ := os2 h
          exact th_iret hQ C hr hk T (Nat.le_of_ble_eq_true rfl) (Nat.le_of_ble_eq_true rfl) dX10_thunder_22
set_option maxRecDepth 100000 in
set_option maxHeartbeats 4000000 in
theorem c_X10_putInOrder {l : Launch} {G : th_G} {σ : th_S} {μ : th_M} {t : Nat} {x1 : Int32} {x2 : Int32}  {μ' : th_M} (h : f_X10_putInOrder σ μ t x1 x2 = some μ') : th_Met l G yX10_putInOrder cX10_putInOrder 4 none { frames := 0, cells := 0, slots := 0, locals := 0 } [.ref t, .int x1, .int x2] σ μ none σ μ' := by
  refine th_ofW (by decide +kernel) (Nat.le_of_ble_eq_true rfl) ?_
  intro p e s m args below meth c ls Q hQ C hr hk hnm T hl
  have hx := C.1
  have hb := C.2.1
  have C : CallFix p m c cX10_putInOrder 4 s args th_ws RX10 := C
  have hl : lv_has ls 4 [(0, .ref t), (1, .int x1), (2, .int x2)] := hl
  have J2 : ∀ (n : Nat) (μ : th_M) (t : Nat) (x1 : Int32) (x3 : Int32) (H : Heap) (locs : List Loc) (ls : Array Slot), th_R G s H locs σ μ → lv_has ls 4 [(0, .ref t), (1, .int x1), (3, .int x3)] → f_X10_putInOrder_b2  n σ μ t x1 x3 = some μ' → W p l e { frames := 0, cells := 0, slots := 0, locals := 0 } s m args below meth c H locs 0 0 Q (F0 m 2 ls []) := by
    intro n
    induction n with
    | zero => intro μ t x1 x3 H locs ls T hl h; unfold f_X10_putInOrder_b2 at h; cases h
    | succ n2 ih2 =>
      intro μ t x1 x3 H locs ls T hl h
      unfold f_X10_putInOrder_b2 at h
      refine lv_iload_n hx hb dX10_putInOrder_2 rfl (lv_at hl 2 rfl) ?_
      refine lv_if_le (tgt := 38) hx hb dX10_putInOrder_3 (by decide) (fun c1 => ?_) (fun c1 => ?_)
      · replace h := ot_ c1 h
        refine lv_aload_n hx hb dX10_putInOrder_38 rfl (lv_at hl 0 rfl) ?_
        obtain ⟨a2, e3, h⟩ := ob_ h
        refine g_RX10_49 C T e3 dX10_putInOrder_39 ?_
        refine lv_iload_n hx hb dX10_putInOrder_42 rfl (lv_at hl 2 rfl) ?_
        refine lv_iload_n hx hb dX10_putInOrder_43 rfl (lv_at hl 1 rfl) ?_
        obtain ⟨μ4, e5, h⟩ := ob_ h
        refine th_iast C T e5 dX10_putInOrder_44 (fun H locs T => ?_)
        obtain rfl := os1 h
        exact th_vret hQ C hr hk T (Nat.le_of_ble_eq_true rfl) (Nat.le_of_ble_eq_true rfl) dX10_putInOrder_45
      · replace h := of_ c1 h
        refine lv_aload_n hx hb dX10_putInOrder_6 rfl (lv_at hl 0 rfl) ?_
        obtain ⟨a6, e7, h⟩ := ob_ h
        refine g_RX10_49 C T e7 dX10_putInOrder_7 ?_
        refine lv_iload_n hx hb dX10_putInOrder_10 rfl (lv_at hl 2 rfl) ?_
        refine lv_iconst (v := 1) hx hb dX10_putInOrder_11 (by decide) ?_
        refine lv_isub hx hb dX10_putInOrder_12 ?_
        obtain ⟨v8, e9, h⟩ := ob_ h
        refine th_iald C T e9 dX10_putInOrder_13 ?_
        refine lv_iload_n hx hb dX10_putInOrder_14 rfl (lv_at hl 1 rfl) ?_
        refine lv_icmp_le (tgt := 38) hx hb dX10_putInOrder_15 (by decide) (fun c10 => ?_) (fun c10 => ?_)
        · replace h := ot_ c10 h
          refine lv_aload_n hx hb dX10_putInOrder_38 rfl (lv_at hl 0 rfl) ?_
          obtain ⟨a11, e12, h⟩ := ob_ h
          refine g_RX10_49 C T e12 dX10_putInOrder_39 ?_
          refine lv_iload_n hx hb dX10_putInOrder_42 rfl (lv_at hl 2 rfl) ?_
          refine lv_iload_n hx hb dX10_putInOrder_43 rfl (lv_at hl 1 rfl) ?_
          obtain ⟨μ13, e14, h⟩ := ob_ h
          refine th_iast C T e14 dX10_putInOrder_44 (fun H locs T => ?_)
          obtain rfl := os1 h
          exact th_vret hQ C hr hk T (Nat.le_of_ble_eq_true rfl) (Nat.le_of_ble_eq_true rfl) dX10_putInOrder_45
        · replace h := of_ c10 h
          refine lv_aload_n hx hb dX10_putInOrder_18 rfl (lv_at hl 0 rfl) ?_
          obtain ⟨a15, e16, h⟩ := ob_ h
          refine g_RX10_49 C T e16 dX10_putInOrder_19 ?_
          refine lv_iload_n hx hb dX10_putInOrder_22 rfl (lv_at hl 2 rfl) ?_
          refine lv_aload_n hx hb dX10_putInOrder_23 rfl (lv_at hl 0 rfl) ?_
          obtain ⟨a17, e18, h⟩ := ob_ h
          refine g_RX10_49 C T e18 dX10_putInOrder_24 ?_
          refine lv_iload_n hx hb dX10_putInOrder_27 rfl (lv_at hl 2 rfl) ?_
          refine lv_iconst (v := 1) hx hb dX10_putInOrder_28 (by decide) ?_
          refine lv_isub hx hb dX10_putInOrder_29 ?_
          obtain ⟨v19, e20, h⟩ := ob_ h
          refine th_iald C T e20 dX10_putInOrder_30 ?_
          obtain ⟨μ21, e22, h⟩ := ob_ h
          refine th_iast C T e22 dX10_putInOrder_31 (fun H locs T => ?_)
          refine lv_iinc (v := x3 + (-1)) (lv' := [(3, .int (x3 + (-1))), (0, .ref t), (1, .int x1)]) hx hb dX10_putInOrder_32 hl (k := 2) rfl rfl (by decide) rfl (fun ls hl => ?_)
          refine lv_goto (tgt := 2) hx hb dX10_putInOrder_35 (by decide) ?_
          exact ih2 _ _ _ _ _ _ _ T (lv_sub hl [1, 2, 0] rfl) h
  unfold f_X10_putInOrder at h
  refine lv_iload_n hx hb dX10_putInOrder_0 rfl (lv_at hl 2 rfl) ?_
  refine lv_istore_n (lv' := [(3, .int x2), (0, .ref t), (1, .int x1), (2, .int x2)]) hx hb dX10_putInOrder_1 rfl hl (by decide) rfl (fun ls hl => ?_)
  exact J2 fu _ _ _ _ _ _ _ T (lv_sub hl [1, 2, 0] rfl) h
set_option maxRecDepth 100000 in
set_option maxHeartbeats 4000000 in
theorem c_X10_orderComing {l : Launch} {G : th_G} {σ : th_S} {μ : th_M} {t : Nat} {r : Int32} {μ' : th_M} (h : f_X10_orderComing σ μ t = some (r, μ')) : th_Met l G yX10_orderComing cX10_orderComing 4 (some FieldType.int) { frames := 7, cells := 0, slots := 0, locals := 191 } [.ref t] σ μ (some (.int r)) σ μ' := by
  refine th_ofW (by decide +kernel) (Nat.le_of_ble_eq_true rfl) ?_
  intro p e s m args below meth c ls Q hQ C hr hk hnm T hl
  have hx := C.1
  have hb := C.2.1
  have C : CallFix p m c cX10_orderComing 4 s args th_ws RX10 := C
  have hl : lv_has ls 4 [(0, .ref t)] := hl
  have J4 : ∀ (n : Nat) (μ : th_M) (t : Nat) (x1 : Int32) (x2 : Int32) (H : Heap) (locs : List Loc) (ls : Array Slot), th_R G s H locs σ μ → lv_has ls 4 [(0, .ref t), (1, .int x1), (2, .int x2)] → f_X10_orderComing_b4  n σ μ t x1 x2 = some (r, μ') → W p l e { frames := 7, cells := 0, slots := 0, locals := 191 } s m args below meth c H locs 0 0 Q (F0 m 4 ls []) := by
    intro n
    induction n with
    | zero => intro μ t x1 x2 H locs ls T hl h; unfold f_X10_orderComing_b4 at h; cases h
    | succ n4 ih4 =>
      intro μ t x1 x2 H locs ls T hl h
      unfold f_X10_orderComing_b4 at h
      refine lv_iload_n hx hb dX10_orderComing_4 rfl (lv_at hl 2 rfl) ?_
      refine lv_aload_n hx hb dX10_orderComing_5 rfl (lv_at hl 0 rfl) ?_
      obtain ⟨v1, e2, h⟩ := ob_ h
      refine g_RX10_92 C T e2 dX10_orderComing_6 ?_
      refine lv_icmp_ge (tgt := 38) hx hb dX10_orderComing_9 (by decide) (fun c3 => ?_) (fun c3 => ?_)
      · replace h := ot_ c3 h
        refine lv_iload_n hx hb dX10_orderComing_38 rfl (lv_at hl 1 rfl) ?_
        obtain ⟨rfl, rfl⟩ := os2 h
        exact th_iret hQ C hr hk T (Nat.le_of_ble_eq_true rfl) (Nat.le_of_ble_eq_true rfl) dX10_orderComing_39
      · replace h := of_ c3 h
        refine lv_aload_n hx hb dX10_orderComing_12 rfl (lv_at hl 0 rfl) ?_
        refine lv_iload_n hx hb dX10_orderComing_13 rfl (lv_at hl 2 rfl) ?_
        obtain ⟨k4, h⟩ := oc_ h
        obtain ⟨v5, μ6, e7, h⟩ := ob2 h
        refine th_callV (As := [.int x2]) (rest := []) C T (c_X10_comingAt e7) k_RX10_176 10 rfl rfl (by decide) k4 rfl hl.1 rfl (st1 := [.int v5]) rfl (cells1 := 0) rfl (slots1 := 0) rfl (Nat.le_of_ble_eq_true rfl) ⟨Nat.le_of_ble_eq_true rfl, Nat.le_of_ble_eq_true rfl⟩ ⟨Nat.le_of_ble_eq_true rfl, Nat.le_of_ble_eq_true rfl⟩ dX10_orderComing_14 (fun H locs T => ?_)
        refine lv_istore_n (lv' := [(3, .int v5), (0, .ref t), (1, .int x1), (2, .int x2)]) hx hb dX10_orderComing_17 rfl hl (by decide) rfl (fun ls hl => ?_)
        refine lv_iload_n hx hb dX10_orderComing_18 rfl (lv_at hl 0 rfl) ?_
        refine lv_iconst (v := -1) hx hb dX10_orderComing_19 (by decide) ?_
        refine lv_icmp_eq (tgt := 32) hx hb dX10_orderComing_20 (by decide) (fun c8 => ?_) (fun c8 => ?_)
        · replace h := ot_ c8 h
          refine lv_iinc (v := x2 + 1) (lv' := [(2, .int (x2 + 1)), (3, .int v5), (0, .ref t), (1, .int x1)]) hx hb dX10_orderComing_32 hl (k := 3) rfl rfl (by decide) rfl (fun ls hl => ?_)
          refine lv_goto (tgt := 4) hx hb dX10_orderComing_35 (by decide) ?_
          exact ih4 _ _ _ _ _ _ _ T (lv_sub hl [2, 3, 0] rfl) h
        · replace h := of_ c8 h
          refine lv_aload_n hx hb dX10_orderComing_23 rfl (lv_at hl 1 rfl) ?_
          refine lv_iload_n hx hb dX10_orderComing_24 rfl (lv_at hl 0 rfl) ?_
          refine lv_iload_n hx hb dX10_orderComing_25 rfl (lv_at hl 2 rfl) ?_
          obtain ⟨μ9, e10, h⟩ := ob_ h
          refine th_callV (As := [.int v5, .int x1]) (rest := []) C T (c_X10_putInOrder e10) k_RX10_280 10 rfl rfl (by decide) k4 rfl hl.1 rfl (st1 := []) rfl (cells1 := 0) rfl (slots1 := 0) rfl (Nat.le_of_ble_eq_true rfl) ⟨Nat.le_of_ble_eq_true rfl, Nat.le_of_ble_eq_true rfl⟩ ⟨Nat.le_of_ble_eq_true rfl, Nat.le_of_ble_eq_true rfl⟩ dX10_orderComing_26 (fun H locs T => ?_)
          refine lv_iinc (v := x1 + 1) (lv' := [(1, .int (x1 + 1)), (3, .int v5), (0, .ref t), (2, .int x2)]) hx hb dX10_orderComing_29 hl (k := 2) rfl rfl (by decide) rfl (fun ls hl => ?_)
          refine lv_iinc (v := x2 + 1) (lv' := [(2, .int (x2 + 1)), (1, .int (x1 + 1)), (3, .int v5), (0, .ref t)]) hx hb dX10_orderComing_32 hl (k := 3) rfl rfl (by decide) rfl (fun ls hl => ?_)
          refine lv_goto (tgt := 4) hx hb dX10_orderComing_35 (by decide) ?_
          exact ih4 _ _ _ _ _ _ _ T (lv_sub hl [3, 1, 0] rfl) h
  unfold f_X10_orderComing at h
  refine lv_iconst (v := 0) hx hb dX10_orderComing_0 (by decide) ?_
  refine lv_istore_n (lv' := [(1, .int 0), (0, .ref t)]) hx hb dX10_orderComing_1 rfl hl (by decide) rfl (fun ls hl => ?_)
  refine lv_iconst (v := 0) hx hb dX10_orderComing_2 (by decide) ?_
  refine lv_istore_n (lv' := [(2, .int 0), (1, .int 0), (0, .ref t)]) hx hb dX10_orderComing_3 rfl hl (by decide) rfl (fun ls hl => ?_)
  exact J4 fu _ _ _ _ _ _ _ T (lv_sub hl [2, 1, 0] rfl) h
set_option maxRecDepth 100000 in
set_option maxHeartbeats 4000000 in
theorem c_X10_stand {l : Launch} {G : th_G} {σ : th_S} {μ : th_M} {t : Nat} {r : Int32} {μ' : th_M} (h : f_X10_stand σ μ t = some (r, μ')) : th_Met l G yX10_stand cX10_stand 4 (some FieldType.int) { frames := 8, cells := 0, slots := 0, locals := 214 } [.ref t] σ μ (some (.int r)) σ μ' := by
  refine th_ofW (by decide +kernel) (Nat.le_of_ble_eq_true rfl) ?_
  intro p e s m args below meth c ls Q hQ C hr hk hnm T hl
  have hx := C.1
  have hb := C.2.1
  have C : CallFix p m c cX10_stand 4 s args th_ws RX10 := C
  have hl : lv_has ls 4 [(0, .ref t)] := hl
  have J9 : ∀ (n : Nat) (μ : th_M) (t : Nat) (x1 : Int32) (x2 : Int32) (x3 : Int32) (H : Heap) (locs : List Loc) (ls : Array Slot), th_R G s H locs σ μ → lv_has ls 4 [(0, .ref t), (1, .int x1), (2, .int x2), (3, .int x3)] → f_X10_stand_b9  n σ μ t x1 x2 x3 = some (r, μ') → W p l e { frames := 8, cells := 0, slots := 0, locals := 214 } s m args below meth c H locs 0 0 Q (F0 m 9 ls []) := by
    intro n
    induction n with
    | zero => intro μ t x1 x2 x3 H locs ls T hl h; unfold f_X10_stand_b9 at h; cases h
    | succ n9 ih9 =>
      intro μ t x1 x2 x3 H locs ls T hl h
      unfold f_X10_stand_b9 at h
      refine lv_iload_n hx hb dX10_stand_9 rfl (lv_at hl 3 rfl) ?_
      refine lv_aload_n hx hb dX10_stand_10 rfl (lv_at hl 0 rfl) ?_
      obtain ⟨a1, e2, h⟩ := ob_ h
      refine g_RX10_15 C T e2 dX10_stand_11 ?_
      refine lv_bipush (v := 8) hx hb dX10_stand_14 (by decide) ?_
      obtain ⟨v3, e4, h⟩ := ob_ h
      refine th_ialdn C T e4 (by decide) (by decide) dX10_stand_16 ?_
      refine lv_icmp_ge (tgt := 54) hx hb dX10_stand_17 (by decide) (fun c5 => ?_) (fun c5 => ?_)
      · replace h := ot_ c5 h
        refine lv_iload_n hx hb dX10_stand_54 rfl (lv_at hl 2 rfl) ?_
        obtain ⟨rfl, rfl⟩ := os2 h
        exact th_iret hQ C hr hk T (Nat.le_of_ble_eq_true rfl) (Nat.le_of_ble_eq_true rfl) dX10_stand_55
      · replace h := of_ c5 h
        refine lv_iload_n hx hb dX10_stand_20 rfl (lv_at hl 2 rfl) ?_
        refine lv_iload_n hx hb dX10_stand_21 rfl (lv_at hl 3 rfl) ?_
        refine lv_iload_n hx hb dX10_stand_22 rfl (lv_at hl 1 rfl) ?_
        refine lv_icmp_ge (tgt := 43) hx hb dX10_stand_23 (by decide) (fun c6 => ?_) (fun c6 => ?_)
        · replace h := ot_ c6 h
          refine lv_sipush (v := 240) hx hb dX10_stand_43 (by decide) ?_
          refine lv_iadd hx hb dX10_stand_46 ?_
          refine lv_istore_n (lv' := [(2, .int (x2 + 240)), (0, .ref t), (1, .int x1), (3, .int x3)]) hx hb dX10_stand_47 rfl hl (by decide) rfl (fun ls hl => ?_)
          refine lv_iinc (v := x3 + 1) (lv' := [(3, .int (x3 + 1)), (2, .int (x2 + 240)), (0, .ref t), (1, .int x1)]) hx hb dX10_stand_48 hl (k := 3) rfl rfl (by decide) rfl (fun ls hl => ?_)
          refine lv_goto (tgt := 9) hx hb dX10_stand_51 (by decide) ?_
          exact ih9 _ _ _ _ _ _ _ _ T (lv_sub hl [2, 3, 1, 0] rfl) h
        · replace h := of_ c6 h
          refine lv_aload_n hx hb dX10_stand_26 rfl (lv_at hl 0 rfl) ?_
          obtain ⟨a7, e8, h⟩ := ob_ h
          refine g_RX10_49 C T e8 dX10_stand_27 ?_
          refine lv_iload_n hx hb dX10_stand_30 rfl (lv_at hl 3 rfl) ?_
          obtain ⟨v9, e10, h⟩ := ob_ h
          refine th_iald C T e10 dX10_stand_31 ?_
          refine lv_aload_n hx hb dX10_stand_32 rfl (lv_at hl 0 rfl) ?_
          obtain ⟨a11, e12, h⟩ := ob_ h
          refine g_RX10_15 C T e12 dX10_stand_33 ?_
          refine lv_bipush (v := 9) hx hb dX10_stand_36 (by decide) ?_
          obtain ⟨v13, e14, h⟩ := ob_ h
          refine th_ialdn C T e14 (by decide) (by decide) dX10_stand_38 ?_
          refine lv_isub hx hb dX10_stand_39 ?_
          refine lv_goto (tgt := 46) hx hb dX10_stand_40 (by decide) ?_
          refine lv_iadd hx hb dX10_stand_46 ?_
          refine lv_istore_n (lv' := [(2, .int (x2 + (v9 - v13))), (0, .ref t), (1, .int x1), (3, .int x3)]) hx hb dX10_stand_47 rfl hl (by decide) rfl (fun ls hl => ?_)
          refine lv_iinc (v := x3 + 1) (lv' := [(3, .int (x3 + 1)), (2, .int (x2 + (v9 - v13))), (0, .ref t), (1, .int x1)]) hx hb dX10_stand_48 hl (k := 3) rfl rfl (by decide) rfl (fun ls hl => ?_)
          refine lv_goto (tgt := 9) hx hb dX10_stand_51 (by decide) ?_
          exact ih9 _ _ _ _ _ _ _ _ T (lv_sub hl [2, 3, 1, 0] rfl) h
  unfold f_X10_stand at h
  refine lv_aload_n hx hb dX10_stand_0 rfl (lv_at hl 0 rfl) ?_
  obtain ⟨k1, h⟩ := oc_ h
  obtain ⟨v2, μ3, e4, h⟩ := ob2 h
  refine th_callV (As := []) (rest := []) C T (c_X10_orderComing e4) k_RX10_223 10 rfl rfl (by decide) k1 rfl hl.1 rfl (st1 := [.int v2]) rfl (cells1 := 0) rfl (slots1 := 0) rfl (Nat.le_of_ble_eq_true rfl) ⟨Nat.le_of_ble_eq_true rfl, Nat.le_of_ble_eq_true rfl⟩ ⟨Nat.le_of_ble_eq_true rfl, Nat.le_of_ble_eq_true rfl⟩ dX10_stand_1 (fun H locs T => ?_)
  refine lv_istore_n (lv' := [(1, .int v2), (0, .ref t)]) hx hb dX10_stand_4 rfl hl (by decide) rfl (fun ls hl => ?_)
  refine lv_iconst (v := 0) hx hb dX10_stand_5 (by decide) ?_
  refine lv_istore_n (lv' := [(2, .int 0), (1, .int v2), (0, .ref t)]) hx hb dX10_stand_6 rfl hl (by decide) rfl (fun ls hl => ?_)
  refine lv_iconst (v := 0) hx hb dX10_stand_7 (by decide) ?_
  refine lv_istore_n (lv' := [(3, .int 0), (2, .int 0), (1, .int v2), (0, .ref t)]) hx hb dX10_stand_8 rfl hl (by decide) rfl (fun ls hl => ?_)
  exact J9 fu _ _ _ _ _ _ _ _ T (lv_sub hl [3, 2, 1, 0] rfl) h
set_option maxRecDepth 100000 in
set_option maxHeartbeats 4000000 in
theorem c_X10_isSheet {l : Launch} {G : th_G} {σ : th_S} {μ : th_M} {x0 : Int32} {r : Int32} (h : f_X10_isSheet x0 = some r) : th_Met l G yX10_isSheet cX10_isSheet 1 (some FieldType.boolean) { frames := 0, cells := 0, slots := 0, locals := 0 } [.int x0] σ μ (some (.int r)) σ μ := by
  refine th_ofW (by decide +kernel) (Nat.le_of_ble_eq_true rfl) ?_
  intro p e s m args below meth c ls Q hQ C hr hk hnm T hl
  have hx := C.1
  have hb := C.2.1
  have C : CallFix p m c cX10_isSheet 1 s args th_ws RX10 := C
  have hl : lv_has ls 1 [(0, .int x0)] := hl
  unfold f_X10_isSheet at h
  refine lv_iload_n hx hb dX10_isSheet_0 rfl (lv_at hl 0 rfl) ?_
  refine lv_if_lt (tgt := 13) hx hb dX10_isSheet_1 (by decide) (fun c1 => ?_) (fun c1 => ?_)
  · replace h := ot_ c1 h
    refine lv_iconst (v := 0) hx hb dX10_isSheet_13 (by decide) ?_
    obtain rfl := os1 h
    exact th_zret hQ C hr hk T (Nat.le_of_ble_eq_true rfl) (Nat.le_of_ble_eq_true rfl) dX10_isSheet_14 rfl
  · replace h := of_ c1 h
    refine lv_iload_n hx hb dX10_isSheet_4 rfl (lv_at hl 0 rfl) ?_
    refine lv_iconst (v := 4) hx hb dX10_isSheet_5 (by decide) ?_
    refine lv_icmp_ge (tgt := 13) hx hb dX10_isSheet_6 (by decide) (fun c2 => ?_) (fun c2 => ?_)
    · replace h := ot_ c2 h
      refine lv_iconst (v := 0) hx hb dX10_isSheet_13 (by decide) ?_
      obtain rfl := os1 h
      exact th_zret hQ C hr hk T (Nat.le_of_ble_eq_true rfl) (Nat.le_of_ble_eq_true rfl) dX10_isSheet_14 rfl
    · replace h := of_ c2 h
      refine lv_iconst (v := 1) hx hb dX10_isSheet_9 (by decide) ?_
      refine lv_goto (tgt := 14) hx hb dX10_isSheet_10 (by decide) ?_
      obtain rfl := os1 h
      exact th_zret hQ C hr hk T (Nat.le_of_ble_eq_true rfl) (Nat.le_of_ble_eq_true rfl) dX10_isSheet_14 rfl
set_option maxRecDepth 100000 in
set_option maxHeartbeats 4000000 in
theorem c_X10_isTrue {l : Launch} {G : th_G} {σ : th_S} {μ : th_M} {t : Nat} {x1 : Int32} {x2 : Int32} {r : Int32} {μ' : th_M} (h : f_X10_isTrue σ μ t x1 x2 = some (r, μ')) : th_Met l G yX10_isTrue cX10_isTrue 3 (some FieldType.boolean) { frames := 6, cells := 0, slots := 0, locals := 170 } [.ref t, .int x1, .int x2] σ μ (some (.int r)) σ μ' := by
  refine th_ofW (by decide +kernel) (Nat.le_of_ble_eq_true rfl) ?_
  intro p e s m args below meth c ls Q hQ C hr hk hnm T hl
  have hx := C.1
  have hb := C.2.1
  have C : CallFix p m c cX10_isTrue 3 s args th_ws RX10 := C
  have hl : lv_has ls 3 [(0, .ref t), (1, .int x1), (2, .int x2)] := hl
  unfold f_X10_isTrue at h
  refine lv_aload_n hx hb dX10_isTrue_0 rfl (lv_at hl 0 rfl) ?_
  refine lv_iload_n hx hb dX10_isTrue_1 rfl (lv_at hl 1 rfl) ?_
  obtain ⟨k1, h⟩ := oc_ h
  obtain ⟨v2, e3, h⟩ := ob_ h
  refine th_callV (As := [.int x1]) (rest := []) C T (c_X10_isBoat e3) k_RX10_99 10 rfl rfl (by decide) k1 rfl hl.1 rfl (st1 := [.int v2]) rfl (cells1 := 0) rfl (slots1 := 0) rfl (Nat.le_of_ble_eq_true rfl) ⟨Nat.le_of_ble_eq_true rfl, Nat.le_of_ble_eq_true rfl⟩ ⟨Nat.le_of_ble_eq_true rfl, Nat.le_of_ble_eq_true rfl⟩ dX10_isTrue_2 (fun H locs T => ?_)
  refine lv_if_eq (tgt := 25) hx hb dX10_isTrue_5 (by decide) (fun c4 => ?_) (fun c4 => ?_)
  · replace h := ot_ c4 h
    refine lv_iconst (v := 0) hx hb dX10_isTrue_25 (by decide) ?_
    obtain ⟨rfl, rfl⟩ := os2 h
    exact th_zret hQ C hr hk T (Nat.le_of_ble_eq_true rfl) (Nat.le_of_ble_eq_true rfl) dX10_isTrue_26 rfl
  · replace h := of_ c4 h
    refine lv_iload_n hx hb dX10_isTrue_8 rfl (lv_at hl 2 rfl) ?_
    refine lv_if_lt (tgt := 25) hx hb dX10_isTrue_9 (by decide) (fun c5 => ?_) (fun c5 => ?_)
    · replace h := ot_ c5 h
      refine lv_iconst (v := 0) hx hb dX10_isTrue_25 (by decide) ?_
      obtain ⟨rfl, rfl⟩ := os2 h
      exact th_zret hQ C hr hk T (Nat.le_of_ble_eq_true rfl) (Nat.le_of_ble_eq_true rfl) dX10_isTrue_26 rfl
    · replace h := of_ c5 h
      refine lv_iload_n hx hb dX10_isTrue_12 rfl (lv_at hl 2 rfl) ?_
      refine lv_iconst (v := 1) hx hb dX10_isTrue_13 (by decide) ?_
      refine lv_icmp_gt (tgt := 25) hx hb dX10_isTrue_14 (by decide) (fun c6 => ?_) (fun c6 => ?_)
      · replace h := ot_ c6 h
        refine lv_iconst (v := 0) hx hb dX10_isTrue_25 (by decide) ?_
        obtain ⟨rfl, rfl⟩ := os2 h
        exact th_zret hQ C hr hk T (Nat.le_of_ble_eq_true rfl) (Nat.le_of_ble_eq_true rfl) dX10_isTrue_26 rfl
      · replace h := of_ c6 h
        refine lv_aload_n hx hb dX10_isTrue_17 rfl (lv_at hl 0 rfl) ?_
        refine lv_iload_n hx hb dX10_isTrue_18 rfl (lv_at hl 1 rfl) ?_
        obtain ⟨v7, e8, h⟩ := ob_ h
        refine th_callV (As := [.int x1]) (rest := []) C T (c_X10_isOnTheLake e8) k_RX10_163 10 rfl rfl (by decide) k1 rfl hl.1 rfl (st1 := [.int v7]) rfl (cells1 := 0) rfl (slots1 := 0) rfl (Nat.le_of_ble_eq_true rfl) ⟨Nat.le_of_ble_eq_true rfl, Nat.le_of_ble_eq_true rfl⟩ ⟨Nat.le_of_ble_eq_true rfl, Nat.le_of_ble_eq_true rfl⟩ dX10_isTrue_19 (fun H locs T => ?_)
        refine lv_if_ne (tgt := 27) hx hb dX10_isTrue_22 (by decide) (fun c9 => ?_) (fun c9 => ?_)
        · replace h := of_ c9 h
          refine lv_aload_n hx hb dX10_isTrue_27 rfl (lv_at hl 0 rfl) ?_
          refine lv_iload_n hx hb dX10_isTrue_28 rfl (lv_at hl 1 rfl) ?_
          obtain ⟨v10, μ11, e12, h⟩ := ob2 h
          refine th_callV (As := [.int x1]) (rest := []) C T (c_X10_wouldComeNow e12) k_RX10_115 10 rfl rfl (by decide) k1 rfl hl.1 rfl (st1 := [.int v10]) rfl (cells1 := 0) rfl (slots1 := 0) rfl (Nat.le_of_ble_eq_true rfl) ⟨Nat.le_of_ble_eq_true rfl, Nat.le_of_ble_eq_true rfl⟩ ⟨Nat.le_of_ble_eq_true rfl, Nat.le_of_ble_eq_true rfl⟩ dX10_isTrue_29 (fun H locs T => ?_)
          refine lv_iload_n hx hb dX10_isTrue_32 rfl (lv_at hl 2 rfl) ?_
          refine lv_iconst (v := 1) hx hb dX10_isTrue_33 (by decide) ?_
          refine lv_icmp_ne (tgt := 41) hx hb dX10_isTrue_34 (by decide) (fun c13 => ?_) (fun c13 => ?_)
          · replace h := of_ c13 h
            refine lv_iconst (v := 0) hx hb dX10_isTrue_41 (by decide) ?_
            refine lv_icmp_ne (tgt := 49) hx hb dX10_isTrue_42 (by decide) (fun c14 => ?_) (fun c14 => ?_)
            · replace h := of_ c14 h
              refine lv_iconst (v := 0) hx hb dX10_isTrue_49 (by decide) ?_
              obtain ⟨rfl, rfl⟩ := os2 h
              exact th_zret hQ C hr hk T (Nat.le_of_ble_eq_true rfl) (Nat.le_of_ble_eq_true rfl) dX10_isTrue_50 rfl
            · replace h := ot_ c14 h
              refine lv_iconst (v := 1) hx hb dX10_isTrue_45 (by decide) ?_
              refine lv_goto (tgt := 50) hx hb dX10_isTrue_46 (by decide) ?_
              obtain ⟨rfl, rfl⟩ := os2 h
              exact th_zret hQ C hr hk T (Nat.le_of_ble_eq_true rfl) (Nat.le_of_ble_eq_true rfl) dX10_isTrue_50 rfl
          · replace h := ot_ c13 h
            refine lv_iconst (v := 1) hx hb dX10_isTrue_37 (by decide) ?_
            refine lv_goto (tgt := 42) hx hb dX10_isTrue_38 (by decide) ?_
            refine lv_icmp_ne (tgt := 49) hx hb dX10_isTrue_42 (by decide) (fun c15 => ?_) (fun c15 => ?_)
            · replace h := of_ c15 h
              refine lv_iconst (v := 0) hx hb dX10_isTrue_49 (by decide) ?_
              obtain ⟨rfl, rfl⟩ := os2 h
              exact th_zret hQ C hr hk T (Nat.le_of_ble_eq_true rfl) (Nat.le_of_ble_eq_true rfl) dX10_isTrue_50 rfl
            · replace h := ot_ c15 h
              refine lv_iconst (v := 1) hx hb dX10_isTrue_45 (by decide) ?_
              refine lv_goto (tgt := 50) hx hb dX10_isTrue_46 (by decide) ?_
              obtain ⟨rfl, rfl⟩ := os2 h
              exact th_zret hQ C hr hk T (Nat.le_of_ble_eq_true rfl) (Nat.le_of_ble_eq_true rfl) dX10_isTrue_50 rfl
        · replace h := ot_ c9 h
          refine lv_iconst (v := 0) hx hb dX10_isTrue_25 (by decide) ?_
          obtain ⟨rfl, rfl⟩ := os2 h
          exact th_zret hQ C hr hk T (Nat.le_of_ble_eq_true rfl) (Nat.le_of_ble_eq_true rfl) dX10_isTrue_26 rfl
set_option maxRecDepth 100000 in
set_option maxHeartbeats 4000000 in
theorem c_X10_heard {l : Launch} {G : th_G} {σ : th_S} {μ : th_M} {t : Nat} {x1 : Int32} {r : Int32} {μ' : th_M} (h : f_X10_heard σ μ t x1 = some (r, μ')) : th_Met l G yX10_heard cX10_heard 4 (some FieldType.int) { frames := 7, cells := 0, slots := 0, locals := 192 } [.ref t, .int x1] σ μ (some (.int r)) σ μ' := by
  refine th_ofW (by decide +kernel) (Nat.le_of_ble_eq_true rfl) ?_
  intro p e s m args below meth c ls Q hQ C hr hk hnm T hl
  have hx := C.1
  have hb := C.2.1
  have C : CallFix p m c cX10_heard 4 s args th_ws RX10 := C
  have hl : lv_has ls 4 [(0, .ref t), (1, .int x1)] := hl
  have J41 : ∀ (n : Nat) (μ : th_M) (t : Nat) (x2 : Nat) (x3 : Int32) (H : Heap) (locs : List Loc) (ls : Array Slot), th_R G s H locs σ μ → lv_has ls 4 [(0, .ref t), (2, .ref x2), (3, .int x3)] → f_X10_heard_b41  n σ μ t x2 x3 = some (r, μ') → W p l e { frames := 7, cells := 0, slots := 0, locals := 192 } s m args below meth c H locs 0 0 Q (F0 m 41 ls []) := by
    intro n
    induction n with
    | zero => intro μ t x2 x3 H locs ls T hl h; unfold f_X10_heard_b41 at h; cases h
    | succ n41 ih41 =>
      intro μ t x2 x3 H locs ls T hl h
      unfold f_X10_heard_b41 at h
      refine lv_iload_n hx hb dX10_heard_41 rfl (lv_at hl 2 rfl) ?_
      refine lv_aload_n hx hb dX10_heard_42 rfl (lv_at hl 1 rfl) ?_
      obtain ⟨v1, e2, h⟩ := ob_ h
      refine g_RX10_233 C T e2 dX10_heard_43 ?_
      refine lv_iconst (v := 2) hx hb dX10_heard_46 (by decide) ?_
      refine lv_idiv hx hb dX10_heard_47 (by decide) ?_
      refine lv_icmp_ge (tgt := 82) hx hb dX10_heard_48 (by decide) (fun c3 => ?_) (fun c3 => ?_)
      · replace h := ot_ c3 h
        refine lv_iconst (v := -1) hx hb dX10_heard_82 (by decide) ?_
        obtain ⟨rfl, rfl⟩ := os2 h
        exact th_iret hQ C hr hk T (Nat.le_of_ble_eq_true rfl) (Nat.le_of_ble_eq_true rfl) dX10_heard_83
      · replace h := of_ c3 h
        refine lv_aload_n hx hb dX10_heard_51 rfl (lv_at hl 0 rfl) ?_
        refine lv_aload_n hx hb dX10_heard_52 rfl (lv_at hl 1 rfl) ?_
        refine lv_iconst (v := 2) hx hb dX10_heard_53 (by decide) ?_
        refine lv_iload_n hx hb dX10_heard_54 rfl (lv_at hl 2 rfl) ?_
        refine lv_imul hx hb dX10_heard_55 ?_
        obtain ⟨k4, h⟩ := oc_ h
        obtain ⟨v5, e6, h⟩ := ob_ h
        refine th_callV (As := [.int (2 * x3)]) (rest := [.ref t]) C T (c_X6_at e6) k_RX10_234 6 rfl rfl (by decide) k4 rfl hl.1 rfl (st1 := [.int v5, .ref t]) rfl (cells1 := 0) rfl (slots1 := 0) rfl (Nat.le_of_ble_eq_true rfl) ⟨Nat.le_of_ble_eq_true rfl, Nat.le_of_ble_eq_true rfl⟩ ⟨Nat.le_of_ble_eq_true rfl, Nat.le_of_ble_eq_true rfl⟩ dX10_heard_56 (fun H locs T => ?_)
        refine lv_aload_n hx hb dX10_heard_59 rfl (lv_at hl 1 rfl) ?_
        refine lv_iconst (v := 2) hx hb dX10_heard_60 (by decide) ?_
        refine lv_iload_n hx hb dX10_heard_61 rfl (lv_at hl 2 rfl) ?_
        refine lv_imul hx hb dX10_heard_62 ?_
        refine lv_iconst (v := 1) hx hb dX10_heard_63 (by decide) ?_
        refine lv_iadd hx hb dX10_heard_64 ?_
        obtain ⟨v7, e8, h⟩ := ob_ h
        refine th_callV (As := [.int ((2 * x3) + 1)]) (rest := [.int v5, .ref t]) C T (c_X6_at e8) k_RX10_234 6 rfl rfl (by decide) k4 rfl hl.1 rfl (st1 := [.int v7, .int v5, .ref t]) rfl (cells1 := 0) rfl (slots1 := 0) rfl (Nat.le_of_ble_eq_true rfl) ⟨Nat.le_of_ble_eq_true rfl, Nat.le_of_ble_eq_true rfl⟩ ⟨Nat.le_of_ble_eq_true rfl, Nat.le_of_ble_eq_true rfl⟩ dX10_heard_65 (fun H locs T => ?_)
        obtain ⟨k9, h⟩ := oc_ h
        obtain ⟨v10, μ11, e12, h⟩ := ob2 h
        refine th_callV (As := [.int v5, .int v7]) (rest := []) C T (c_X10_isTrue e12) k_RX10_237 10 rfl rfl (by decide) k9 rfl hl.1 rfl (st1 := [.int v10]) rfl (cells1 := 0) rfl (slots1 := 0) rfl (Nat.le_of_ble_eq_true rfl) ⟨Nat.le_of_ble_eq_true rfl, Nat.le_of_ble_eq_true rfl⟩ ⟨Nat.le_of_ble_eq_true rfl, Nat.le_of_ble_eq_true rfl⟩ dX10_heard_68 (fun H locs T => ?_)
        refine lv_if_ne (tgt := 76) hx hb dX10_heard_71 (by decide) (fun c13 => ?_) (fun c13 => ?_)
        · replace h := of_ c13 h
          refine lv_iinc (v := x3 + 1) (lv' := [(3, .int (x3 + 1)), (0, .ref t), (2, .ref x2)]) hx hb dX10_heard_76 hl (k := 2) rfl rfl (by decide) rfl (fun ls hl => ?_)
          refine lv_goto (tgt := 41) hx hb dX10_heard_79 (by decide) ?_
          exact ih41 _ _ _ _ _ _ _ T (lv_sub hl [1, 2, 0] rfl) h
        · replace h := ot_ c13 h
          refine lv_iload_n hx hb dX10_heard_74 rfl (lv_at hl 2 rfl) ?_
          obtain ⟨rfl, rfl⟩ := os2 h
          exact th_iret hQ C hr hk T (Nat.le_of_ble_eq_true rfl) (Nat.le_of_ble_eq_true rfl) dX10_heard_75
  unfold f_X10_heard at h
  refine lv_iload_n hx hb dX10_heard_0 rfl (lv_at hl 1 rfl) ?_
  obtain ⟨v1, e2, h⟩ := ob_ h
  refine th_callS (As := [.int x1]) (rest := []) C T (c_X10_isSheet e2) k_RX10_226 rfl hl.1 rfl (st1 := [.int v1]) rfl (cells1 := 0) rfl (slots1 := 0) rfl (Nat.le_of_ble_eq_true rfl) ⟨Nat.le_of_ble_eq_true rfl, Nat.le_of_ble_eq_true rfl⟩ ⟨Nat.le_of_ble_eq_true rfl, Nat.le_of_ble_eq_true rfl⟩ dX10_heard_1 (fun H locs T => ?_)
  refine lv_if_ne (tgt := 10) hx hb dX10_heard_4 (by decide) (fun c3 => ?_) (fun c3 => ?_)
  · replace h := of_ c3 h
    refine lv_aload_n hx hb dX10_heard_10 rfl (lv_at hl 0 rfl) ?_
    obtain ⟨a4, e5, h⟩ := ob_ h
    refine g_RX10_54 C T e5 dX10_heard_11 ?_
    refine lv_iload_n hx hb dX10_heard_14 rfl (lv_at hl 1 rfl) ?_
    obtain ⟨a6, e7, h⟩ := ob_ h
    refine th_aald C T 15 e7 (by decide) rfl dX10_heard_15 ?_
    refine lv_astore_n (lv' := [(2, .ref a6), (0, .ref t), (1, .int x1)]) hx hb dX10_heard_16 rfl hl (by decide) rfl (fun ls hl => ?_)
    refine lv_aload_n hx hb dX10_heard_17 rfl (lv_at hl 0 rfl) ?_
    obtain ⟨k8, h⟩ := oc_ h
    obtain ⟨v9, e10, h⟩ := ob_ h
    refine th_callV (As := []) (rest := []) C T (c_X6_isMissing e10) k_RX10_229 6 rfl rfl (by decide) k8 rfl hl.1 rfl (st1 := [.int v9]) rfl (cells1 := 0) rfl (slots1 := 0) rfl (Nat.le_of_ble_eq_true rfl) ⟨Nat.le_of_ble_eq_true rfl, Nat.le_of_ble_eq_true rfl⟩ ⟨Nat.le_of_ble_eq_true rfl, Nat.le_of_ble_eq_true rfl⟩ dX10_heard_18 (fun H locs T => ?_)
    refine lv_if_eq (tgt := 27) hx hb dX10_heard_21 (by decide) (fun c11 => ?_) (fun c11 => ?_)
    · replace h := ot_ c11 h
      refine lv_aload_n hx hb dX10_heard_27 rfl (lv_at hl 0 rfl) ?_
      obtain ⟨v12, e13, h⟩ := ob_ h
      refine g_RX10_233 C T e13 dX10_heard_28 ?_
      refine lv_iconst (v := 2) hx hb dX10_heard_31 (by decide) ?_
      refine th_irem C dX10_heard_32 (by decide) ?_
      refine lv_if_eq (tgt := 39) hx hb dX10_heard_33 (by decide) (fun c14 => ?_) (fun c14 => ?_)
      · replace h := ot_ c14 h
        refine lv_iconst (v := 0) hx hb dX10_heard_39 (by decide) ?_
        refine lv_istore_n (lv' := [(3, .int 0), (2, .ref a6), (0, .ref t), (1, .int x1)]) hx hb dX10_heard_40 rfl hl (by decide) rfl (fun ls hl => ?_)
        exact J41 fu _ _ _ _ _ _ _ T (lv_sub hl [2, 1, 0] rfl) h
      · replace h := of_ c14 h
        refine lv_bipush (v := -2) hx hb dX10_heard_36 (by decide) ?_
        obtain ⟨rfl, rfl⟩ := os2 h
        exact th_iret hQ C hr hk T (Nat.le_of_ble_eq_true rfl) (Nat.le_of_ble_eq_true rfl) dX10_heard_38
    · replace h := of_ c11 h
      refine lv_bipush (v := -11) hx hb dX10_heard_24 (by decide) ?_
      obtain ⟨rfl, rfl⟩ := os2 h
      exact th_iret hQ C hr hk T (Nat.le_of_ble_eq_true rfl) (Nat.le_of_ble_eq_true rfl) dX10_heard_26
  · replace h := ot_ c3 h
    refine lv_bipush (v := -2) hx hb dX10_heard_7 (by decide) ?_
    obtain ⟨rfl, rfl⟩ := os2 h
    exact th_iret hQ C hr hk T (Nat.le_of_ble_eq_true rfl) (Nat.le_of_ble_eq_true rfl) dX10_heard_9
set_option maxRecDepth 100000 in
set_option maxHeartbeats 4000000 in
theorem c_X10_where {l : Launch} {G : th_G} {σ : th_S} {μ : th_M} {t : Nat} {x1 : Int32} {x2 : Int32} {r : Int32} {μ' : th_M} (h : f_X10_where σ μ t x1 x2 = some (r, μ')) : th_Met l G yX10_where cX10_where 5 (some FieldType.int) { frames := 5, cells := 0, slots := 0, locals := 149 } [.ref t, .int x1, .int x2] σ μ (some (.int r)) σ μ' := by
  refine th_ofW (by decide +kernel) (Nat.le_of_ble_eq_true rfl) ?_
  intro p e s m args below meth c ls Q hQ C hr hk hnm T hl
  have hx := C.1
  have hb := C.2.1
  have C : CallFix p m c cX10_where 5 s args th_ws RX10 := C
  have hl : lv_has ls 5 [(0, .ref t), (1, .int x1), (2, .int x2)] := hl
  have J26 : ∀ (n : Nat) (μ : th_M) (t : Nat) (x1 : Int32) (x2 : Int32) (x3 : Int32) (x4 : Int32) (H : Heap) (locs : List Loc) (ls : Array Slot), th_R G s H locs σ μ → lv_has ls 5 [(0, .ref t), (1, .int x1), (2, .int x2), (3, .int x3), (4, .int x4)] → f_X10_where_b26  n σ μ t x1 x2 x3 x4 = some (r, μ') → W p l e { frames := 5, cells := 0, slots := 0, locals := 149 } s m args below meth c H locs 0 0 Q (F0 m 26 ls []) := by
    intro n
    induction n with
    | zero => intro μ t x1 x2 x3 x4 H locs ls T hl h; unfold f_X10_where_b26 at h; cases h
    | succ n26 ih26 =>
      intro μ t x1 x2 x3 x4 H locs ls T hl h
      unfold f_X10_where_b26 at h
      refine lv_iload hx hb dX10_where_26 (lv_at hl 4 rfl) ?_
      refine lv_bipush (v := 8) hx hb dX10_where_28 (by decide) ?_
      refine lv_icmp_ge (tgt := 74) hx hb dX10_where_30 (by decide) (fun c1 => ?_) (fun c1 => ?_)
      · replace h := ot_ c1 h
        refine lv_iload_n hx hb dX10_where_74 rfl (lv_at hl 3 rfl) ?_
        obtain ⟨rfl, rfl⟩ := os2 h
        exact th_iret hQ C hr hk T (Nat.le_of_ble_eq_true rfl) (Nat.le_of_ble_eq_true rfl) dX10_where_75
      · replace h := of_ c1 h
        refine lv_aload_n hx hb dX10_where_33 rfl (lv_at hl 0 rfl) ?_
        refine lv_iload_n hx hb dX10_where_34 rfl (lv_at hl 1 rfl) ?_
        refine lv_bipush (v := 8) hx hb dX10_where_35 (by decide) ?_
        refine lv_iload_n hx hb dX10_where_37 rfl (lv_at hl 2 rfl) ?_
        refine lv_imul hx hb dX10_where_38 ?_
        refine lv_iload hx hb dX10_where_39 (lv_at hl 4 rfl) ?_
        refine lv_iadd hx hb dX10_where_41 ?_
        refine lv_aload_n hx hb dX10_where_42 rfl (lv_at hl 0 rfl) ?_
        obtain ⟨a2, e3, h⟩ := ob_ h
        refine g_RX10_15 C T e3 dX10_where_43 ?_
        refine lv_bipush (v := 9) hx hb dX10_where_46 (by decide) ?_
        obtain ⟨v4, e5, h⟩ := ob_ h
        refine th_ialdn C T e5 (by decide) (by decide) dX10_where_48 ?_
        refine lv_aload_n hx hb dX10_where_49 rfl (lv_at hl 0 rfl) ?_
        obtain ⟨a6, e7, h⟩ := ob_ h
        refine g_RX10_15 C T e7 dX10_where_50 ?_
        refine lv_iconst (v := 5) hx hb dX10_where_53 (by decide) ?_
        obtain ⟨v8, e9, h⟩ := ob_ h
        refine th_ialdn C T e9 (by decide) (by decide) dX10_where_54 ?_
        obtain ⟨k10, h⟩ := oc_ h
        obtain ⟨v11, μ12, e13, h⟩ := ob2 h
        refine th_callV (As := [.int x1, .int ((8 * x2) + x4), .int v4, .int v8]) (rest := []) C T (c_X10_wouldCome e13) k_RX10_172 10 rfl rfl (by decide) k10 rfl hl.1 rfl (st1 := [.int v11]) rfl (cells1 := 0) rfl (slots1 := 0) rfl (Nat.le_of_ble_eq_true rfl) ⟨Nat.le_of_ble_eq_true rfl, Nat.le_of_ble_eq_true rfl⟩ ⟨Nat.le_of_ble_eq_true rfl, Nat.le_of_ble_eq_true rfl⟩ dX10_where_55 (fun H locs T => ?_)
        refine lv_if_eq (tgt := 68) hx hb dX10_where_58 (by decide) (fun c14 => ?_) (fun c14 => ?_)
        · replace h := ot_ c14 h
          refine lv_iinc (v := x4 + 1) (lv' := [(4, .int (x4 + 1)), (0, .ref t), (1, .int x1), (2, .int x2), (3, .int x3)]) hx hb dX10_where_68 hl (k := 4) rfl rfl (by decide) rfl (fun ls hl => ?_)
          refine lv_goto (tgt := 26) hx hb dX10_where_71 (by decide) ?_
          exact ih26 _ _ _ _ _ _ _ _ _ T (lv_sub hl [1, 2, 3, 4, 0] rfl) h
        · replace h := of_ c14 h
          refine lv_iload_n hx hb dX10_where_61 rfl (lv_at hl 3 rfl) ?_
          refine lv_iconst (v := 1) hx hb dX10_where_62 (by decide) ?_
          refine lv_iload hx hb dX10_where_63 (lv_at hl 4 rfl) ?_
          refine th_ishl C dX10_where_65 ?_
          refine lv_ior hx hb dX10_where_66 ?_
          refine lv_istore_n (lv' := [(3, .int (x3 ||| (jshl 1 x4))), (0, .ref t), (1, .int x1), (2, .int x2), (4, .int x4)]) hx hb dX10_where_67 rfl hl (by decide) rfl (fun ls hl => ?_)
          refine lv_iinc (v := x4 + 1) (lv' := [(4, .int (x4 + 1)), (3, .int (x3 ||| (jshl 1 x4))), (0, .ref t), (1, .int x1), (2, .int x2)]) hx hb dX10_where_68 hl (k := 4) rfl rfl (by decide) rfl (fun ls hl => ?_)
          refine lv_goto (tgt := 26) hx hb dX10_where_71 (by decide) ?_
          exact ih26 _ _ _ _ _ _ _ _ _ T (lv_sub hl [2, 3, 4, 1, 0] rfl) h
  unfold f_X10_where at h
  refine lv_aload_n hx hb dX10_where_0 rfl (lv_at hl 0 rfl) ?_
  refine lv_iload_n hx hb dX10_where_1 rfl (lv_at hl 1 rfl) ?_
  obtain ⟨k1, h⟩ := oc_ h
  obtain ⟨v2, e3, h⟩ := ob_ h
  refine th_callV (As := [.int x1]) (rest := []) C T (c_X10_isBoat e3) k_RX10_99 10 rfl rfl (by decide) k1 rfl hl.1 rfl (st1 := [.int v2]) rfl (cells1 := 0) rfl (slots1 := 0) rfl (Nat.le_of_ble_eq_true rfl) ⟨Nat.le_of_ble_eq_true rfl, Nat.le_of_ble_eq_true rfl⟩ ⟨Nat.le_of_ble_eq_true rfl, Nat.le_of_ble_eq_true rfl⟩ dX10_where_2 (fun H locs T => ?_)
  refine lv_if_eq (tgt := 18) hx hb dX10_where_5 (by decide) (fun c4 => ?_) (fun c4 => ?_)
  · replace h := ot_ c4 h
    refine lv_bipush (v := -2) hx hb dX10_where_18 (by decide) ?_
    obtain ⟨rfl, rfl⟩ := os2 h
    exact th_iret hQ C hr hk T (Nat.le_of_ble_eq_true rfl) (Nat.le_of_ble_eq_true rfl) dX10_where_20
  · replace h := of_ c4 h
    refine lv_iload_n hx hb dX10_where_8 rfl (lv_at hl 2 rfl) ?_
    refine lv_if_lt (tgt := 18) hx hb dX10_where_9 (by decide) (fun c5 => ?_) (fun c5 => ?_)
    · replace h := ot_ c5 h
      refine lv_bipush (v := -2) hx hb dX10_where_18 (by decide) ?_
      obtain ⟨rfl, rfl⟩ := os2 h
      exact th_iret hQ C hr hk T (Nat.le_of_ble_eq_true rfl) (Nat.le_of_ble_eq_true rfl) dX10_where_20
    · replace h := of_ c5 h
      refine lv_iload_n hx hb dX10_where_12 rfl (lv_at hl 2 rfl) ?_
      refine lv_bipush (v := 6) hx hb dX10_where_13 (by decide) ?_
      refine lv_icmp_lt (tgt := 21) hx hb dX10_where_15 (by decide) (fun c6 => ?_) (fun c6 => ?_)
      · replace h := ot_ c6 h
        refine lv_iconst (v := 0) hx hb dX10_where_21 (by decide) ?_
        refine lv_istore_n (lv' := [(3, .int 0), (0, .ref t), (1, .int x1), (2, .int x2)]) hx hb dX10_where_22 rfl hl (by decide) rfl (fun ls hl => ?_)
        refine lv_iconst (v := 0) hx hb dX10_where_23 (by decide) ?_
        refine lv_istore (lv' := [(4, .int 0), (3, .int 0), (0, .ref t), (1, .int x1), (2, .int x2)]) hx hb dX10_where_24 hl (by decide) rfl (fun ls hl => ?_)
        exact J26 fu _ _ _ _ _ _ _ _ _ T (lv_sub hl [2, 3, 4, 1, 0] rfl) h
      · replace h := of_ c6 h
        refine lv_bipush (v := -2) hx hb dX10_where_18 (by decide) ?_
        obtain ⟨rfl, rfl⟩ := os2 h
        exact th_iret hQ C hr hk T (Nat.le_of_ble_eq_true rfl) (Nat.le_of_ble_eq_true rfl) dX10_where_20
set_option maxRecDepth 100000 in
set_option maxHeartbeats 4000000 in
theorem c_X10_drawnWind {l : Launch} {G : th_G} {σ : th_S} {μ : th_M} {x0 : Int32} {r : Int32} (h : f_X10_drawnWind x0 = some r) : th_Met l G yX10_drawnWind cX10_drawnWind 2 (some FieldType.int) { frames := 0, cells := 0, slots := 0, locals := 0 } [.int x0] σ μ (some (.int r)) σ μ := by
  refine th_ofW (by decide +kernel) (Nat.le_of_ble_eq_true rfl) ?_
  intro p e s m args below meth c ls Q hQ C hr hk hnm T hl
  have hx := C.1
  have hb := C.2.1
  have C : CallFix p m c cX10_drawnWind 2 s args th_ws RX10 := C
  have hl : lv_has ls 2 [(0, .int x0)] := hl
  unfold f_X10_drawnWind at h
  refine lv_iload_n hx hb dX10_drawnWind_0 rfl (lv_at hl 0 rfl) ?_
  refine lv_ldcw hx hb C.2.2.2.1 (C.2.2.2.2 _ w_760) dX10_drawnWind_1 ?_
  refine lv_imul hx hb dX10_drawnWind_4 ?_
  refine lv_sipush (v := 12345) hx hb dX10_drawnWind_5 (by decide) ?_
  refine lv_iadd hx hb dX10_drawnWind_8 ?_
  refine lv_istore_n (lv' := [(1, .int ((x0 * 1103515245) + 12345)), (0, .int x0)]) hx hb dX10_drawnWind_9 rfl hl (by decide) rfl (fun ls hl => ?_)
  refine lv_iload_n hx hb dX10_drawnWind_10 rfl (lv_at hl 0 rfl) ?_
  refine lv_bipush (v := 10) hx hb dX10_drawnWind_11 (by decide) ?_
  refine lv_iushr hx hb dX10_drawnWind_13 rfl ?_
  refine lv_bipush (v := 10) hx hb dX10_drawnWind_14 (by decide) ?_
  refine th_irem C dX10_drawnWind_16 (by decide) ?_
  obtain rfl := os1 h
  exact th_iret hQ C hr hk T (Nat.le_of_ble_eq_true rfl) (Nat.le_of_ble_eq_true rfl) dX10_drawnWind_17
set_option maxRecDepth 100000 in
set_option maxHeartbeats 4000000 in
theorem c_X10_drawn {l : Launch} {G : th_G} {σ : th_S} {μ : th_M} {t : Nat} {x1 : Int32} {r : Int32} {μ' : th_M} (h : f_X10_drawn σ μ t x1 = some (r, μ')) : th_Met l G yX10_drawn cX10_drawn 5 (some FieldType.int) { frames := 5, cells := 0, slots := 0, locals := 149 } [.ref t, .int x1] σ μ (some (.int r)) σ μ' := by
  refine th_ofW (by decide +kernel) (Nat.le_of_ble_eq_true rfl) ?_
  intro p e s m args below meth c ls Q hQ C hr hk hnm T hl
  have hx := C.1
  have hb := C.2.1
  have C : CallFix p m c cX10_drawn 5 s args th_ws RX10 := C
  have hl : lv_has ls 5 [(0, .ref t), (1, .int x1)] := hl
  have J10 : ∀ (n : Nat) (μ : th_M) (t : Nat) (x2 : Int32) (x3 : Int32) (x4 : Int32) (H : Heap) (locs : List Loc) (ls : Array Slot), th_R G s H locs σ μ → lv_has ls 5 [(0, .ref t), (2, .int x2), (3, .int x3), (4, .int x4)] → f_X10_drawn_b10  n σ μ t x2 x3 x4 = some (r, μ') → W p l e { frames := 5, cells := 0, slots := 0, locals := 149 } s m args below meth c H locs 0 0 Q (F0 m 10 ls []) := by
    intro n
    induction n with
    | zero => intro μ t x2 x3 x4 H locs ls T hl h; unfold f_X10_drawn_b10 at h; cases h
    | succ n10 ih10 =>
      intro μ t x2 x3 x4 H locs ls T hl h
      unfold f_X10_drawn_b10 at h
      refine lv_iload hx hb dX10_drawn_10 (lv_at hl 3 rfl) ?_
      refine lv_aload_n hx hb dX10_drawn_12 rfl (lv_at hl 0 rfl) ?_
      obtain ⟨v1, e2, h⟩ := ob_ h
      refine g_RX10_92 C T e2 dX10_drawn_13 ?_
      refine lv_icmp_ge (tgt := 66) hx hb dX10_drawn_16 (by decide) (fun c3 => ?_) (fun c3 => ?_)
      · replace h := ot_ c3 h
        refine lv_iload_n hx hb dX10_drawn_66 rfl (lv_at hl 2 rfl) ?_
        obtain ⟨rfl, rfl⟩ := os2 h
        exact th_iret hQ C hr hk T (Nat.le_of_ble_eq_true rfl) (Nat.le_of_ble_eq_true rfl) dX10_drawn_67
      · replace h := of_ c3 h
        refine lv_aload_n hx hb dX10_drawn_19 rfl (lv_at hl 0 rfl) ?_
        refine lv_iload hx hb dX10_drawn_20 (lv_at hl 3 rfl) ?_
        obtain ⟨k4, h⟩ := oc_ h
        obtain ⟨v5, e6, h⟩ := ob_ h
        refine th_callV (As := [.int x4]) (rest := []) C T (c_X10_isOnTheLake e6) k_RX10_163 10 rfl rfl (by decide) k4 rfl hl.1 rfl (st1 := [.int v5]) rfl (cells1 := 0) rfl (slots1 := 0) rfl (Nat.le_of_ble_eq_true rfl) ⟨Nat.le_of_ble_eq_true rfl, Nat.le_of_ble_eq_true rfl⟩ ⟨Nat.le_of_ble_eq_true rfl, Nat.le_of_ble_eq_true rfl⟩ dX10_drawn_22 (fun H locs T => ?_)
        refine lv_if_eq (tgt := 60) hx hb dX10_drawn_25 (by decide) (fun c7 => ?_) (fun c7 => ?_)
        · replace h := ot_ c7 h
          refine lv_iinc (v := x4 + 1) (lv' := [(4, .int (x4 + 1)), (0, .ref t), (2, .int x2), (3, .int x3)]) hx hb dX10_drawn_60 hl (k := 3) rfl rfl (by decide) rfl (fun ls hl => ?_)
          refine lv_goto (tgt := 10) hx hb dX10_drawn_63 (by decide) ?_
          exact ih10 _ _ _ _ _ _ _ _ T (lv_sub hl [1, 2, 3, 0] rfl) h
        · replace h := of_ c7 h
          refine lv_aload_n hx hb dX10_drawn_28 rfl (lv_at hl 0 rfl) ?_
          refine lv_iload hx hb dX10_drawn_29 (lv_at hl 3 rfl) ?_
          refine lv_aload_n hx hb dX10_drawn_31 rfl (lv_at hl 0 rfl) ?_
          obtain ⟨a8, e9, h⟩ := ob_ h
          refine g_RX10_11 C T e9 dX10_drawn_32 ?_
          refine lv_iload hx hb dX10_drawn_35 (lv_at hl 3 rfl) ?_
          obtain ⟨a10, e11, h⟩ := ob_ h
          refine th_aald C T 13 e11 (by decide) rfl dX10_drawn_37 ?_
          obtain ⟨a12, e13, h⟩ := ob_ h
          refine g_RX10_102 C T e13 dX10_drawn_38 ?_
          refine lv_iconst (v := 0) hx hb dX10_drawn_41 (by decide) ?_
          obtain ⟨v14, e15, h⟩ := ob_ h
          refine th_ialdn C T e15 (by decide) (by decide) dX10_drawn_42 ?_
          refine lv_aload_n hx hb dX10_drawn_43 rfl (lv_at hl 0 rfl) ?_
          obtain ⟨a16, e17, h⟩ := ob_ h
          refine g_RX10_15 C T e17 dX10_drawn_44 ?_
          refine lv_bipush (v := 9) hx hb dX10_drawn_47 (by decide) ?_
          obtain ⟨v18, e19, h⟩ := ob_ h
          refine th_ialdn C T e19 (by decide) (by decide) dX10_drawn_49 ?_
          refine lv_iload_n hx hb dX10_drawn_50 rfl (lv_at hl 1 rfl) ?_
          obtain ⟨v20, μ21, e22, h⟩ := ob2 h
          refine th_callV (As := [.int x4, .int v14, .int v18, .int x2]) (rest := []) C T (c_X10_wouldCome e22) k_RX10_172 10 rfl rfl (by decide) k4 rfl hl.1 rfl (st1 := [.int v20]) rfl (cells1 := 0) rfl (slots1 := 0) rfl (Nat.le_of_ble_eq_true rfl) ⟨Nat.le_of_ble_eq_true rfl, Nat.le_of_ble_eq_true rfl⟩ ⟨Nat.le_of_ble_eq_true rfl, Nat.le_of_ble_eq_true rfl⟩ dX10_drawn_51 (fun H locs T => ?_)
          refine lv_if_eq (tgt := 60) hx hb dX10_drawn_54 (by decide) (fun c23 => ?_) (fun c23 => ?_)
          · replace h := ot_ c23 h
            refine lv_iinc (v := x4 + 1) (lv' := [(4, .int (x4 + 1)), (0, .ref t), (2, .int x2), (3, .int x3)]) hx hb dX10_drawn_60 hl (k := 3) rfl rfl (by decide) rfl (fun ls hl => ?_)
            refine lv_goto (tgt := 10) hx hb dX10_drawn_63 (by decide) ?_
            exact ih10 _ _ _ _ _ _ _ _ T (lv_sub hl [1, 2, 3, 0] rfl) h
          · replace h := of_ c23 h
            refine lv_iinc (v := x3 + 1) (lv' := [(3, .int (x3 + 1)), (0, .ref t), (2, .int x2), (4, .int x4)]) hx hb dX10_drawn_57 hl (k := 2) rfl rfl (by decide) rfl (fun ls hl => ?_)
            refine lv_iinc (v := x4 + 1) (lv' := [(4, .int (x4 + 1)), (3, .int (x3 + 1)), (0, .ref t), (2, .int x2)]) hx hb dX10_drawn_60 hl (k := 3) rfl rfl (by decide) rfl (fun ls hl => ?_)
            refine lv_goto (tgt := 10) hx hb dX10_drawn_63 (by decide) ?_
            exact ih10 _ _ _ _ _ _ _ _ T (lv_sub hl [2, 3, 1, 0] rfl) h
  unfold f_X10_drawn at h
  refine lv_iload_n hx hb dX10_drawn_0 rfl (lv_at hl 1 rfl) ?_
  obtain ⟨v1, e2, h⟩ := ob_ h
  refine th_callS (As := [.int x1]) (rest := []) C T (c_X10_drawnWind e2) k_RX10_240 rfl hl.1 rfl (st1 := [.int v1]) rfl (cells1 := 0) rfl (slots1 := 0) rfl (Nat.le_of_ble_eq_true rfl) ⟨Nat.le_of_ble_eq_true rfl, Nat.le_of_ble_eq_true rfl⟩ ⟨Nat.le_of_ble_eq_true rfl, Nat.le_of_ble_eq_true rfl⟩ dX10_drawn_1 (fun H locs T => ?_)
  refine lv_istore_n (lv' := [(2, .int v1), (0, .ref t), (1, .int x1)]) hx hb dX10_drawn_4 rfl hl (by decide) rfl (fun ls hl => ?_)
  refine lv_iconst (v := 0) hx hb dX10_drawn_5 (by decide) ?_
  refine lv_istore_n (lv' := [(3, .int 0), (2, .int v1), (0, .ref t), (1, .int x1)]) hx hb dX10_drawn_6 rfl hl (by decide) rfl (fun ls hl => ?_)
  refine lv_iconst (v := 0) hx hb dX10_drawn_7 (by decide) ?_
  refine lv_istore (lv' := [(4, .int 0), (3, .int 0), (2, .int v1), (0, .ref t), (1, .int x1)]) hx hb dX10_drawn_8 hl (by decide) rfl (fun ls hl => ?_)
  exact J10 fu _ _ _ _ _ _ _ _ T (lv_sub hl [3, 2, 1, 0] rfl) h
