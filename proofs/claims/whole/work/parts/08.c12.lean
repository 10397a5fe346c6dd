set_option maxRecDepth 100000 in
set_option maxHeartbeats 4000000 in
theorem c_X11_launch {l : Launch} {G : th_G} {σ : th_S} {μ : th_M} {t : Nat} {x1 : Int32} {r : Int32} {μ' : th_M} (h : f_X11_launch σ μ t x1 = some (r, μ')) : th_Met l G yX11_launch cX11_launch 4 (some FieldType.int) { frames := 24, cells := 0, slots := 0, locals := 689 } [.ref t, .int x1] σ μ (some (.int r)) σ μ' := by
  refine th_ofW (by decide +kernel) (Nat.le_of_ble_eq_true rfl) ?_
  intro p e s m args below meth c ls Q hQ C hr hk hnm T hl
  have hx := C.1
  have hb := C.2.1
  have C : CallFix p m c cX11_launch 4 s args th_ws RX11 := C
  have hl : lv_has ls 4 [(0, .ref t), (1, .int x1)] := hl
  have J25 : ∀ (n : Nat) (μ : th_M) (t : Nat) (x1 : Int32) (x2 : Int32) (x3 : Int32) (H : Heap) (locs : List Loc) (ls : Array Slot), th_R G s H locs σ μ → lv_has ls 4 [(0, .ref t), (1, .int x1), (2, .int x2), (3, .int x3)] → f_X11_launch_b25  n σ μ t x1 x2 x3 = some (r, μ') → W p l e { frames := 24, cells := 0, slots := 0, locals := 689 } s m args below meth c H locs 0 0 Q (F0 m 25 ls []) := by
    intro n
    induction n with
    | zero => intro μ t x1 x2 x3 H locs ls T hl h; unfold f_X11_launch_b25 at h; cases h
    | succ n25 ih25 =>
      intro μ t x1 x2 x3 H locs ls T hl h
      unfold f_X11_launch_b25 at h
      refine lv_iload_n hx hb dX11_launch_25 rfl (lv_at hl 3 rfl) ?_
      refine lv_aload_n hx hb dX11_launch_26 rfl (lv_at hl 0 rfl) ?_
      obtain ⟨v1, e2, h⟩ := ob_ h
      refine g_RX11_99 C T e2 dX11_launch_27 ?_
      refine lv_icmp_ge (tgt := 57) hx hb dX11_launch_30 (by decide) (fun c3 => ?_) (fun c3 => ?_)
      · replace h := ot_ c3 h
        refine lv_iload_n hx hb dX11_launch_57 rfl (lv_at hl 2 rfl) ?_
        obtain ⟨rfl, rfl⟩ := os2 h
        exact th_iret hQ C hr hk T (Nat.le_of_ble_eq_true rfl) (Nat.le_of_ble_eq_true rfl) dX11_launch_58
      · replace h := of_ c3 h
        refine lv_iload_n hx hb dX11_launch_33 rfl (lv_at hl 1 rfl) ?_
        refine lv_iload_n hx hb dX11_launch_34 rfl (lv_at hl 3 rfl) ?_
        refine th_ishr C dX11_launch_35 ?_
        refine lv_iconst (v := 1) hx hb dX11_launch_36 (by decide) ?_
        refine lv_iand hx hb dX11_launch_37 ?_
        refine lv_iconst (v := 1) hx hb dX11_launch_38 (by decide) ?_
        refine lv_icmp_ne (tgt := 51) hx hb dX11_launch_39 (by decide) (fun c4 => ?_) (fun c4 => ?_)
        · replace h := of_ c4 h
          refine lv_iinc (v := x3 + 1) (lv' := [(3, .int (x3 + 1)), (0, .ref t), (1, .int x1), (2, .int x2)]) hx hb dX11_launch_51 hl (k := 3) rfl rfl (by decide) rfl (fun ls hl => ?_)
          refine lv_goto (tgt := 25) hx hb dX11_launch_54 (by decide) ?_
          exact ih25 _ _ _ _ _ _ _ _ T (lv_sub hl [1, 2, 3, 0] rfl) h
        · replace h := ot_ c4 h
          refine lv_aload_n hx hb dX11_launch_42 rfl (lv_at hl 0 rfl) ?_
          refine lv_iload_n hx hb dX11_launch_43 rfl (lv_at hl 3 rfl) ?_
          refine lv_aload_n hx hb dX11_launch_44 rfl (lv_at hl 0 rfl) ?_
          obtain ⟨v5, e6, h⟩ := ob_ h
          refine g_RX11_142 C T e6 dX11_launch_45 ?_
          obtain ⟨k7, h⟩ := oc_ h
          obtain ⟨μ8, e9, h⟩ := ob_ h
          refine th_callV (As := [.int x3, .int v5]) (rest := []) C T (c_X11_comesIn e9) k_RX11_252 11 rfl rfl (by decide) k7 rfl hl.1 rfl (st1 := []) rfl (cells1 := 0) rfl (slots1 := 0) rfl (Nat.le_of_ble_eq_true rfl) ⟨Nat.le_of_ble_eq_true rfl, Nat.le_of_ble_eq_true rfl⟩ ⟨Nat.le_of_ble_eq_true rfl, Nat.le_of_ble_eq_true rfl⟩ dX11_launch_48 (fun H locs T => ?_)
          refine lv_iinc (v := x3 + 1) (lv' := [(3, .int (x3 + 1)), (0, .ref t), (1, .int x1), (2, .int x2)]) hx hb dX11_launch_51 hl (k := 3) rfl rfl (by decide) rfl (fun ls hl => ?_)
          refine lv_goto (tgt := 25) hx hb dX11_launch_54 (by decide) ?_
          exact ih25 _ _ _ _ _ _ _ _ T (lv_sub hl [1, 2, 3, 0] rfl) h
  unfold f_X11_launch at h
  refine lv_aload_n hx hb dX11_launch_0 rfl (lv_at hl 0 rfl) ?_
  refine lv_iload_n hx hb dX11_launch_1 rfl (lv_at hl 1 rfl) ?_
  obtain ⟨k1, h⟩ := oc_ h
  obtain ⟨v2, e3, h⟩ := ob_ h
  refine th_callV (As := [.int x1]) (rest := []) C T (c_X11_onTheLake e3) k_RX11_269 11 rfl rfl (by decide) k1 rfl hl.1 rfl (st1 := [.int v2]) rfl (cells1 := 0) rfl (slots1 := 0) rfl (Nat.le_of_ble_eq_true rfl) ⟨Nat.le_of_ble_eq_true rfl, Nat.le_of_ble_eq_true rfl⟩ ⟨Nat.le_of_ble_eq_true rfl, Nat.le_of_ble_eq_true rfl⟩ dX11_launch_2 (fun H locs T => ?_)
  refine lv_if_ne (tgt := 11) hx hb dX11_launch_5 (by decide) (fun c4 => ?_) (fun c4 => ?_)
  · replace h := of_ c4 h
    refine lv_aload_n hx hb dX11_launch_11 rfl (lv_at hl 0 rfl) ?_
    refine lv_iload_n hx hb dX11_launch_12 rfl (lv_at hl 1 rfl) ?_
    obtain ⟨v5, μ6, e7, h⟩ := ob2 h
    refine th_callV (As := [.int x1]) (rest := []) C T (c_X11_fetches e7) k_RX11_272 11 rfl rfl (by decide) k1 rfl hl.1 rfl (st1 := [.int v5]) rfl (cells1 := 0) rfl (slots1 := 0) rfl (Nat.le_of_ble_eq_true rfl) ⟨Nat.le_of_ble_eq_true rfl, Nat.le_of_ble_eq_true rfl⟩ ⟨Nat.le_of_ble_eq_true rfl, Nat.le_of_ble_eq_true rfl⟩ dX11_launch_13 (fun H locs T => ?_)
    refine lv_istore_n (lv' := [(2, .int v5), (0, .ref t), (1, .int x1)]) hx hb dX11_launch_16 rfl hl (by decide) rfl (fun ls hl => ?_)
    refine lv_aload_n hx hb dX11_launch_17 rfl (lv_at hl 1 rfl) ?_
    refine lv_iload_n hx hb dX11_launch_18 rfl (lv_at hl 0 rfl) ?_
    obtain ⟨v8, μ9, e10, h⟩ := ob2 h
    refine th_callV (As := [.int v5]) (rest := []) C T (c_X11_passes e10) k_RX11_256 11 rfl rfl (by decide) k1 rfl hl.1 rfl (st1 := [.int v8]) rfl (cells1 := 0) rfl (slots1 := 0) rfl (Nat.le_of_ble_eq_true rfl) ⟨Nat.le_of_ble_eq_true rfl, Nat.le_of_ble_eq_true rfl⟩ ⟨Nat.le_of_ble_eq_true rfl, Nat.le_of_ble_eq_true rfl⟩ dX11_launch_19 (fun H locs T => ?_)
    refine lv_pop hx hb dX11_launch_22 rfl ?_
    refine lv_iconst (v := 0) hx hb dX11_launch_23 (by decide) ?_
    refine lv_istore_n (lv' := [(3, .int 0), (2, .int v5), (0, .ref t), (1, .int x1)]) hx hb dX11_launch_24 rfl hl (by decide) rfl (fun ls hl => ?_)
    exact J25 fu _ _ _ _ _ _ _ _ T (lv_sub hl [2, 3, 1, 0] rfl) h
  · replace h := ot_ c4 h
    refine lv_bipush (v := -2) hx hb dX11_launch_8 (by decide) ?_
    obtain ⟨rfl, rfl⟩ := os2 h
    exact th_iret hQ C hr hk T (Nat.le_of_ble_eq_true rfl) (Nat.le_of_ble_eq_true rfl) dX11_launch_10
set_option maxRecDepth 100000 in
set_option maxHeartbeats 4000000 in
theorem c_X11_one_ {l : Launch} {G : th_G} {σ : th_S} {μ : th_M} {t : Nat} {x1 : Int32} {r : Int32} {μ' : th_M} (h : f_X11_one_ σ μ t x1 = some (r, μ')) : th_Met l G yX11_one_ cX11_one_ 6 (some FieldType.int) { frames := 24, cells := 0, slots := 0, locals := 689 } [.ref t, .int x1] σ μ (some (.int r)) σ μ' := by
  refine th_ofW (by decide +kernel) (Nat.le_of_ble_eq_true rfl) ?_
  intro p e s m args below meth c ls Q hQ C hr hk hnm T hl
  have hx := C.1
  have hb := C.2.1
  have C : CallFix p m c cX11_one_ 6 s args th_ws RX11 := C
  have hl : lv_has ls 6 [(0, .ref t), (1, .int x1)] := hl
  have J19 : ∀ (n : Nat) (μ : th_M) (t : Nat) (x1 : Int32) (x2 : Int32) (x3 : Int32) (x4 : Int32) (H : Heap) (locs : List Loc) (ls : Array Slot), th_R G s H locs σ μ → lv_has ls 6 [(0, .ref t), (1, .int x1), (2, .int x2), (3, .int x3), (4, .int x4)] → f_X11_one__b19  n σ μ t x1 x2 x3 x4 = some (r, μ') → W p l e { frames := 24, cells := 0, slots := 0, locals := 689 } s m args below meth c H locs 0 0 Q (F0 m 19 ls []) := by
    intro n
    induction n with
    | zero => intro μ t x1 x2 x3 x4 H locs ls T hl h; unfold f_X11_one__b19 at h; cases h
    | succ n19 ih19 =>
      intro μ t x1 x2 x3 x4 H locs ls T hl h
      unfold f_X11_one__b19 at h
      refine lv_iload hx hb dX11_one__19 (lv_at hl 4 rfl) ?_
      refine lv_aload_n hx hb dX11_one__21 rfl (lv_at hl 0 rfl) ?_
      obtain ⟨v1, e2, h⟩ := ob_ h
      refine g_RX11_99 C T e2 dX11_one__22 ?_
      refine lv_icmp_ge (tgt := 76) hx hb dX11_one__25 (by decide) (fun c3 => ?_) (fun c3 => ?_)
      · replace h := ot_ c3 h
        refine lv_iload_n hx hb dX11_one__76 rfl (lv_at hl 1 rfl) ?_
        refine lv_if_ne (tgt := 84) hx hb dX11_one__77 (by decide) (fun c4 => ?_) (fun c4 => ?_)
        · replace h := of_ c4 h
          refine lv_iload_n hx hb dX11_one__84 rfl (lv_at hl 3 rfl) ?_
          obtain ⟨rfl, rfl⟩ := os2 h
          exact th_iret hQ C hr hk T (Nat.le_of_ble_eq_true rfl) (Nat.le_of_ble_eq_true rfl) dX11_one__85
        · replace h := ot_ c4 h
          refine lv_iload_n hx hb dX11_one__80 rfl (lv_at hl 2 rfl) ?_
          refine lv_goto (tgt := 85) hx hb dX11_one__81 (by decide) ?_
          obtain ⟨rfl, rfl⟩ := os2 h
          exact th_iret hQ C hr hk T (Nat.le_of_ble_eq_true rfl) (Nat.le_of_ble_eq_true rfl) dX11_one__85
      · replace h := of_ c3 h
        refine lv_aload_n hx hb dX11_one__28 rfl (lv_at hl 0 rfl) ?_
        obtain ⟨a5, e6, h⟩ := ob_ h
        refine g_RX11_25 C T e6 dX11_one__29 ?_
        refine lv_iload hx hb dX11_one__32 (lv_at hl 4 rfl) ?_
        obtain ⟨v7, e8, h⟩ := ob_ h
        refine th_iald C T e8 dX11_one__34 ?_
        refine lv_if_eq (tgt := 41) hx hb dX11_one__35 (by decide) (fun c9 => ?_) (fun c9 => ?_)
        · replace h := ot_ c9 h
          refine lv_aload_n hx hb dX11_one__41 rfl (lv_at hl 0 rfl) ?_
          refine lv_iconst (v := 1) hx hb dX11_one__42 (by decide) ?_
          refine lv_iload hx hb dX11_one__43 (lv_at hl 4 rfl) ?_
          refine th_ishl C dX11_one__45 ?_
          obtain ⟨k10, h⟩ := oc_ h
          obtain ⟨v11, μ12, e13, h⟩ := ob2 h
          refine th_callV (As := [.int (jshl 1 x4)]) (rest := []) C T (c_X11_fetches e13) k_RX11_272 11 rfl rfl (by decide) k10 rfl hl.1 rfl (st1 := [.int v11]) rfl (cells1 := 0) rfl (slots1 := 0) rfl (Nat.le_of_ble_eq_true rfl) ⟨Nat.le_of_ble_eq_true rfl, Nat.le_of_ble_eq_true rfl⟩ ⟨Nat.le_of_ble_eq_true rfl, Nat.le_of_ble_eq_true rfl⟩ dX11_one__46 (fun H locs T => ?_)
          refine lv_istore (lv' := [(5, .int v11), (0, .ref t), (1, .int x1), (2, .int x2), (3, .int x3), (4, .int x4)]) hx hb dX11_one__49 hl (by decide) rfl (fun ls hl => ?_)
          refine lv_iload_n hx hb dX11_one__51 rfl (lv_at hl 3 rfl) ?_
          refine lv_if_lt (tgt := 64) hx hb dX11_one__52 (by decide) (fun c14 => ?_) (fun c14 => ?_)
          · replace h := ot_ c14 h
            refine lv_iload hx hb dX11_one__64 (lv_at hl 5 rfl) ?_
            refine lv_istore_n (lv' := [(2, .int x4), (5, .int v11), (0, .ref t), (1, .int x1), (3, .int x3), (4, .int x4)]) hx hb dX11_one__66 rfl hl (by decide) rfl (fun ls hl => ?_)
            refine lv_iload hx hb dX11_one__67 (lv_at hl 1 rfl) ?_
            refine lv_istore_n (lv' := [(3, .int v11), (2, .int x4), (5, .int v11), (0, .ref t), (1, .int x1), (4, .int x4)]) hx hb dX11_one__69 rfl hl (by decide) rfl (fun ls hl => ?_)
            refine lv_iinc (v := x4 + 1) (lv' := [(4, .int (x4 + 1)), (3, .int v11), (2, .int x4), (5, .int v11), (0, .ref t), (1, .int x1)]) hx hb dX11_one__70 hl (k := 5) rfl rfl (by decide) rfl (fun ls hl => ?_)
            refine lv_goto (tgt := 19) hx hb dX11_one__73 (by decide) ?_
            exact ih19 _ _ _ _ _ _ _ _ _ T (lv_sub hl [4, 5, 2, 1, 0] rfl) h
          · replace h := of_ c14 h
            refine lv_iload hx hb dX11_one__55 (lv_at hl 0 rfl) ?_
            refine lv_iload_n hx hb dX11_one__57 rfl (lv_at hl 4 rfl) ?_
            refine lv_icmp_lt (tgt := 64) hx hb dX11_one__58 (by decide) (fun c15 => ?_) (fun c15 => ?_)
            · replace h := ot_ c15 h
              refine lv_iload hx hb dX11_one__64 (lv_at hl 5 rfl) ?_
              refine lv_istore_n (lv' := [(2, .int x4), (5, .int v11), (0, .ref t), (1, .int x1), (3, .int x3), (4, .int x4)]) hx hb dX11_one__66 rfl hl (by decide) rfl (fun ls hl => ?_)
              refine lv_iload hx hb dX11_one__67 (lv_at hl 1 rfl) ?_
              refine lv_istore_n (lv' := [(3, .int v11), (2, .int x4), (5, .int v11), (0, .ref t), (1, .int x1), (4, .int x4)]) hx hb dX11_one__69 rfl hl (by decide) rfl (fun ls hl => ?_)
              refine lv_iinc (v := x4 + 1) (lv' := [(4, .int (x4 + 1)), (3, .int v11), (2, .int x4), (5, .int v11), (0, .ref t), (1, .int x1)]) hx hb dX11_one__70 hl (k := 5) rfl rfl (by decide) rfl (fun ls hl => ?_)
              refine lv_goto (tgt := 19) hx hb dX11_one__73 (by decide) ?_
              exact ih19 _ _ _ _ _ _ _ _ _ T (lv_sub hl [4, 5, 2, 1, 0] rfl) h
            · replace h := of_ c15 h
              refine lv_goto (tgt := 70) hx hb dX11_one__61 (by decide) ?_
              refine lv_iinc (v := x4 + 1) (lv' := [(4, .int (x4 + 1)), (5, .int v11), (0, .ref t), (1, .int x1), (2, .int x2), (3, .int x3)]) hx hb dX11_one__70 hl (k := 5) rfl rfl (by decide) rfl (fun ls hl => ?_)
              refine lv_goto (tgt := 19) hx hb dX11_one__73 (by decide) ?_
              exact ih19 _ _ _ _ _ _ _ _ _ T (lv_sub hl [2, 3, 4, 5, 0] rfl) h
        · replace h := of_ c9 h
          refine lv_goto (tgt := 70) hx hb dX11_one__38 (by decide) ?_
          refine lv_iinc (v := x4 + 1) (lv' := [(4, .int (x4 + 1)), (0, .ref t), (1, .int x1), (2, .int x2), (3, .int x3)]) hx hb dX11_one__70 hl (k := 4) rfl rfl (by decide) rfl (fun ls hl => ?_)
          refine lv_goto (tgt := 19) hx hb dX11_one__73 (by decide) ?_
          exact ih19 _ _ _ _ _ _ _ _ _ T (lv_sub hl [1, 2, 3, 4, 0] rfl) h
  unfold f_X11_one_ at h
  refine lv_iload_n hx hb dX11_one__0 rfl (lv_at hl 1 rfl) ?_
  refine lv_iconst (v := 0) hx hb dX11_one__1 (by decide) ?_
  refine lv_iconst (v := 1) hx hb dX11_one__2 (by decide) ?_
  obtain ⟨v1, e2, h⟩ := ob_ h
  refine th_callS (As := [.int x1, .int 0, .int 1]) (rest := []) C T (c_X11_within e2) k_RX11_102 rfl hl.1 rfl (st1 := [.int v1]) rfl (cells1 := 0) rfl (slots1 := 0) rfl (Nat.le_of_ble_eq_true rfl) ⟨Nat.le_of_ble_eq_true rfl, Nat.le_of_ble_eq_true rfl⟩ ⟨Nat.le_of_ble_eq_true rfl, Nat.le_of_ble_eq_true rfl⟩ dX11_one__3 (fun H locs T => ?_)
  refine lv_if_ne (tgt := 12) hx hb dX11_one__6 (by decide) (fun c3 => ?_) (fun c3 => ?_)
  · replace h := of_ c3 h
    refine lv_iconst (v := -1) hx hb dX11_one__12 (by decide) ?_
    refine lv_istore_n (lv' := [(2, .int (-1)), (0, .ref t), (1, .int x1)]) hx hb dX11_one__13 rfl hl (by decide) rfl (fun ls hl => ?_)
    refine lv_iconst (v := 0) hx hb dX11_one__14 (by decide) ?_
    refine lv_istore_n (lv' := [(3, .int 0), (2, .int (-1)), (0, .ref t), (1, .int x1)]) hx hb dX11_one__15 rfl hl (by decide) rfl (fun ls hl => ?_)
    refine lv_iconst (v := 0) hx hb dX11_one__16 (by decide) ?_
    refine lv_istore (lv' := [(4, .int 0), (3, .int 0), (2, .int (-1)), (0, .ref t), (1, .int x1)]) hx hb dX11_one__17 hl (by decide) rfl (fun ls hl => ?_)
    exact J19 fu _ _ _ _ _ _ _ _ _ T (lv_sub hl [3, 4, 2, 1, 0] rfl) h
  · replace h := ot_ c3 h
    refine lv_bipush (v := -2) hx hb dX11_one__9 (by decide) ?_
    obtain ⟨rfl, rfl⟩ := os2 h
    exact th_iret hQ C hr hk T (Nat.le_of_ble_eq_true rfl) (Nat.le_of_ble_eq_true rfl) dX11_one__11
set_option maxRecDepth 100000 in
set_option maxHeartbeats 4000000 in
theorem c_X11_thunder {l : Launch} {G : th_G} {σ : th_S} {μ : th_M} {t : Nat} {x1 : Int32} {x2 : Int32} {r : Int32} {μ' : th_M} (h : f_X11_thunder σ μ t x1 x2 = some (r, μ')) : th_Met l G yX11_thunder cX11_thunder 6 (some FieldType.int) { frames := 24, cells := 0, slots := 0, locals := 689 } [.ref t, .int x1, .int x2] σ μ (some (.int r)) σ μ' := by
  refine th_ofW (by decide +kernel) (Nat.le_of_ble_eq_true rfl) ?_
  intro p e s m args below meth c ls Q hQ C hr hk hnm T hl
  have hx := C.1
  have hb := C.2.1
  have C : CallFix p m c cX11_thunder 6 s args th_ws RX11 := C
  have hl : lv_has ls 6 [(0, .ref t), (1, .int x1), (2, .int x2)] := hl
  have J102 : ∀ (n : Nat) (μ : th_M) (t : Nat) (x1 : Int32) (x3 : Int32) (x4 : Int32) (x5 : Int32) (H : Heap) (locs : List Loc) (ls : Array Slot), th_R G s H locs σ μ → lv_has ls 6 [(0, .ref t), (1, .int x1), (3, .int x3), (4, .int x4), (5, .int x5)] → f_X11_thunder_b102  n σ μ t x1 x3 x4 x5 = some (r, μ') → W p l e { frames := 24, cells := 0, slots := 0, locals := 689 } s m args below meth c H locs 0 0 Q (F0 m 102 ls []) := by
    intro n
    induction n with
    | zero => intro μ t x1 x3 x4 x5 H locs ls T hl h; unfold f_X11_thunder_b102 at h; cases h
    | succ n102 ih102 =>
      intro μ t x1 x3 x4 x5 H locs ls T hl h
      unfold f_X11_thunder_b102 at h
      refine lv_iload hx hb dX11_thunder_102 (lv_at hl 4 rfl) ?_
      refine lv_iconst (v := 1) hx hb dX11_thunder_104 (by decide) ?_
      refine lv_aload_n hx hb dX11_thunder_105 rfl (lv_at hl 0 rfl) ?_
      obtain ⟨v1, e2, h⟩ := ob_ h
      refine g_RX11_99 C T e2 dX11_thunder_106 ?_
      refine th_ishl C dX11_thunder_109 ?_
      refine lv_icmp_ge (tgt := 155) hx hb dX11_thunder_110 (by decide) (fun c3 => ?_) (fun c3 => ?_)
      · replace h := ot_ c3 h
        refine lv_iload hx hb dX11_thunder_155 (lv_at hl 3 rfl) ?_
        obtain ⟨rfl, rfl⟩ := os2 h
        exact th_iret hQ C hr hk T (Nat.le_of_ble_eq_true rfl) (Nat.le_of_ble_eq_true rfl) dX11_thunder_157
      · replace h := of_ c3 h
        refine lv_iload hx hb dX11_thunder_113 (lv_at hl 4 rfl) ?_
        refine lv_iload_n hx hb dX11_thunder_115 rfl (lv_at hl 2 rfl) ?_
        refine lv_iconst (v := -1) hx hb dX11_thunder_116 (by decide) ?_
        refine lv_ixor hx hb dX11_thunder_117 ?_
        refine lv_iand hx hb dX11_thunder_118 ?_
        refine lv_if_ne (tgt := 149) hx hb dX11_thunder_119 (by decide) (fun c4 => ?_) (fun c4 => ?_)
        · replace h := of_ c4 h
          refine lv_iinc (v := x5 + 1) (lv' := [(5, .int (x5 + 1)), (0, .ref t), (1, .int x1), (3, .int x3), (4, .int x4)]) hx hb dX11_thunder_149 hl (k := 4) rfl rfl (by decide) rfl (fun ls hl => ?_)
          refine lv_goto (tgt := 102) hx hb dX11_thunder_152 (by decide) ?_
          exact ih102 _ _ _ _ _ _ _ _ _ T (lv_sub hl [1, 2, 3, 4, 0] rfl) h
        · replace h := ot_ c4 h
          refine lv_iload hx hb dX11_thunder_122 (lv_at hl 4 rfl) ?_
          obtain ⟨v5, e6, h⟩ := ob_ h
          refine th_callS (As := [.int x5]) (rest := []) C T (c_J6_bitCount_0f7a4 e6) k_RX11_275 rfl hl.1 rfl (st1 := [.int v5]) rfl (cells1 := 0) rfl (slots1 := 0) rfl (Nat.le_of_ble_eq_true rfl) ⟨Nat.le_of_ble_eq_true rfl, Nat.le_of_ble_eq_true rfl⟩ ⟨Nat.le_of_ble_eq_true rfl, Nat.le_of_ble_eq_true rfl⟩ dX11_thunder_124 (fun H locs T => ?_)
          refine lv_iload hx hb dX11_thunder_127 (lv_at hl 3 rfl) ?_
          refine lv_icmp_le (tgt := 149) hx hb dX11_thunder_129 (by decide) (fun c7 => ?_) (fun c7 => ?_)
          · replace h := ot_ c7 h
            refine lv_iinc (v := x5 + 1) (lv' := [(5, .int (x5 + 1)), (0, .ref t), (1, .int x1), (3, .int x3), (4, .int x4)]) hx hb dX11_thunder_149 hl (k := 4) rfl rfl (by decide) rfl (fun ls hl => ?_)
            refine lv_goto (tgt := 102) hx hb dX11_thunder_152 (by decide) ?_
            exact ih102 _ _ _ _ _ _ _ _ _ T (lv_sub hl [1, 2, 3, 4, 0] rfl) h
          · replace h := of_ c7 h
            refine lv_aload_n hx hb dX11_thunder_132 rfl (lv_at hl 0 rfl) ?_
            refine lv_iload hx hb dX11_thunder_133 (lv_at hl 4 rfl) ?_
            obtain ⟨k8, h⟩ := oc_ h
            obtain ⟨v9, μ10, e11, h⟩ := ob2 h
            refine th_callV (As := [.int x5]) (rest := []) C T (c_X11_fetches e11) k_RX11_272 11 rfl rfl (by decide) k8 rfl hl.1 rfl (st1 := [.int v9]) rfl (cells1 := 0) rfl (slots1 := 0) rfl (Nat.le_of_ble_eq_true rfl) ⟨Nat.le_of_ble_eq_true rfl, Nat.le_of_ble_eq_true rfl⟩ ⟨Nat.le_of_ble_eq_true rfl, Nat.le_of_ble_eq_true rfl⟩ dX11_thunder_135 (fun H locs T => ?_)
            refine lv_iload_n hx hb dX11_thunder_138 rfl (lv_at hl 1 rfl) ?_
            refine lv_icmp_gt (tgt := 149) hx hb dX11_thunder_139 (by decide) (fun c12 => ?_) (fun c12 => ?_)
            · replace h := ot_ c12 h
              refine lv_iinc (v := x5 + 1) (lv' := [(5, .int (x5 + 1)), (0, .ref t), (1, .int x1), (3, .int x3), (4, .int x4)]) hx hb dX11_thunder_149 hl (k := 4) rfl rfl (by decide) rfl (fun ls hl => ?_)
              refine lv_goto (tgt := 102) hx hb dX11_thunder_152 (by decide) ?_
              exact ih102 _ _ _ _ _ _ _ _ _ T (lv_sub hl [1, 2, 3, 4, 0] rfl) h
            · replace h := of_ c12 h
              refine lv_iload hx hb dX11_thunder_142 (lv_at hl 4 rfl) ?_
              obtain ⟨v13, e14, h⟩ := ob_ h
              refine th_callS (As := [.int x5]) (rest := []) C T (c_J6_bitCount_0f7a4 e14) k_RX11_275 rfl hl.1 rfl (st1 := [.int v13]) rfl (cells1 := 0) rfl (slots1 := 0) rfl (Nat.le_of_ble_eq_true rfl) ⟨Nat.le_of_ble_eq_true rfl, Nat.le_of_ble_eq_true rfl⟩ ⟨Nat.le_of_ble_eq_true rfl, Nat.le_of_ble_eq_true rfl⟩ dX11_thunder_144 (fun H locs T => ?_)
              refine lv_istore (lv' := [(4, .int v13), (0, .ref t), (1, .int x1), (3, .int x3), (5, .int x5)]) hx hb dX11_thunder_147 hl (by decide) rfl (fun ls hl => ?_)
              refine lv_iinc (v := x5 + 1) (lv' := [(5, .int (x5 + 1)), (4, .int v13), (0, .ref t), (1, .int x1), (3, .int x3)]) hx hb dX11_thunder_149 hl (k := 4) rfl rfl (by decide) rfl (fun ls hl => ?_)
              refine lv_goto (tgt := 102) hx hb dX11_thunder_152 (by decide) ?_
              exact ih102 _ _ _ _ _ _ _ _ _ T (lv_sub hl [2, 3, 4, 1, 0] rfl) h
  have J32 : ∀ (n : Nat) (μ : th_M) (t : Nat) (x1 : Int32) (x3 : Int32) (x4 : Int32) (H : Heap) (locs : List Loc) (ls : Array Slot), th_R G s H locs σ μ → lv_has ls 6 [(0, .ref t), (1, .int x1), (3, .int x3), (4, .int x4)] → f_X11_thunder_b32  n σ μ t x1 x3 x4 = some (r, μ') → W p l e { frames := 24, cells := 0, slots := 0, locals := 689 } s m args below meth c H locs 0 0 Q (F0 m 32 ls []) := by
    intro n
    induction n with
    | zero => intro μ t x1 x3 x4 H locs ls T hl h; unfold f_X11_thunder_b32 at h; cases h
    | succ n32 ih32 =>
      intro μ t x1 x3 x4 H locs ls T hl h
      unfold f_X11_thunder_b32 at h
      refine lv_iload hx hb dX11_thunder_32 (lv_at hl 3 rfl) ?_
      refine lv_aload_n hx hb dX11_thunder_34 rfl (lv_at hl 0 rfl) ?_
      obtain ⟨v1, e2, h⟩ := ob_ h
      refine g_RX11_99 C T e2 dX11_thunder_35 ?_
      refine lv_icmp_ge (tgt := 89) hx hb dX11_thunder_38 (by decide) (fun c3 => ?_) (fun c3 => ?_)
      · replace h := ot_ c3 h
        refine lv_iload_n hx hb dX11_thunder_89 rfl (lv_at hl 2 rfl) ?_
        obtain ⟨rfl, rfl⟩ := os2 h
        exact th_iret hQ C hr hk T (Nat.le_of_ble_eq_true rfl) (Nat.le_of_ble_eq_true rfl) dX11_thunder_90
      · replace h := of_ c3 h
        refine lv_aload_n hx hb dX11_thunder_41 rfl (lv_at hl 0 rfl) ?_
        refine lv_iload hx hb dX11_thunder_42 (lv_at hl 3 rfl) ?_
        obtain ⟨k4, h⟩ := oc_ h
        obtain ⟨v5, μ6, e7, h⟩ := ob2 h
        refine th_callV (As := [.int x4]) (rest := []) C T (c_X11_wouldBeIn e7) k_RX11_259 11 rfl rfl (by decide) k4 rfl hl.1 rfl (st1 := [.int v5]) rfl (cells1 := 0) rfl (slots1 := 0) rfl (Nat.le_of_ble_eq_true rfl) ⟨Nat.le_of_ble_eq_true rfl, Nat.le_of_ble_eq_true rfl⟩ ⟨Nat.le_of_ble_eq_true rfl, Nat.le_of_ble_eq_true rfl⟩ dX11_thunder_44 (fun H locs T => ?_)
        refine lv_istore (lv' := [(5, .int v5), (0, .ref t), (1, .int x1), (3, .int x3), (4, .int x4)]) hx hb dX11_thunder_47 hl (by decide) rfl (fun ls hl => ?_)
        refine lv_aload_n hx hb dX11_thunder_49 rfl (lv_at hl 1 rfl) ?_
        obtain ⟨a8, e9, h⟩ := ob_ h
        refine g_RX11_25 C T e9 dX11_thunder_50 ?_
        refine lv_iload hx hb dX11_thunder_53 (lv_at hl 4 rfl) ?_
        obtain ⟨v10, e11, h⟩ := ob_ h
        refine th_iald C T e11 dX11_thunder_55 ?_
        refine lv_iconst (v := 2) hx hb dX11_thunder_56 (by decide) ?_
        refine lv_icmp_eq (tgt := 76) hx hb dX11_thunder_57 (by decide) (fun c12 => ?_) (fun c12 => ?_)
        · replace h := ot_ c12 h
          refine lv_iload_n hx hb dX11_thunder_76 rfl (lv_at hl 3 rfl) ?_
          refine lv_iconst (v := 1) hx hb dX11_thunder_77 (by decide) ?_
          refine lv_iload hx hb dX11_thunder_78 (lv_at hl 4 rfl) ?_
          refine th_ishl C dX11_thunder_80 ?_
          refine lv_ior hx hb dX11_thunder_81 ?_
          refine lv_istore_n (lv' := [(3, .int (x3 ||| (jshl 1 x4))), (5, .int v5), (0, .ref t), (1, .int x1), (4, .int x4)]) hx hb dX11_thunder_82 rfl hl (by decide) rfl (fun ls hl => ?_)
          refine lv_iinc (v := x4 + 1) (lv' := [(4, .int (x4 + 1)), (3, .int (x3 ||| (jshl 1 x4))), (5, .int v5), (0, .ref t), (1, .int x1)]) hx hb dX11_thunder_83 hl (k := 4) rfl rfl (by decide) rfl (fun ls hl => ?_)
          refine lv_goto (tgt := 32) hx hb dX11_thunder_86 (by decide) ?_
          exact ih32 _ _ _ _ _ _ _ _ T (lv_sub hl [3, 4, 1, 0] rfl) h
        · replace h := of_ c12 h
          refine lv_iload hx hb dX11_thunder_60 (lv_at hl 0 rfl) ?_
          refine lv_if_lt (tgt := 83) hx hb dX11_thunder_62 (by decide) (fun c13 => ?_) (fun c13 => ?_)
          · replace h := ot_ c13 h
            refine lv_iinc (v := x4 + 1) (lv' := [(4, .int (x4 + 1)), (5, .int v5), (0, .ref t), (1, .int x1), (3, .int x3)]) hx hb dX11_thunder_83 hl (k := 4) rfl rfl (by decide) rfl (fun ls hl => ?_)
            refine lv_goto (tgt := 32) hx hb dX11_thunder_86 (by decide) ?_
            exact ih32 _ _ _ _ _ _ _ _ T (lv_sub hl [2, 3, 4, 0] rfl) h
          · replace h := of_ c13 h
            refine lv_iload hx hb dX11_thunder_65 (lv_at hl 0 rfl) ?_
            refine lv_aload_n hx hb dX11_thunder_67 rfl (lv_at hl 1 rfl) ?_
            obtain ⟨v14, e15, h⟩ := ob_ h
            refine g_RX11_142 C T e15 dX11_thunder_68 ?_
            refine lv_iload_n hx hb dX11_thunder_71 rfl (lv_at hl 2 rfl) ?_
            refine lv_iadd hx hb dX11_thunder_72 ?_
            refine lv_icmp_gt (tgt := 83) hx hb dX11_thunder_73 (by decide) (fun c16 => ?_) (fun c16 => ?_)
            · replace h := ot_ c16 h
              refine lv_iinc (v := x4 + 1) (lv' := [(4, .int (x4 + 1)), (5, .int v5), (0, .ref t), (1, .int x1), (3, .int x3)]) hx hb dX11_thunder_83 hl (k := 4) rfl rfl (by decide) rfl (fun ls hl => ?_)
              refine lv_goto (tgt := 32) hx hb dX11_thunder_86 (by decide) ?_
              exact ih32 _ _ _ _ _ _ _ _ T (lv_sub hl [2, 3, 4, 0] rfl) h
            · replace h := of_ c16 h
              refine lv_iload_n hx hb dX11_thunder_76 rfl (lv_at hl 3 rfl) ?_
              refine lv_iconst (v := 1) hx hb dX11_thunder_77 (by decide) ?_
              refine lv_iload hx hb dX11_thunder_78 (lv_at hl 4 rfl) ?_
              refine th_ishl C dX11_thunder_80 ?_
              refine lv_ior hx hb dX11_thunder_81 ?_
              refine lv_istore_n (lv' := [(3, .int (x3 ||| (jshl 1 x4))), (5, .int v5), (0, .ref t), (1, .int x1), (4, .int x4)]) hx hb dX11_thunder_82 rfl hl (by decide) rfl (fun ls hl => ?_)
              refine lv_iinc (v := x4 + 1) (lv' := [(4, .int (x4 + 1)), (3, .int (x3 ||| (jshl 1 x4))), (5, .int v5), (0, .ref t), (1, .int x1)]) hx hb dX11_thunder_83 hl (k := 4) rfl rfl (by decide) rfl (fun ls hl => ?_)
              refine lv_goto (tgt := 32) hx hb dX11_thunder_86 (by decide) ?_
              exact ih32 _ _ _ _ _ _ _ _ T (lv_sub hl [3, 4, 1, 0] rfl) h
  unfold f_X11_thunder at h
  refine lv_iload_n hx hb dX11_thunder_0 rfl (lv_at hl 1 rfl) ?_
  refine lv_iconst (v := 0) hx hb dX11_thunder_1 (by decide) ?_
  refine lv_sipush (v := 240) hx hb dX11_thunder_2 (by decide) ?_
  obtain ⟨v1, e2, h⟩ := ob_ h
  refine th_callS (As := [.int x1, .int 0, .int 240]) (rest := []) C T (c_X11_within e2) k_RX11_102 rfl hl.1 rfl (st1 := [.int v1]) rfl (cells1 := 0) rfl (slots1 := 0) rfl (Nat.le_of_ble_eq_true rfl) ⟨Nat.le_of_ble_eq_true rfl, Nat.le_of_ble_eq_true rfl⟩ ⟨Nat.le_of_ble_eq_true rfl, Nat.le_of_ble_eq_true rfl⟩ dX11_thunder_5 (fun H locs T => ?_)
  refine lv_if_eq (tgt := 20) hx hb dX11_thunder_8 (by decide) (fun c3 => ?_) (fun c3 => ?_)
  · replace h := ot_ c3 h
    refine lv_bipush (v := -2) hx hb dX11_thunder_20 (by decide) ?_
    obtain ⟨rfl, rfl⟩ := os2 h
    exact th_iret hQ C hr hk T (Nat.le_of_ble_eq_true rfl) (Nat.le_of_ble_eq_true rfl) dX11_thunder_22
  · replace h := of_ c3 h
    refine lv_iload_n hx hb dX11_thunder_11 rfl (lv_at hl 2 rfl) ?_
    refine lv_iconst (v := 0) hx hb dX11_thunder_12 (by decide) ?_
    refine lv_iconst (v := 1) hx hb dX11_thunder_13 (by decide) ?_
    obtain ⟨v4, e5, h⟩ := ob_ h
    refine th_callS (As := [.int x2, .int 0, .int 1]) (rest := []) C T (c_X11_within e5) k_RX11_102 rfl hl.1 rfl (st1 := [.int v4]) rfl (cells1 := 0) rfl (slots1 := 0) rfl (Nat.le_of_ble_eq_true rfl) ⟨Nat.le_of_ble_eq_true rfl, Nat.le_of_ble_eq_true rfl⟩ ⟨Nat.le_of_ble_eq_true rfl, Nat.le_of_ble_eq_true rfl⟩ dX11_thunder_14 (fun H locs T => ?_)
    refine lv_if_ne (tgt := 23) hx hb dX11_thunder_17 (by decide) (fun c6 => ?_) (fun c6 => ?_)
    · replace h := of_ c6 h
      refine lv_iload_n hx hb dX11_thunder_23 rfl (lv_at hl 2 rfl) ?_
      refine lv_if_ne (tgt := 91) hx hb dX11_thunder_24 (by decide) (fun c7 => ?_) (fun c7 => ?_)
      · replace h := of_ c7 h
        refine lv_aload_n hx hb dX11_thunder_91 rfl (lv_at hl 0 rfl) ?_
        obtain ⟨k8, h⟩ := oc_ h
        obtain ⟨v9, μ10, e11, h⟩ := ob2 h
        refine th_callV (As := []) (rest := []) C T (c_X11_nobody e11) k_RX11_280 11 rfl rfl (by decide) k8 rfl hl.1 rfl (st1 := [.int v9]) rfl (cells1 := 0) rfl (slots1 := 0) rfl (Nat.le_of_ble_eq_true rfl) ⟨Nat.le_of_ble_eq_true rfl, Nat.le_of_ble_eq_true rfl⟩ ⟨Nat.le_of_ble_eq_true rfl, Nat.le_of_ble_eq_true rfl⟩ dX11_thunder_92 (fun H locs T => ?_)
        refine lv_istore_n (lv' := [(3, .int v9), (0, .ref t), (1, .int x1), (2, .int x2)]) hx hb dX11_thunder_95 rfl hl (by decide) rfl (fun ls hl => ?_)
        refine lv_iconst (v := 0) hx hb dX11_thunder_96 (by decide) ?_
        refine lv_istore (lv' := [(4, .int 0), (3, .int v9), (0, .ref t), (1, .int x1), (2, .int x2)]) hx hb dX11_thunder_97 hl (by decide) rfl (fun ls hl => ?_)
        refine lv_iconst (v := 1) hx hb dX11_thunder_99 (by decide) ?_
        refine lv_istore (lv' := [(5, .int 1), (4, .int 0), (3, .int v9), (0, .ref t), (1, .int x1), (2, .int x2)]) hx hb dX11_thunder_100 hl (by decide) rfl (fun ls hl => ?_)
        exact J102 fu _ _ _ _ _ _ _ _ _ T (lv_sub hl [3, 4, 2, 1, 0] rfl) h
      · replace h := ot_ c7 h
        refine lv_iconst (v := 0) hx hb dX11_thunder_27 (by decide) ?_
        refine lv_istore_n (lv' := [(3, .int 0), (0, .ref t), (1, .int x1), (2, .int x2)]) hx hb dX11_thunder_28 rfl hl (by decide) rfl (fun ls hl => ?_)
        refine lv_iconst (v := 0) hx hb dX11_thunder_29 (by decide) ?_
        refine lv_istore (lv' := [(4, .int 0), (3, .int 0), (0, .ref t), (1, .int x1), (2, .int x2)]) hx hb dX11_thunder_30 hl (by decide) rfl (fun ls hl => ?_)
        exact J32 fu _ _ _ _ _ _ _ _ T (lv_sub hl [2, 3, 1, 0] rfl) h
    · replace h := ot_ c6 h
      refine lv_bipush (v := -2) hx hb dX11_thunder_20 (by decide) ?_
      obtain ⟨rfl, rfl⟩ := os2 h
      exact th_iret hQ C hr hk T (Nat.le_of_ble_eq_true rfl) (Nat.le_of_ble_eq_true rfl) dX11_thunder_22
set_option maxRecDepth 100000 in
set_option maxHeartbeats 4000000 in
theorem c_X11_stand {l : Launch} {G : th_G} {σ : th_S} {μ : th_M} {t : Nat} {r : Int32} {μ' : th_M} (h : f_X11_stand σ μ t = some (r, μ')) : th_Met l G yX11_stand cX11_stand 5 (some FieldType.int) { frames := 6, cells := 0, slots := 0, locals := 197 } [.ref t] σ μ (some (.int r)) σ μ' := by
  refine th_ofW (by decide +kernel) (Nat.le_of_ble_eq_true rfl) ?_
  intro p e s m args below meth c ls Q hQ C hr hk hnm T hl
  have hx := C.1
  have hb := C.2.1
  have C : CallFix p m c cX11_stand 5 s args th_ws RX11 := C
  have hl : lv_has ls 5 [(0, .ref t)] := hl
  have J89 : ∀ (n : Nat) (μ : th_M) (t : Nat) (x1 : Int32) (x2 : Int32) (x3 : Int32) (H : Heap) (locs : List Loc) (ls : Array Slot), th_R G s H locs σ μ → lv_has ls 5 [(0, .ref t), (1, .int x1), (2, .int x2), (3, .int x3)] → f_X11_stand_b89  n σ μ t x1 x2 x3 = some (r, μ') → W p l e { frames := 6, cells := 0, slots := 0, locals := 197 } s m args below meth c H locs 0 0 Q (F0 m 89 ls []) := by
    intro n
    induction n with
    | zero => intro μ t x1 x2 x3 H locs ls T hl h; unfold f_X11_stand_b89 at h; cases h
    | succ n89 ih89 =>
      intro μ t x1 x2 x3 H locs ls T hl h
      unfold f_X11_stand_b89 at h
      refine lv_iload_n hx hb dX11_stand_89 rfl (lv_at hl 3 rfl) ?_
      refine lv_aload_n hx hb dX11_stand_90 rfl (lv_at hl 0 rfl) ?_
      obtain ⟨v1, e2, h⟩ := ob_ h
      refine g_RX11_119 C T e2 dX11_stand_91 ?_
      refine lv_icmp_ge (tgt := 128) hx hb dX11_stand_94 (by decide) (fun c3 => ?_) (fun c3 => ?_)
      · replace h := ot_ c3 h
        refine lv_iload_n hx hb dX11_stand_128 rfl (lv_at hl 2 rfl) ?_
        obtain ⟨rfl, rfl⟩ := os2 h
        exact th_iret hQ C hr hk T (Nat.le_of_ble_eq_true rfl) (Nat.le_of_ble_eq_true rfl) dX11_stand_129
      · replace h := of_ c3 h
        refine lv_iload_n hx hb dX11_stand_97 rfl (lv_at hl 2 rfl) ?_
        refine lv_iload_n hx hb dX11_stand_98 rfl (lv_at hl 3 rfl) ?_
        refine lv_iload_n hx hb dX11_stand_99 rfl (lv_at hl 1 rfl) ?_
        refine lv_icmp_ge (tgt := 117) hx hb dX11_stand_100 (by decide) (fun c4 => ?_) (fun c4 => ?_)
        · replace h := ot_ c4 h
          refine lv_sipush (v := 240) hx hb dX11_stand_117 (by decide) ?_
          refine lv_iadd hx hb dX11_stand_120 ?_
          refine lv_istore_n (lv' := [(2, .int (x2 + 240)), (0, .ref t), (1, .int x1), (3, .int x3)]) hx hb dX11_stand_121 rfl hl (by decide) rfl (fun ls hl => ?_)
          refine lv_iinc (v := x3 + 1) (lv' := [(3, .int (x3 + 1)), (2, .int (x2 + 240)), (0, .ref t), (1, .int x1)]) hx hb dX11_stand_122 hl (k := 3) rfl rfl (by decide) rfl (fun ls hl => ?_)
          refine lv_goto (tgt := 89) hx hb dX11_stand_125 (by decide) ?_
          exact ih89 _ _ _ _ _ _ _ _ T (lv_sub hl [2, 3, 1, 0] rfl) h
        · replace h := of_ c4 h
          refine lv_aload_n hx hb dX11_stand_103 rfl (lv_at hl 0 rfl) ?_
          obtain ⟨a5, e6, h⟩ := ob_ h
          refine g_RX11_52 C T e6 dX11_stand_104 ?_
          refine lv_iload_n hx hb dX11_stand_107 rfl (lv_at hl 3 rfl) ?_
          obtain ⟨v7, e8, h⟩ := ob_ h
          refine th_iald C T e8 dX11_stand_108 ?_
          refine lv_aload_n hx hb dX11_stand_109 rfl (lv_at hl 0 rfl) ?_
          obtain ⟨v9, e10, h⟩ := ob_ h
          refine g_RX11_142 C T e10 dX11_stand_110 ?_
          refine lv_isub hx hb dX11_stand_113 ?_
          refine lv_goto (tgt := 120) hx hb dX11_stand_114 (by decide) ?_
          refine lv_iadd hx hb dX11_stand_120 ?_
          refine lv_istore_n (lv' := [(2, .int (x2 + (v7 - v9))), (0, .ref t), (1, .int x1), (3, .int x3)]) hx hb dX11_stand_121 rfl hl (by decide) rfl (fun ls hl => ?_)
          refine lv_iinc (v := x3 + 1) (lv' := [(3, .int (x3 + 1)), (2, .int (x2 + (v7 - v9))), (0, .ref t), (1, .int x1)]) hx hb dX11_stand_122 hl (k := 3) rfl rfl (by decide) rfl (fun ls hl => ?_)
          refine lv_goto (tgt := 89) hx hb dX11_stand_125 (by decide) ?_
          exact ih89 _ _ _ _ _ _ _ _ T (lv_sub hl [2, 3, 1, 0] rfl) h
  have J4 : ∀ (n : Nat) (μ : th_M) (t : Nat) (x1 : Int32) (x2 : Int32) (H : Heap) (locs : List Loc) (ls : Array Slot), th_R G s H locs σ μ → lv_has ls 5 [(0, .ref t), (1, .int x1), (2, .int x2)] → f_X11_stand_b4  n σ μ t x1 x2 = some (r, μ') → W p l e { frames := 6, cells := 0, slots := 0, locals := 197 } s m args below meth c H locs 0 0 Q (F0 m 4 ls []) := by
    intro n
    induction n with
    | zero => intro μ t x1 x2 H locs ls T hl h; unfold f_X11_stand_b4 at h; cases h
    | succ n4 ih4 =>
      intro μ t x1 x2 H locs ls T hl h
      unfold f_X11_stand_b4 at h
      have J31 : ∀ (n : Nat) (μ : th_M) (t : Nat) (x1 : Int32) (x2 : Int32) (x3 : Int32) (x4 : Int32) (H : Heap) (locs : List Loc) (ls : Array Slot), th_R G s H locs σ μ → lv_has ls 5 [(0, .ref t), (1, .int x1), (2, .int x2), (3, .int x3), (4, .int x4)] → f_X11_stand_b31 (f_X11_stand_b4 n4) n σ μ t x1 x2 x3 x4 = some (r, μ') → W p l e { frames := 6, cells := 0, slots := 0, locals := 197 } s m args below meth c H locs 0 0 Q (F0 m 31 ls []) := by
        intro n
        induction n with
        | zero => intro μ t x1 x2 x3 x4 H locs ls T hl h; unfold f_X11_stand_b31 at h; cases h
        | succ n31 ih31 =>
          intro μ t x1 x2 x3 x4 H locs ls T hl h
          unfold f_X11_stand_b31 at h
          refine lv_iload hx hb dX11_stand_31 (lv_at hl 4 rfl) ?_
          refine lv_if_le (tgt := 71) hx hb dX11_stand_33 (by decide) (fun c1 => ?_) (fun c1 => ?_)
          · replace h := ot_ c1 h
            refine lv_aload_n hx hb dX11_stand_71 rfl (lv_at hl 0 rfl) ?_
            obtain ⟨a2, e3, h⟩ := ob_ h
            refine g_RX11_52 C T e3 dX11_stand_72 ?_
            refine lv_iload hx hb dX11_stand_75 (lv_at hl 4 rfl) ?_
            refine lv_iload_n hx hb dX11_stand_77 rfl (lv_at hl 3 rfl) ?_
            obtain ⟨μ4, e5, h⟩ := ob_ h
            refine th_iast C T e5 dX11_stand_78 (fun H locs T => ?_)
            refine lv_iinc (v := x2 + 1) (lv' := [(2, .int (x2 + 1)), (0, .ref t), (1, .int x1), (3, .int x3), (4, .int x4)]) hx hb dX11_stand_79 hl (k := 2) rfl rfl (by decide) rfl (fun ls hl => ?_)
            refine lv_goto (tgt := 4) hx hb dX11_stand_82 (by decide) ?_
            exact ih4 _ _ _ _ _ _ _ T (lv_sub hl [1, 2, 0] rfl) h
          · replace h := of_ c1 h
            refine lv_aload_n hx hb dX11_stand_36 rfl (lv_at hl 0 rfl) ?_
            obtain ⟨a6, e7, h⟩ := ob_ h
            refine g_RX11_52 C T e7 dX11_stand_37 ?_
            refine lv_iload hx hb dX11_stand_40 (lv_at hl 4 rfl) ?_
            refine lv_iconst (v := 1) hx hb dX11_stand_42 (by decide) ?_
            refine lv_isub hx hb dX11_stand_43 ?_
            obtain ⟨v8, e9, h⟩ := ob_ h
            refine th_iald C T e9 dX11_stand_44 ?_
            refine lv_iload_n hx hb dX11_stand_45 rfl (lv_at hl 3 rfl) ?_
            refine lv_icmp_le (tgt := 71) hx hb dX11_stand_46 (by decide) (fun c10 => ?_) (fun c10 => ?_)
            · replace h := ot_ c10 h
              refine lv_aload_n hx hb dX11_stand_71 rfl (lv_at hl 0 rfl) ?_
              obtain ⟨a11, e12, h⟩ := ob_ h
              refine g_RX11_52 C T e12 dX11_stand_72 ?_
              refine lv_iload hx hb dX11_stand_75 (lv_at hl 4 rfl) ?_
              refine lv_iload_n hx hb dX11_stand_77 rfl (lv_at hl 3 rfl) ?_
              obtain ⟨μ13, e14, h⟩ := ob_ h
              refine th_iast C T e14 dX11_stand_78 (fun H locs T => ?_)
              refine lv_iinc (v := x2 + 1) (lv' := [(2, .int (x2 + 1)), (0, .ref t), (1, .int x1), (3, .int x3), (4, .int x4)]) hx hb dX11_stand_79 hl (k := 2) rfl rfl (by decide) rfl (fun ls hl => ?_)
              refine lv_goto (tgt := 4) hx hb dX11_stand_82 (by decide) ?_
              exact ih4 _ _ _ _ _ _ _ T (lv_sub hl [1, 2, 0] rfl) h
            · replace h := of_ c10 h
              refine lv_aload_n hx hb dX11_stand_49 rfl (lv_at hl 0 rfl) ?_
              obtain ⟨a15, e16, h⟩ := ob_ h
              refine g_RX11_52 C T e16 dX11_stand_50 ?_
              refine lv_iload hx hb dX11_stand_53 (lv_at hl 4 rfl) ?_
              refine lv_aload_n hx hb dX11_stand_55 rfl (lv_at hl 0 rfl) ?_
              obtain ⟨a17, e18, h⟩ := ob_ h
              refine g_RX11_52 C T e18 dX11_stand_56 ?_
              refine lv_iload hx hb dX11_stand_59 (lv_at hl 4 rfl) ?_
              refine lv_iconst (v := 1) hx hb dX11_stand_61 (by decide) ?_
              refine lv_isub hx hb dX11_stand_62 ?_
              obtain ⟨v19, e20, h⟩ := ob_ h
              refine th_iald C T e20 dX11_stand_63 ?_
              obtain ⟨μ21, e22, h⟩ := ob_ h
              refine th_iast C T e22 dX11_stand_64 (fun H locs T => ?_)
              refine lv_iinc (v := x4 + (-1)) (lv' := [(4, .int (x4 + (-1))), (0, .ref t), (1, .int x1), (2, .int x2), (3, .int x3)]) hx hb dX11_stand_65 hl (k := 4) rfl rfl (by decide) rfl (fun ls hl => ?_)
              refine lv_goto (tgt := 31) hx hb dX11_stand_68 (by decide) ?_
              exact ih31 _ _ _ _ _ _ _ _ _ T (lv_sub hl [1, 2, 3, 4, 0] rfl) h
      refine lv_iload_n hx hb dX11_stand_4 rfl (lv_at hl 2 rfl) ?_
      refine lv_aload_n hx hb dX11_stand_5 rfl (lv_at hl 0 rfl) ?_
      obtain ⟨v1, e2, h⟩ := ob_ h
      refine g_RX11_99 C T e2 dX11_stand_6 ?_
      refine lv_icmp_ge (tgt := 85) hx hb dX11_stand_9 (by decide) (fun c3 => ?_) (fun c3 => ?_)
      · replace h := ot_ c3 h
        refine lv_iconst (v := 0) hx hb dX11_stand_85 (by decide) ?_
        refine lv_istore_n (lv' := [(2, .int 0), (0, .ref t), (1, .int x1)]) hx hb dX11_stand_86 rfl hl (by decide) rfl (fun ls hl => ?_)
        refine lv_iconst (v := 0) hx hb dX11_stand_87 (by decide) ?_
        refine lv_istore_n (lv' := [(3, .int 0), (2, .int 0), (0, .ref t), (1, .int x1)]) hx hb dX11_stand_88 rfl hl (by decide) rfl (fun ls hl => ?_)
        exact J89 fu _ _ _ _ _ _ _ _ T (lv_sub hl [2, 3, 1, 0] rfl) h
      · replace h := of_ c3 h
        refine lv_aload_n hx hb dX11_stand_12 rfl (lv_at hl 0 rfl) ?_
        refine lv_iload_n hx hb dX11_stand_13 rfl (lv_at hl 2 rfl) ?_
        obtain ⟨k4, h⟩ := oc_ h
        obtain ⟨v5, μ6, e7, h⟩ := ob2 h
        refine th_callV (As := [.int x2]) (rest := []) C T (c_X11_wouldBeIn e7) k_RX11_259 11 rfl rfl (by decide) k4 rfl hl.1 rfl (st1 := [.int v5]) rfl (cells1 := 0) rfl (slots1 := 0) rfl (Nat.le_of_ble_eq_true rfl) ⟨Nat.le_of_ble_eq_true rfl, Nat.le_of_ble_eq_true rfl⟩ ⟨Nat.le_of_ble_eq_true rfl, Nat.le_of_ble_eq_true rfl⟩ dX11_stand_14 (fun H locs T => ?_)
        refine lv_istore_n (lv' := [(3, .int v5), (0, .ref t), (1, .int x1), (2, .int x2)]) hx hb dX11_stand_17 rfl hl (by decide) rfl (fun ls hl => ?_)
        refine lv_iload_n hx hb dX11_stand_18 rfl (lv_at hl 0 rfl) ?_
        refine lv_if_ge (tgt := 25) hx hb dX11_stand_19 (by decide) (fun c8 => ?_) (fun c8 => ?_)
        · replace h := ot_ c8 h
          refine lv_iload_n hx hb dX11_stand_25 rfl (lv_at hl 2 rfl) ?_
          refine lv_iinc (v := x1 + 1) (lv' := [(1, .int (x1 + 1)), (3, .int v5), (0, .ref t), (2, .int x2)]) hx hb dX11_stand_26 hl (k := 2) rfl rfl (by decide) rfl (fun ls hl => ?_)
          refine lv_istore (lv' := [(4, .int x1), (1, .int (x1 + 1)), (3, .int v5), (0, .ref t), (2, .int x2)]) hx hb dX11_stand_29 hl (by decide) rfl (fun ls hl => ?_)
          exact J31 fu _ _ _ _ _ _ _ _ _ T (lv_sub hl [3, 1, 4, 2, 0] rfl) h
        · replace h := of_ c8 h
          refine lv_goto (tgt := 79) hx hb dX11_stand_22 (by decide) ?_
          refine lv_iinc (v := x2 + 1) (lv' := [(2, .int (x2 + 1)), (3, .int v5), (0, .ref t), (1, .int x1)]) hx hb dX11_stand_79 hl (k := 3) rfl rfl (by decide) rfl (fun ls hl => ?_)
          refine lv_goto (tgt := 4) hx hb dX11_stand_82 (by decide) ?_
          exact ih4 _ _ _ _ _ _ _ T (lv_sub hl [2, 3, 0] rfl) h
  unfold f_X11_stand at h
  refine lv_iconst (v := 0) hx hb dX11_stand_0 (by decide) ?_
  refine lv_istore_n (lv' := [(1, .int 0), (0, .ref t)]) hx hb dX11_stand_1 rfl hl (by decide) rfl (fun ls hl => ?_)
  refine lv_iconst (v := 0) hx hb dX11_stand_2 (by decide) ?_
  refine lv_istore_n (lv' := [(2, .int 0), (1, .int 0), (0, .ref t)]) hx hb dX11_stand_3 rfl hl (by decide) rfl (fun ls hl => ?_)
  exact J4 fu _ _ _ _ _ _ _ T (lv_sub hl [2, 1, 0] rfl) h
set_option maxRecDepth 100000 in
set_option maxHeartbeats 4000000 in
theorem c_X11_heard {l : Launch} {G : th_G} {σ : th_S} {μ : th_M} {t : Nat} {x1 : Int32} {r : Int32} {μ' : th_M} (h : f_X11_heard σ μ t x1 = some (r, μ')) : th_Met l G yX11_heard cX11_heard 6 (some FieldType.int) { frames := 5, cells := 0, slots := 0, locals := 176 } [.ref t, .int x1] σ μ (some (.int r)) σ μ' := by
  refine th_ofW (by decide +kernel) (Nat.le_of_ble_eq_true rfl) ?_
  intro p e s m args below meth c ls Q hQ C hr hk hnm T hl
  have hx := C.1
  have hb := C.2.1
  have C : CallFix p m c cX11_heard 6 s args th_ws RX11 := C
  have hl : lv_has ls 6 [(0, .ref t), (1, .int x1)] := hl
  have J44 : ∀ (n : Nat) (μ : th_M) (t : Nat) (x1 : Int32) (x2 : Int32) (x3 : Int32) (H : Heap) (locs : List Loc) (ls : Array Slot), th_R G s H locs σ μ → lv_has ls 6 [(0, .ref t), (1, .int x1), (2, .int x2), (3, .int x3)] → f_X11_heard_b44  n σ μ t x1 x2 x3 = some (r, μ') → W p l e { frames := 5, cells := 0, slots := 0, locals := 176 } s m args below meth c H locs 0 0 Q (F0 m 44 ls []) := by
    intro n
    induction n with
    | zero => intro μ t x1 x2 x3 H locs ls T hl h; unfold f_X11_heard_b44 at h; cases h
    | succ n44 ih44 =>
      intro μ t x1 x2 x3 H locs ls T hl h
      unfold f_X11_heard_b44 at h
      refine lv_iload_n hx hb dX11_heard_44 rfl (lv_at hl 3 rfl) ?_
      refine lv_iload_n hx hb dX11_heard_45 rfl (lv_at hl 2 rfl) ?_
      refine lv_iconst (v := 2) hx hb dX11_heard_46 (by decide) ?_
      refine lv_idiv hx hb dX11_heard_47 (by decide) ?_
      refine lv_icmp_ge (tgt := 140) hx hb dX11_heard_48 (by decide) (fun c1 => ?_) (fun c1 => ?_)
      · replace h := ot_ c1 h
        refine lv_iconst (v := -1) hx hb dX11_heard_140 (by decide) ?_
        obtain ⟨rfl, rfl⟩ := os2 h
        exact th_iret hQ C hr hk T (Nat.le_of_ble_eq_true rfl) (Nat.le_of_ble_eq_true rfl) dX11_heard_141
      · replace h := of_ c1 h
        refine lv_aload_n hx hb dX11_heard_51 rfl (lv_at hl 0 rfl) ?_
        obtain ⟨a2, e3, h⟩ := ob_ h
        refine g_RX11_64 C T e3 dX11_heard_52 ?_
        refine lv_bipush (v := 40) hx hb dX11_heard_55 (by decide) ?_
        refine lv_iload_n hx hb dX11_heard_57 rfl (lv_at hl 1 rfl) ?_
        refine lv_imul hx hb dX11_heard_58 ?_
        refine lv_iconst (v := 2) hx hb dX11_heard_59 (by decide) ?_
        refine lv_iload_n hx hb dX11_heard_60 rfl (lv_at hl 3 rfl) ?_
        refine lv_imul hx hb dX11_heard_61 ?_
        refine lv_iadd hx hb dX11_heard_62 ?_
        obtain ⟨v4, e5, h⟩ := ob_ h
        refine th_iald C T e5 dX11_heard_63 ?_
        refine lv_istore (lv' := [(4, .int v4), (0, .ref t), (1, .int x1), (2, .int x2), (3, .int x3)]) hx hb dX11_heard_64 hl (by decide) rfl (fun ls hl => ?_)
        refine lv_aload_n hx hb dX11_heard_66 rfl (lv_at hl 1 rfl) ?_
        obtain ⟨a6, e7, h⟩ := ob_ h
        refine g_RX11_64 C T e7 dX11_heard_67 ?_
        refine lv_bipush (v := 40) hx hb dX11_heard_70 (by decide) ?_
        refine lv_iload_n hx hb dX11_heard_72 rfl (lv_at hl 2 rfl) ?_
        refine lv_imul hx hb dX11_heard_73 ?_
        refine lv_iconst (v := 2) hx hb dX11_heard_74 (by decide) ?_
        refine lv_iload_n hx hb dX11_heard_75 rfl (lv_at hl 4 rfl) ?_
        refine lv_imul hx hb dX11_heard_76 ?_
        refine lv_iadd hx hb dX11_heard_77 ?_
        refine lv_iconst (v := 1) hx hb dX11_heard_78 (by decide) ?_
        refine lv_iadd hx hb dX11_heard_79 ?_
        obtain ⟨v8, e9, h⟩ := ob_ h
        refine th_iald C T e9 dX11_heard_80 ?_
        refine lv_istore (lv' := [(5, .int v8), (4, .int v4), (0, .ref t), (1, .int x1), (2, .int x2), (3, .int x3)]) hx hb dX11_heard_81 hl (by decide) rfl (fun ls hl => ?_)
        refine lv_aload_n hx hb dX11_heard_83 rfl (lv_at hl 2 rfl) ?_
        refine lv_iload hx hb dX11_heard_84 (lv_at hl 1 rfl) ?_
        obtain ⟨k10, h⟩ := oc_ h
        obtain ⟨v11, e12, h⟩ := ob_ h
        refine th_callV (As := [.int v4]) (rest := []) C T (c_X11_isBoat e12) k_RX11_112 11 rfl rfl (by decide) k10 rfl hl.1 rfl (st1 := [.int v11]) rfl (cells1 := 0) rfl (slots1 := 0) rfl (Nat.le_of_ble_eq_true rfl) ⟨Nat.le_of_ble_eq_true rfl, Nat.le_of_ble_eq_true rfl⟩ ⟨Nat.le_of_ble_eq_true rfl, Nat.le_of_ble_eq_true rfl⟩ dX11_heard_86 (fun H locs T => ?_)
        refine lv_if_eq (tgt := 132) hx hb dX11_heard_89 (by decide) (fun c13 => ?_) (fun c13 => ?_)
        · replace h := ot_ c13 h
          refine lv_iload_n hx hb dX11_heard_132 rfl (lv_at hl 5 rfl) ?_
          obtain ⟨rfl, rfl⟩ := os2 h
          exact th_iret hQ C hr hk T (Nat.le_of_ble_eq_true rfl) (Nat.le_of_ble_eq_true rfl) dX11_heard_133
        · replace h := of_ c13 h
          refine lv_iload hx hb dX11_heard_92 (lv_at hl 0 rfl) ?_
          refine lv_iconst (v := 0) hx hb dX11_heard_94 (by decide) ?_
          refine lv_iconst (v := 1) hx hb dX11_heard_95 (by decide) ?_
          obtain ⟨v14, e15, h⟩ := ob_ h
          refine th_callS (As := [.int v8, .int 0, .int 1]) (rest := []) C T (c_X11_within e15) k_RX11_102 rfl hl.1 rfl (st1 := [.int v14]) rfl (cells1 := 0) rfl (slots1 := 0) rfl (Nat.le_of_ble_eq_true rfl) ⟨Nat.le_of_ble_eq_true rfl, Nat.le_of_ble_eq_true rfl⟩ ⟨Nat.le_of_ble_eq_true rfl, Nat.le_of_ble_eq_true rfl⟩ dX11_heard_96 (fun H locs T => ?_)
          refine lv_if_eq (tgt := 132) hx hb dX11_heard_99 (by decide) (fun c16 => ?_) (fun c16 => ?_)
          · replace h := ot_ c16 h
            refine lv_iload_n hx hb dX11_heard_132 rfl (lv_at hl 5 rfl) ?_
            obtain ⟨rfl, rfl⟩ := os2 h
            exact th_iret hQ C hr hk T (Nat.le_of_ble_eq_true rfl) (Nat.le_of_ble_eq_true rfl) dX11_heard_133
          · replace h := of_ c16 h
            refine lv_aload_n hx hb dX11_heard_102 rfl (lv_at hl 2 rfl) ?_
            obtain ⟨a17, e18, h⟩ := ob_ h
            refine g_RX11_25 C T e18 dX11_heard_103 ?_
            refine lv_iload hx hb dX11_heard_106 (lv_at hl 1 rfl) ?_
            obtain ⟨v19, e20, h⟩ := ob_ h
            refine th_iald C T e20 dX11_heard_108 ?_
            refine lv_if_ne (tgt := 132) hx hb dX11_heard_109 (by decide) (fun c21 => ?_) (fun c21 => ?_)
            · replace h := of_ c21 h
              refine lv_iload_n hx hb dX11_heard_132 rfl (lv_at hl 5 rfl) ?_
              obtain ⟨rfl, rfl⟩ := os2 h
              exact th_iret hQ C hr hk T (Nat.le_of_ble_eq_true rfl) (Nat.le_of_ble_eq_true rfl) dX11_heard_133
            · replace h := ot_ c21 h
              refine lv_aload_n hx hb dX11_heard_112 rfl (lv_at hl 2 rfl) ?_
              refine lv_iload hx hb dX11_heard_113 (lv_at hl 1 rfl) ?_
              obtain ⟨v22, μ23, e24, h⟩ := ob2 h
              refine th_callV (As := [.int v4]) (rest := []) C T (c_X11_would_ e24) k_RX11_151 11 rfl rfl (by decide) k10 rfl hl.1 rfl (st1 := [.int v22]) rfl (cells1 := 0) rfl (slots1 := 0) rfl (Nat.le_of_ble_eq_true rfl) ⟨Nat.le_of_ble_eq_true rfl, Nat.le_of_ble_eq_true rfl⟩ ⟨Nat.le_of_ble_eq_true rfl, Nat.le_of_ble_eq_true rfl⟩ dX11_heard_115 (fun H locs T => ?_)
              refine lv_iload hx hb dX11_heard_118 (lv_at hl 0 rfl) ?_
              refine lv_iconst (v := 1) hx hb dX11_heard_120 (by decide) ?_
              refine lv_icmp_ne (tgt := 128) hx hb dX11_heard_121 (by decide) (fun c25 => ?_) (fun c25 => ?_)
              · replace h := of_ c25 h
                refine lv_iconst (v := 0) hx hb dX11_heard_128 (by decide) ?_
                refine lv_icmp_eq (tgt := 134) hx hb dX11_heard_129 (by decide) (fun c26 => ?_) (fun c26 => ?_)
                · replace h := ot_ c26 h
                  refine lv_iinc (v := x3 + 1) (lv' := [(3, .int (x3 + 1)), (5, .int v8), (4, .int v4), (0, .ref t), (1, .int x1), (2, .int x2)]) hx hb dX11_heard_134 hl (k := 5) rfl rfl (by decide) rfl (fun ls hl => ?_)
                  refine lv_goto (tgt := 44) hx hb dX11_heard_137 (by decide) ?_
                  exact ih44 _ _ _ _ _ _ _ _ T (lv_sub hl [3, 4, 5, 0] rfl) h
                · replace h := of_ c26 h
                  refine lv_iload_n hx hb dX11_heard_132 rfl (lv_at hl 5 rfl) ?_
                  obtain ⟨rfl, rfl⟩ := os2 h
                  exact th_iret hQ C hr hk T (Nat.le_of_ble_eq_true rfl) (Nat.le_of_ble_eq_true rfl) dX11_heard_133
              · replace h := ot_ c25 h
                refine lv_iconst (v := 1) hx hb dX11_heard_124 (by decide) ?_
                refine lv_goto (tgt := 129) hx hb dX11_heard_125 (by decide) ?_
                refine lv_icmp_eq (tgt := 134) hx hb dX11_heard_129 (by decide) (fun c27 => ?_) (fun c27 => ?_)
                · replace h := ot_ c27 h
                  refine lv_iinc (v := x3 + 1) (lv' := [(3, .int (x3 + 1)), (5, .int v8), (4, .int v4), (0, .ref t), (1, .int x1), (2, .int x2)]) hx hb dX11_heard_134 hl (k := 5) rfl rfl (by decide) rfl (fun ls hl => ?_)
                  refine lv_goto (tgt := 44) hx hb dX11_heard_137 (by decide) ?_
                  exact ih44 _ _ _ _ _ _ _ _ T (lv_sub hl [3, 4, 5, 0] rfl) h
                · replace h := of_ c27 h
                  refine lv_iload_n hx hb dX11_heard_132 rfl (lv_at hl 5 rfl) ?_
                  obtain ⟨rfl, rfl⟩ := os2 h
                  exact th_iret hQ C hr hk T (Nat.le_of_ble_eq_true rfl) (Nat.le_of_ble_eq_true rfl) dX11_heard_133
  unfold f_X11_heard at h
  refine lv_iload_n hx hb dX11_heard_0 rfl (lv_at hl 1 rfl) ?_
  refine lv_iconst (v := 0) hx hb dX11_heard_1 (by decide) ?_
  refine lv_iconst (v := 3) hx hb dX11_heard_2 (by decide) ?_
  obtain ⟨v1, e2, h⟩ := ob_ h
  refine th_callS (As := [.int x1, .int 0, .int 3]) (rest := []) C T (c_X11_within e2) k_RX11_102 rfl hl.1 rfl (st1 := [.int v1]) rfl (cells1 := 0) rfl (slots1 := 0) rfl (Nat.le_of_ble_eq_true rfl) ⟨Nat.le_of_ble_eq_true rfl, Nat.le_of_ble_eq_true rfl⟩ ⟨Nat.le_of_ble_eq_true rfl, Nat.le_of_ble_eq_true rfl⟩ dX11_heard_3 (fun H locs T => ?_)
  refine lv_if_ne (tgt := 12) hx hb dX11_heard_6 (by decide) (fun c3 => ?_) (fun c3 => ?_)
  · replace h := of_ c3 h
    refine lv_aload_n hx hb dX11_heard_12 rfl (lv_at hl 0 rfl) ?_
    obtain ⟨a4, e5, h⟩ := ob_ h
    refine g_RX11_58 C T e5 dX11_heard_13 ?_
    refine lv_iload_n hx hb dX11_heard_16 rfl (lv_at hl 1 rfl) ?_
    obtain ⟨v6, e7, h⟩ := ob_ h
    refine th_iald C T e7 dX11_heard_17 ?_
    refine lv_iconst (v := -1) hx hb dX11_heard_18 (by decide) ?_
    refine lv_icmp_ne (tgt := 25) hx hb dX11_heard_19 (by decide) (fun c8 => ?_) (fun c8 => ?_)
    · replace h := of_ c8 h
      refine lv_aload_n hx hb dX11_heard_25 rfl (lv_at hl 0 rfl) ?_
      obtain ⟨a9, e10, h⟩ := ob_ h
      refine g_RX11_61 C T e10 dX11_heard_26 ?_
      refine lv_iload_n hx hb dX11_heard_29 rfl (lv_at hl 1 rfl) ?_
      obtain ⟨v11, e12, h⟩ := ob_ h
      refine th_iald C T e12 dX11_heard_30 ?_
      refine lv_istore_n (lv' := [(2, .int v11), (0, .ref t), (1, .int x1)]) hx hb dX11_heard_31 rfl hl (by decide) rfl (fun ls hl => ?_)
      refine lv_iload_n hx hb dX11_heard_32 rfl (lv_at hl 0 rfl) ?_
      refine lv_iconst (v := 2) hx hb dX11_heard_33 (by decide) ?_
      refine th_irem C dX11_heard_34 (by decide) ?_
      refine lv_iconst (v := 1) hx hb dX11_heard_35 (by decide) ?_
      refine lv_icmp_ne (tgt := 42) hx hb dX11_heard_36 (by decide) (fun c13 => ?_) (fun c13 => ?_)
      · replace h := of_ c13 h
        refine lv_iconst (v := 0) hx hb dX11_heard_42 (by decide) ?_
        refine lv_istore_n (lv' := [(3, .int 0), (2, .int v11), (0, .ref t), (1, .int x1)]) hx hb dX11_heard_43 rfl hl (by decide) rfl (fun ls hl => ?_)
        exact J44 fu _ _ _ _ _ _ _ _ T (lv_sub hl [2, 3, 1, 0] rfl) h
      · replace h := ot_ c13 h
        refine lv_bipush (v := -2) hx hb dX11_heard_39 (by decide) ?_
        obtain ⟨rfl, rfl⟩ := os2 h
        exact th_iret hQ C hr hk T (Nat.le_of_ble_eq_true rfl) (Nat.le_of_ble_eq_true rfl) dX11_heard_41
    · replace h := ot_ c8 h
      refine lv_bipush (v := -11) hx hb dX11_heard_22 (by decide) ?_
      obtain ⟨rfl, rfl⟩ := os2 h
      exact th_iret hQ C hr hk T (Nat.le_of_ble_eq_true rfl) (Nat.le_of_ble_eq_true rfl) dX11_heard_24
  · replace h := ot_ c3 h
    refine lv_bipush (v := -2) hx hb dX11_heard_9 (by decide) ?_
    obtain ⟨rfl, rfl⟩ := os2 h
    exact th_iret hQ C hr hk T (Nat.le_of_ble_eq_true rfl) (Nat.le_of_ble_eq_true rfl) dX11_heard_11
set_option maxRecDepth 100000 in
set_option maxHeartbeats 4000000 in
theorem c_X11_where {l : Launch} {G : th_G} {σ : th_S} {μ : th_M} {t : Nat} {x1 : Int32} {x2 : Int32} {r : Int32} {μ' : th_M} (h : f_X11_where σ μ t x1 x2 = some (r, μ')) : th_Met l G yX11_where cX11_where 5 (some FieldType.int) { frames := 4, cells := 0, slots := 0, locals := 155 } [.ref t, .int x1, .int x2] σ μ (some (.int r)) σ μ' := by
  refine th_ofW (by decide +kernel) (Nat.le_of_ble_eq_true rfl) ?_
  intro p e s m args below meth c ls Q hQ C hr hk hnm T hl
  have hx := C.1
  have hb := C.2.1
  have C : CallFix p m c cX11_where 5 s args th_ws RX11 := C
  have hl : lv_has ls 5 [(0, .ref t), (1, .int x1), (2, .int x2)] := hl
  have J25 : ∀ (n : Nat) (μ : th_M) (t : Nat) (x1 : Int32) (x2 : Int32) (x3 : Int32) (x4 : Int32) (H : Heap) (locs : List Loc) (ls : Array Slot), th_R G s H locs σ μ → lv_has ls 5 [(0, .ref t), (1, .int x1), (2, .int x2), (3, .int x3), (4, .int x4)] → f_X11_where_b25  n σ μ t x1 x2 x3 x4 = some (r, μ') → W p l e { frames := 4, cells := 0, slots := 0, locals := 155 } s m args below meth c H locs 0 0 Q (F0 m 25 ls []) := by
    intro n
    induction n with
    | zero => intro μ t x1 x2 x3 x4 H locs ls T hl h; unfold f_X11_where_b25 at h; cases h
    | succ n25 ih25 =>
      intro μ t x1 x2 x3 x4 H locs ls T hl h
      unfold f_X11_where_b25 at h
      refine lv_iload hx hb dX11_where_25 (lv_at hl 4 rfl) ?_
      refine lv_bipush (v := 8) hx hb dX11_where_27 (by decide) ?_
      refine lv_icmp_ge (tgt := 64) hx hb dX11_where_29 (by decide) (fun c1 => ?_) (fun c1 => ?_)
      · replace h := ot_ c1 h
        refine lv_iload_n hx hb dX11_where_64 rfl (lv_at hl 3 rfl) ?_
        obtain ⟨rfl, rfl⟩ := os2 h
        exact th_iret hQ C hr hk T (Nat.le_of_ble_eq_true rfl) (Nat.le_of_ble_eq_true rfl) dX11_where_65
      · replace h := of_ c1 h
        refine lv_aload_n hx hb dX11_where_32 rfl (lv_at hl 0 rfl) ?_
        refine lv_iload_n hx hb dX11_where_33 rfl (lv_at hl 1 rfl) ?_
        refine lv_bipush (v := 8) hx hb dX11_where_34 (by decide) ?_
        refine lv_iload_n hx hb dX11_where_36 rfl (lv_at hl 2 rfl) ?_
        refine lv_imul hx hb dX11_where_37 ?_
        refine lv_iload hx hb dX11_where_38 (lv_at hl 4 rfl) ?_
        refine lv_iadd hx hb dX11_where_40 ?_
        refine lv_aload_n hx hb dX11_where_41 rfl (lv_at hl 0 rfl) ?_
        obtain ⟨v2, e3, h⟩ := ob_ h
        refine g_RX11_142 C T e3 dX11_where_42 ?_
        obtain ⟨k4, h⟩ := oc_ h
        obtain ⟨v5, μ6, e7, h⟩ := ob2 h
        refine th_callV (As := [.int x1, .int ((8 * x2) + x4), .int v2]) (rest := []) C T (c_X11_would e7) k_RX11_145 11 rfl rfl (by decide) k4 rfl hl.1 rfl (st1 := [.int v5]) rfl (cells1 := 0) rfl (slots1 := 0) rfl (Nat.le_of_ble_eq_true rfl) ⟨Nat.le_of_ble_eq_true rfl, Nat.le_of_ble_eq_true rfl⟩ ⟨Nat.le_of_ble_eq_true rfl, Nat.le_of_ble_eq_true rfl⟩ dX11_where_45 (fun H locs T => ?_)
        refine lv_if_eq (tgt := 58) hx hb dX11_where_48 (by decide) (fun c8 => ?_) (fun c8 => ?_)
        · replace h := ot_ c8 h
          refine lv_iinc (v := x4 + 1) (lv' := [(4, .int (x4 + 1)), (0, .ref t), (1, .int x1), (2, .int x2), (3, .int x3)]) hx hb dX11_where_58 hl (k := 4) rfl rfl (by decide) rfl (fun ls hl => ?_)
          refine lv_goto (tgt := 25) hx hb dX11_where_61 (by decide) ?_
          exact ih25 _ _ _ _ _ _ _ _ _ T (lv_sub hl [1, 2, 3, 4, 0] rfl) h
        · replace h := of_ c8 h
          refine lv_iload_n hx hb dX11_where_51 rfl (lv_at hl 3 rfl) ?_
          refine lv_iconst (v := 1) hx hb dX11_where_52 (by decide) ?_
          refine lv_iload hx hb dX11_where_53 (lv_at hl 4 rfl) ?_
          refine th_ishl C dX11_where_55 ?_
          refine lv_ior hx hb dX11_where_56 ?_
          refine lv_istore_n (lv' := [(3, .int (x3 ||| (jshl 1 x4))), (0, .ref t), (1, .int x1), (2, .int x2), (4, .int x4)]) hx hb dX11_where_57 rfl hl (by decide) rfl (fun ls hl => ?_)
          refine lv_iinc (v := x4 + 1) (lv' := [(4, .int (x4 + 1)), (3, .int (x3 ||| (jshl 1 x4))), (0, .ref t), (1, .int x1), (2, .int x2)]) hx hb dX11_where_58 hl (k := 4) rfl rfl (by decide) rfl (fun ls hl => ?_)
          refine lv_goto (tgt := 25) hx hb dX11_where_61 (by decide) ?_
          exact ih25 _ _ _ _ _ _ _ _ _ T (lv_sub hl [2, 3, 4, 1, 0] rfl) h
  unfold f_X11_where at h
  refine lv_aload_n hx hb dX11_where_0 rfl (lv_at hl 0 rfl) ?_
  refine lv_iload_n hx hb dX11_where_1 rfl (lv_at hl 1 rfl) ?_
  obtain ⟨k1, h⟩ := oc_ h
  obtain ⟨v2, e3, h⟩ := ob_ h
  refine th_callV (As := [.int x1]) (rest := []) C T (c_X11_isBoat e3) k_RX11_112 11 rfl rfl (by decide) k1 rfl hl.1 rfl (st1 := [.int v2]) rfl (cells1 := 0) rfl (slots1 := 0) rfl (Nat.le_of_ble_eq_true rfl) ⟨Nat.le_of_ble_eq_true rfl, Nat.le_of_ble_eq_true rfl⟩ ⟨Nat.le_of_ble_eq_true rfl, Nat.le_of_ble_eq_true rfl⟩ dX11_where_2 (fun H locs T => ?_)
  refine lv_if_eq (tgt := 17) hx hb dX11_where_5 (by decide) (fun c4 => ?_) (fun c4 => ?_)
  · replace h := ot_ c4 h
    refine lv_bipush (v := -2) hx hb dX11_where_17 (by decide) ?_
    obtain ⟨rfl, rfl⟩ := os2 h
    exact th_iret hQ C hr hk T (Nat.le_of_ble_eq_true rfl) (Nat.le_of_ble_eq_true rfl) dX11_where_19
  · replace h := of_ c4 h
    refine lv_iload_n hx hb dX11_where_8 rfl (lv_at hl 2 rfl) ?_
    refine lv_iconst (v := 0) hx hb dX11_where_9 (by decide) ?_
    refine lv_iconst (v := 5) hx hb dX11_where_10 (by decide) ?_
    obtain ⟨v5, e6, h⟩ := ob_ h
    refine th_callS (As := [.int x2, .int 0, .int 5]) (rest := []) C T (c_X11_within e6) k_RX11_102 rfl hl.1 rfl (st1 := [.int v5]) rfl (cells1 := 0) rfl (slots1 := 0) rfl (Nat.le_of_ble_eq_true rfl) ⟨Nat.le_of_ble_eq_true rfl, Nat.le_of_ble_eq_true rfl⟩ ⟨Nat.le_of_ble_eq_true rfl, Nat.le_of_ble_eq_true rfl⟩ dX11_where_11 (fun H locs T => ?_)
    refine lv_if_ne (tgt := 20) hx hb dX11_where_14 (by decide) (fun c7 => ?_) (fun c7 => ?_)
    · replace h := of_ c7 h
      refine lv_iconst (v := 0) hx hb dX11_where_20 (by decide) ?_
      refine lv_istore_n (lv' := [(3, .int 0), (0, .ref t), (1, .int x1), (2, .int x2)]) hx hb dX11_where_21 rfl hl (by decide) rfl (fun ls hl => ?_)
      refine lv_iconst (v := 0) hx hb dX11_where_22 (by decide) ?_
      refine lv_istore (lv' := [(4, .int 0), (3, .int 0), (0, .ref t), (1, .int x1), (2, .int x2)]) hx hb dX11_where_23 hl (by decide) rfl (fun ls hl => ?_)
      exact J25 fu _ _ _ _ _ _ _ _ _ T (lv_sub hl [2, 3, 4, 1, 0] rfl) h
    · replace h := ot_ c7 h
      refine lv_bipush (v := -2) hx hb dX11_where_17 (by decide) ?_
      obtain ⟨rfl, rfl⟩ := os2 h
      exact th_iret hQ C hr hk T (Nat.le_of_ble_eq_true rfl) (Nat.le_of_ble_eq_true rfl) dX11_where_19
set_option maxRecDepth 100000 in
set_option maxHeartbeats 4000000 in
theorem c_X11_drawn {l : Launch} {G : th_G} {σ : th_S} {μ : th_M} {t : Nat} {x1 : Int32} {r : Int32} {μ' : th_M} (h : f_X11_drawn σ μ t x1 = some (r, μ')) : th_Met l G yX11_drawn cX11_drawn 5 (some FieldType.int) { frames := 5, cells := 0, slots := 0, locals := 176 } [.ref t, .int x1] σ μ (some (.int r)) σ μ' := by
  refine th_ofW (by decide +kernel) (Nat.le_of_ble_eq_true rfl) ?_
  intro p e s m args below meth c ls Q hQ C hr hk hnm T hl
  have hx := C.1
  have hb := C.2.1
  have C : CallFix p m c cX11_drawn 5 s args th_ws RX11 := C
  have hl : lv_has ls 5 [(0, .ref t), (1, .int x1)] := hl
  have J29 : ∀ (n : Nat) (μ : th_M) (t : Nat) (x2 : Int32) (x3 : Int32) (x4 : Int32) (H : Heap) (locs : List Loc) (ls : Array Slot), th_R G s H locs σ μ → lv_has ls 5 [(0, .ref t), (2, .int x2), (3, .int x3), (4, .int x4)] → f_X11_drawn_b29  n σ μ t x2 x3 x4 = some (r, μ') → W p l e { frames := 5, cells := 0, slots := 0, locals := 176 } s m args below meth c H locs 0 0 Q (F0 m 29 ls []) := by
    intro n
    induction n with
    | zero => intro μ t x2 x3 x4 H locs ls T hl h; unfold f_X11_drawn_b29 at h; cases h
    | succ n29 ih29 =>
      intro μ t x2 x3 x4 H locs ls T hl h
      unfold f_X11_drawn_b29 at h
      refine lv_iload hx hb dX11_drawn_29 (lv_at hl 3 rfl) ?_
      refine lv_aload_n hx hb dX11_drawn_31 rfl (lv_at hl 0 rfl) ?_
      obtain ⟨v1, e2, h⟩ := ob_ h
      refine g_RX11_99 C T e2 dX11_drawn_32 ?_
      refine lv_icmp_ge (tgt := 66) hx hb dX11_drawn_35 (by decide) (fun c3 => ?_) (fun c3 => ?_)
      · replace h := ot_ c3 h
        refine lv_aload_n hx hb dX11_drawn_66 rfl (lv_at hl 0 rfl) ?_
        refine lv_iload_n hx hb dX11_drawn_67 rfl (lv_at hl 1 rfl) ?_
        obtain ⟨μ4, e5, h⟩ := ob_ h
        refine p_RX11_116 C T e5 dX11_drawn_68 (fun H locs T => ?_)
        refine lv_iload_n hx hb dX11_drawn_71 rfl (lv_at hl 2 rfl) ?_
        obtain ⟨rfl, rfl⟩ := os2 h
        exact th_iret hQ C hr hk T (Nat.le_of_ble_eq_true rfl) (Nat.le_of_ble_eq_true rfl) dX11_drawn_72
      · replace h := of_ c3 h
        refine lv_aload_n hx hb dX11_drawn_38 rfl (lv_at hl 0 rfl) ?_
        obtain ⟨a6, e7, h⟩ := ob_ h
        refine g_RX11_25 C T e7 dX11_drawn_39 ?_
        refine lv_iload hx hb dX11_drawn_42 (lv_at hl 3 rfl) ?_
        obtain ⟨v8, e9, h⟩ := ob_ h
        refine th_iald C T e9 dX11_drawn_44 ?_
        refine lv_if_ne (tgt := 60) hx hb dX11_drawn_45 (by decide) (fun c10 => ?_) (fun c10 => ?_)
        · replace h := of_ c10 h
          refine lv_iinc (v := x4 + 1) (lv' := [(4, .int (x4 + 1)), (0, .ref t), (2, .int x2), (3, .int x3)]) hx hb dX11_drawn_60 hl (k := 3) rfl rfl (by decide) rfl (fun ls hl => ?_)
          refine lv_goto (tgt := 29) hx hb dX11_drawn_63 (by decide) ?_
          exact ih29 _ _ _ _ _ _ _ _ T (lv_sub hl [1, 2, 3, 0] rfl) h
        · replace h := ot_ c10 h
          refine lv_aload_n hx hb dX11_drawn_48 rfl (lv_at hl 0 rfl) ?_
          refine lv_iload hx hb dX11_drawn_49 (lv_at hl 3 rfl) ?_
          obtain ⟨k11, h⟩ := oc_ h
          obtain ⟨v12, μ13, e14, h⟩ := ob2 h
          refine th_callV (As := [.int x4]) (rest := []) C T (c_X11_would_ e14) k_RX11_151 11 rfl rfl (by decide) k11 rfl hl.1 rfl (st1 := [.int v12]) rfl (cells1 := 0) rfl (slots1 := 0) rfl (Nat.le_of_ble_eq_true rfl) ⟨Nat.le_of_ble_eq_true rfl, Nat.le_of_ble_eq_true rfl⟩ ⟨Nat.le_of_ble_eq_true rfl, Nat.le_of_ble_eq_true rfl⟩ dX11_drawn_51 (fun H locs T => ?_)
          refine lv_if_eq (tgt := 60) hx hb dX11_drawn_54 (by decide) (fun c15 => ?_) (fun c15 => ?_)
          · replace h := ot_ c15 h
            refine lv_iinc (v := x4 + 1) (lv' := [(4, .int (x4 + 1)), (0, .ref t), (2, .int x2), (3, .int x3)]) hx hb dX11_drawn_60 hl (k := 3) rfl rfl (by decide) rfl (fun ls hl => ?_)
            refine lv_goto (tgt := 29) hx hb dX11_drawn_63 (by decide) ?_
            exact ih29 _ _ _ _ _ _ _ _ T (lv_sub hl [1, 2, 3, 0] rfl) h
          · replace h := of_ c15 h
            refine lv_iinc (v := x3 + 1) (lv' := [(3, .int (x3 + 1)), (0, .ref t), (2, .int x2), (4, .int x4)]) hx hb dX11_drawn_57 hl (k := 2) rfl rfl (by decide) rfl (fun ls hl => ?_)
            refine lv_iinc (v := x4 + 1) (lv' := [(4, .int (x4 + 1)), (3, .int (x3 + 1)), (0, .ref t), (2, .int x2)]) hx hb dX11_drawn_60 hl (k := 3) rfl rfl (by decide) rfl (fun ls hl => ?_)
            refine lv_goto (tgt := 29) hx hb dX11_drawn_63 (by decide) ?_
            exact ih29 _ _ _ _ _ _ _ _ T (lv_sub hl [2, 3, 1, 0] rfl) h
  unfold f_X11_drawn at h
  refine lv_aload_n hx hb dX11_drawn_0 rfl (lv_at hl 0 rfl) ?_
  obtain ⟨v1, e2, h⟩ := ob_ h
  refine g_RX11_116 C T e2 dX11_drawn_1 ?_
  refine lv_istore_n (lv' := [(2, .int v1), (0, .ref t), (1, .int x1)]) hx hb dX11_drawn_4 rfl hl (by decide) rfl (fun ls hl => ?_)
  refine lv_aload_n hx hb dX11_drawn_5 rfl (lv_at hl 1 rfl) ?_
  refine lv_iload_n hx hb dX11_drawn_6 rfl (lv_at hl 2 rfl) ?_
  refine lv_ldcw hx hb C.2.2.2.1 (C.2.2.2.2 _ w_1183) dX11_drawn_7 ?_
  refine lv_imul hx hb dX11_drawn_10 ?_
  refine lv_sipush (v := 12345) hx hb dX11_drawn_11 (by decide) ?_
  refine lv_iadd hx hb dX11_drawn_14 ?_
  refine lv_bipush (v := 10) hx hb dX11_drawn_15 (by decide) ?_
  refine lv_iushr hx hb dX11_drawn_17 rfl ?_
  refine lv_bipush (v := 10) hx hb dX11_drawn_18 (by decide) ?_
  refine th_irem C dX11_drawn_20 (by decide) ?_
  obtain ⟨μ3, e4, h⟩ := ob_ h
  refine p_RX11_116 C T e4 dX11_drawn_21 (fun H locs T => ?_)
  refine lv_iconst (v := 0) hx hb dX11_drawn_24 (by decide) ?_
  refine lv_istore_n (lv' := [(3, .int 0), (2, .int v1), (0, .ref t), (1, .int x1)]) hx hb dX11_drawn_25 rfl hl (by decide) rfl (fun ls hl => ?_)
  refine lv_iconst (v := 0) hx hb dX11_drawn_26 (by decide) ?_
  refine lv_istore (lv' := [(4, .int 0), (3, .int 0), (2, .int v1), (0, .ref t), (1, .int x1)]) hx hb dX11_drawn_27 hl (by decide) rfl (fun ls hl => ?_)
  exact J29 fu _ _ _ _ _ _ _ _ T (lv_sub hl [3, 2, 1, 0] rfl) h
set_option maxRecDepth 100000 in
set_option maxHeartbeats 4000000 in
theorem c_X11_lowest {l : Launch} {G : th_G} {σ : th_S} {μ : th_M} {x0 : Int64} {x2 : Int64} {x4 : Int32} {r : Int64} (h : f_X11_lowest x0 x2 x4 = some r) : th_Met l G yX11_lowest cX11_lowest 11 (some FieldType.long) { frames := 0, cells := 0, slots := 0, locals := 0 } [.long x0, .long x2, .int x4] σ μ (some (.long r)) σ μ := by
  refine th_ofW (by decide +kernel) (Nat.le_of_ble_eq_true rfl) ?_
  intro p e s m args below meth c ls Q hQ C hr hk hnm T hl
  have hx := C.1
  have hb := C.2.1
  have C : CallFix p m c cX11_lowest 11 s args th_ws RX11 := C
  have hl : lv_has ls 11 [(0, .long x0), (2, .long x2), (4, .int x4)] := hl
  have J6 : ∀ (n : Nat) (x0 : Int64) (x2 : Int64) (x4 : Int32) (x5 : Int64) (x7 : Int64) (H : Heap) (locs : List Loc) (ls : Array Slot), th_R G s H locs σ μ → lv_has ls 11 [(0, .long x0), (2, .long x2), (4, .int x4), (5, .long x5), (7, .long x7)] → f_X11_lowest_b6  n x0 x2 x4 x5 x7 = some r → W p l e { frames := 0, cells := 0, slots := 0, locals := 0 } s m args below meth c H locs 0 0 Q (F0 m 6 ls []) := by
    intro n
    induction n with
    | zero => intro x0 x2 x4 x5 x7 H locs ls T hl h; unfold f_X11_lowest_b6 at h; cases h
    | succ n6 ih6 =>
      intro x0 x2 x4 x5 x7 H locs ls T hl h
      unfold f_X11_lowest_b6 at h
      refine lv_lload hx hb dX11_lowest_6 (lv_at hl 4 rfl) ?_
      refine lv_lconst (v := 0) hx hb dX11_lowest_8 (by decide) ?_
      refine W.lcmp hx hb dX11_lowest_9 ?_
      refine lv_if_eq (tgt := 31) hx hb dX11_lowest_10 (by decide) (fun c1 => ?_) (fun c1 => ?_)
      · replace h := ot_ c1 h
        refine lv_iload hx hb dX11_lowest_31 (lv_at hl 2 rfl) ?_
        refine lv_if_ne (tgt := 43) hx hb dX11_lowest_33 (by decide) (fun c2 => ?_) (fun c2 => ?_)
        · replace h := of_ c2 h
          refine lv_lload_n hx hb dX11_lowest_43 rfl (lv_at hl 1 rfl) ?_
          refine lv_lload hx hb dX11_lowest_44 (lv_at hl 3 rfl) ?_
          obtain ⟨g3, h⟩ := ogg h
          refine lv_ldiv hx hb dX11_lowest_46 g3 ?_
          obtain rfl := os1 h
          exact th_lret hQ C hr hk T (Nat.le_of_ble_eq_true rfl) (Nat.le_of_ble_eq_true rfl) dX11_lowest_47
        · replace h := ot_ c2 h
          refine lv_lload_n hx hb dX11_lowest_36 rfl (lv_at hl 0 rfl) ?_
          refine lv_lload hx hb dX11_lowest_37 (lv_at hl 3 rfl) ?_
          obtain ⟨g4, h⟩ := ogg h
          refine lv_ldiv hx hb dX11_lowest_39 g4 ?_
          refine lv_goto (tgt := 47) hx hb dX11_lowest_40 (by decide) ?_
          obtain rfl := os1 h
          exact th_lret hQ C hr hk T (Nat.le_of_ble_eq_true rfl) (Nat.le_of_ble_eq_true rfl) dX11_lowest_47
      · replace h := of_ c1 h
        refine lv_lload hx hb dX11_lowest_13 (lv_at hl 3 rfl) ?_
        refine lv_lload hx hb dX11_lowest_15 (lv_at hl 4 rfl) ?_
        obtain ⟨g5, h⟩ := ogg h
        refine th_lrem C dX11_lowest_17 g5 ?_
        refine lv_lstore (lv' := [(9, .long (jremL x5 x7)), (0, .long x0), (2, .long x2), (4, .int x4), (5, .long x5), (7, .long x7)]) hx hb dX11_lowest_18 hl (by decide) rfl (fun ls hl => ?_)
        refine lv_lload hx hb dX11_lowest_20 (lv_at hl 5 rfl) ?_
        refine lv_lstore (lv' := [(5, .long x7), (9, .long (jremL x5 x7)), (0, .long x0), (2, .long x2), (4, .int x4), (7, .long x7)]) hx hb dX11_lowest_22 hl (by decide) rfl (fun ls hl => ?_)
        refine lv_lload hx hb dX11_lowest_24 (lv_at hl 1 rfl) ?_
        refine lv_lstore (lv' := [(7, .long (jremL x5 x7)), (5, .long x7), (9, .long (jremL x5 x7)), (0, .long x0), (2, .long x2), (4, .int x4)]) hx hb dX11_lowest_26 hl (by decide) rfl (fun ls hl => ?_)
        refine lv_goto (tgt := 6) hx hb dX11_lowest_28 (by decide) ?_
        exact ih6 _ _ _ _ _ _ _ _ T (lv_sub hl [3, 4, 5, 1, 0] rfl) h
  unfold f_X11_lowest at h
  refine lv_lload_n hx hb dX11_lowest_0 rfl (lv_at hl 0 rfl) ?_
  refine lv_lstore (lv' := [(5, .long x0), (0, .long x0), (2, .long x2), (4, .int x4)]) hx hb dX11_lowest_1 hl (by decide) rfl (fun ls hl => ?_)
  refine lv_lload_n hx hb dX11_lowest_3 rfl (lv_at hl 2 rfl) ?_
  refine lv_lstore (lv' := [(7, .long x2), (5, .long x0), (0, .long x0), (2, .long x2), (4, .int x4)]) hx hb dX11_lowest_4 hl (by decide) rfl (fun ls hl => ?_)
  exact J6 fu _ _ _ _ _ _ _ _ T (lv_sub hl [2, 3, 4, 1, 0] rfl) h
set_option maxRecDepth 100000 in
set_option maxHeartbeats 4000000 in
theorem c_X11_chance {l : Launch} {G : th_G} {σ : th_S} {μ : th_M} {t : Nat} {x1 : Int32} {x2 : Int32} {x3 : Int32} {r : Int64} {μ' : th_M} (h : f_X11_chance σ μ t x1 x2 x3 = some (r, μ')) : th_Met l G yX11_chance cX11_chance 7 (some FieldType.long) { frames := 6, cells := 0, slots := 0, locals := 200 } [.ref t, .int x1, .int x2, .int x3] σ μ (some (.long r)) σ μ' := by
  refine th_ofW (by decide +kernel) (Nat.le_of_ble_eq_true rfl) ?_
  intro p e s m args below meth c ls Q hQ C hr hk hnm T hl
  have hx := C.1
  have hb := C.2.1
  have C : CallFix p m c cX11_chance 7 s args th_ws RX11 := C
  have hl : lv_has ls 7 [(0, .ref t), (1, .int x1), (2, .int x2), (3, .int x3)] := hl
  have J63 : ∀ (n : Nat) (μ : th_M) (t : Nat) (x1 : Int32) (x2 : Int32) (x3 : Int32) (x4 : Int32) (x5 : Int32) (x6 : Int32) (H : Heap) (locs : List Loc) (ls : Array Slot), th_R G s H locs σ μ → lv_has ls 7 [(0, .ref t), (1, .int x1), (2, .int x2), (3, .int x3), (4, .int x4), (5, .int x5), (6, .int x6)] → f_X11_chance_b63  n σ μ t x1 x2 x3 x4 x5 x6 = some (r, μ') → W p l e { frames := 6, cells := 0, slots := 0, locals := 200 } s m args below meth c H locs 0 0 Q (F0 m 63 ls []) := by
    intro n
    induction n with
    | zero => intro μ t x1 x2 x3 x4 x5 x6 H locs ls T hl h; unfold f_X11_chance_b63 at h; cases h
    | succ n63 ih63 =>
      intro μ t x1 x2 x3 x4 x5 x6 H locs ls T hl h
      unfold f_X11_chance_b63 at h
      refine lv_iload hx hb dX11_chance_63 (lv_at hl 6 rfl) ?_
      refine lv_iload_n hx hb dX11_chance_65 rfl (lv_at hl 2 rfl) ?_
      refine lv_icmp_ge (tgt := 91) hx hb dX11_chance_66 (by decide) (fun c1 => ?_) (fun c1 => ?_)
      · replace h := ot_ c1 h
        refine lv_iload hx hb dX11_chance_91 (lv_at hl 5 rfl) ?_
        refine lv_i2l hx hb dX11_chance_93 rfl ?_
        refine lv_iload_n hx hb dX11_chance_94 rfl (lv_at hl 2 rfl) ?_
        refine lv_i2l hx hb dX11_chance_95 rfl ?_
        refine lv_iload_n hx hb dX11_chance_96 rfl (lv_at hl 3 rfl) ?_
        obtain ⟨v2, e3, h⟩ := ob_ h
        refine th_callS (As := [.long x5.toInt64, .long x2.toInt64, .int x3]) (rest := []) C T (c_X11_lowest e3) k_RX11_289 rfl hl.1 rfl (st1 := [.long v2]) rfl (cells1 := 0) rfl (slots1 := 0) rfl (Nat.le_of_ble_eq_true rfl) ⟨Nat.le_of_ble_eq_true rfl, Nat.le_of_ble_eq_true rfl⟩ ⟨Nat.le_of_ble_eq_true rfl, Nat.le_of_ble_eq_true rfl⟩ dX11_chance_97 (fun H locs T => ?_)
        obtain ⟨rfl, rfl⟩ := os2 h
        exact th_lret hQ C hr hk T (Nat.le_of_ble_eq_true rfl) (Nat.le_of_ble_eq_true rfl) dX11_chance_100
      · replace h := of_ c1 h
        refine lv_aload_n hx hb dX11_chance_69 rfl (lv_at hl 0 rfl) ?_
        refine lv_iload_n hx hb dX11_chance_70 rfl (lv_at hl 1 rfl) ?_
        refine lv_iload hx hb dX11_chance_71 (lv_at hl 6 rfl) ?_
        refine lv_iadd hx hb dX11_chance_73 ?_
        obtain ⟨k4, h⟩ := oc_ h
        obtain ⟨v5, μ6, e7, h⟩ := ob2 h
        refine th_callV (As := [.int (x1 + x6)]) (rest := []) C T (c_X11_drawn e7) k_RX11_286 11 rfl rfl (by decide) k4 rfl hl.1 rfl (st1 := [.int v5]) rfl (cells1 := 0) rfl (slots1 := 0) rfl (Nat.le_of_ble_eq_true rfl) ⟨Nat.le_of_ble_eq_true rfl, Nat.le_of_ble_eq_true rfl⟩ ⟨Nat.le_of_ble_eq_true rfl, Nat.le_of_ble_eq_true rfl⟩ dX11_chance_74 (fun H locs T => ?_)
        refine lv_iload hx hb dX11_chance_77 (lv_at hl 4 rfl) ?_
        refine lv_icmp_ne (tgt := 85) hx hb dX11_chance_79 (by decide) (fun c8 => ?_) (fun c8 => ?_)
        · replace h := of_ c8 h
          refine lv_iinc (v := x6 + 1) (lv' := [(6, .int (x6 + 1)), (0, .ref t), (1, .int x1), (2, .int x2), (3, .int x3), (4, .int x4), (5, .int x5)]) hx hb dX11_chance_85 hl (k := 6) rfl rfl (by decide) rfl (fun ls hl => ?_)
          refine lv_goto (tgt := 63) hx hb dX11_chance_88 (by decide) ?_
          exact ih63 _ _ _ _ _ _ _ _ _ _ _ T (lv_sub hl [1, 2, 3, 4, 5, 6, 0] rfl) h
        · replace h := ot_ c8 h
          refine lv_iinc (v := x5 + 1) (lv' := [(5, .int (x5 + 1)), (0, .ref t), (1, .int x1), (2, .int x2), (3, .int x3), (4, .int x4), (6, .int x6)]) hx hb dX11_chance_82 hl (k := 5) rfl rfl (by decide) rfl (fun ls hl => ?_)
          refine lv_iinc (v := x6 + 1) (lv' := [(6, .int (x6 + 1)), (5, .int (x5 + 1)), (0, .ref t), (1, .int x1), (2, .int x2), (3, .int x3), (4, .int x4)]) hx hb dX11_chance_85 hl (k := 6) rfl rfl (by decide) rfl (fun ls hl => ?_)
          refine lv_goto (tgt := 63) hx hb dX11_chance_88 (by decide) ?_
          exact ih63 _ _ _ _ _ _ _ _ _ _ _ T (lv_sub hl [2, 3, 4, 5, 6, 1, 0] rfl) h
  have J29 : ∀ (n : Nat) (μ : th_M) (t : Nat) (x1 : Int32) (x2 : Int32) (x3 : Int32) (x4 : Int32) (x5 : Int32) (H : Heap) (locs : List Loc) (ls : Array Slot), th_R G s H locs σ μ → lv_has ls 7 [(0, .ref t), (1, .int x1), (2, .int x2), (3, .int x3), (4, .int x4), (5, .int x5)] → f_X11_chance_b29  n σ μ t x1 x2 x3 x4 x5 = some (r, μ') → W p l e { frames := 6, cells := 0, slots := 0, locals := 200 } s m args below meth c H locs 0 0 Q (F0 m 29 ls []) := by
    intro n
    induction n with
    | zero => intro μ t x1 x2 x3 x4 x5 H locs ls T hl h; unfold f_X11_chance_b29 at h; cases h
    | succ n29 ih29 =>
      intro μ t x1 x2 x3 x4 x5 H locs ls T hl h
      unfold f_X11_chance_b29 at h
      refine lv_iload hx hb dX11_chance_29 (lv_at hl 5 rfl) ?_
      refine lv_aload_n hx hb dX11_chance_31 rfl (lv_at hl 0 rfl) ?_
      obtain ⟨v1, e2, h⟩ := ob_ h
      refine g_RX11_99 C T e2 dX11_chance_32 ?_
      refine lv_icmp_ge (tgt := 57) hx hb dX11_chance_35 (by decide) (fun c3 => ?_) (fun c3 => ?_)
      · replace h := ot_ c3 h
        refine lv_iconst (v := 0) hx hb dX11_chance_57 (by decide) ?_
        refine lv_istore (lv' := [(5, .int 0), (0, .ref t), (1, .int x1), (2, .int x2), (3, .int x3), (4, .int x4)]) hx hb dX11_chance_58 hl (by decide) rfl (fun ls hl => ?_)
        refine lv_iconst (v := 0) hx hb dX11_chance_60 (by decide) ?_
        refine lv_istore (lv' := [(6, .int 0), (5, .int 0), (0, .ref t), (1, .int x1), (2, .int x2), (3, .int x3), (4, .int x4)]) hx hb dX11_chance_61 hl (by decide) rfl (fun ls hl => ?_)
        exact J63 fu _ _ _ _ _ _ _ _ _ _ _ T (lv_sub hl [2, 3, 4, 5, 6, 1, 0] rfl) h
      · replace h := of_ c3 h
        refine lv_aload_n hx hb dX11_chance_38 rfl (lv_at hl 0 rfl) ?_
        obtain ⟨a4, e5, h⟩ := ob_ h
        refine g_RX11_25 C T e5 dX11_chance_39 ?_
        refine lv_iload hx hb dX11_chance_42 (lv_at hl 5 rfl) ?_
        obtain ⟨v6, e7, h⟩ := ob_ h
        refine th_iald C T e7 dX11_chance_44 ?_
        refine lv_if_ne (tgt := 51) hx hb dX11_chance_45 (by decide) (fun c8 => ?_) (fun c8 => ?_)
        · replace h := of_ c8 h
          refine lv_iinc (v := x5 + 1) (lv' := [(5, .int (x5 + 1)), (0, .ref t), (1, .int x1), (2, .int x2), (3, .int x3), (4, .int x4)]) hx hb dX11_chance_51 hl (k := 5) rfl rfl (by decide) rfl (fun ls hl => ?_)
          refine lv_goto (tgt := 29) hx hb dX11_chance_54 (by decide) ?_
          exact ih29 _ _ _ _ _ _ _ _ _ _ T (lv_sub hl [1, 2, 3, 4, 5, 0] rfl) h
        · replace h := ot_ c8 h
          refine lv_iinc (v := x4 + 1) (lv' := [(4, .int (x4 + 1)), (0, .ref t), (1, .int x1), (2, .int x2), (3, .int x3), (5, .int x5)]) hx hb dX11_chance_48 hl (k := 4) rfl rfl (by decide) rfl (fun ls hl => ?_)
          refine lv_iinc (v := x5 + 1) (lv' := [(5, .int (x5 + 1)), (4, .int (x4 + 1)), (0, .ref t), (1, .int x1), (2, .int x2), (3, .int x3)]) hx hb dX11_chance_51 hl (k := 5) rfl rfl (by decide) rfl (fun ls hl => ?_)
          refine lv_goto (tgt := 29) hx hb dX11_chance_54 (by decide) ?_
          exact ih29 _ _ _ _ _ _ _ _ _ _ T (lv_sub hl [2, 3, 4, 5, 1, 0] rfl) h
  unfold f_X11_chance at h
  refine lv_iload_n hx hb dX11_chance_0 rfl (lv_at hl 2 rfl) ?_
  refine lv_iconst (v := 1) hx hb dX11_chance_1 (by decide) ?_
  refine lv_bipush (v := 20) hx hb dX11_chance_2 (by decide) ?_
  obtain ⟨v1, e2, h⟩ := ob_ h
  refine th_callS (As := [.int x2, .int 1, .int 20]) (rest := []) C T (c_X11_within e2) k_RX11_102 rfl hl.1 rfl (st1 := [.int v1]) rfl (cells1 := 0) rfl (slots1 := 0) rfl (Nat.le_of_ble_eq_true rfl) ⟨Nat.le_of_ble_eq_true rfl, Nat.le_of_ble_eq_true rfl⟩ ⟨Nat.le_of_ble_eq_true rfl, Nat.le_of_ble_eq_true rfl⟩ dX11_chance_4 (fun H locs T => ?_)
  refine lv_if_eq (tgt := 19) hx hb dX11_chance_7 (by decide) (fun c3 => ?_) (fun c3 => ?_)
  · replace h := ot_ c3 h
    refine lv_ldc2 hx hb C.2.2.2.1 (C.2.2.2.2 _ w_1188) dX11_chance_19 ?_
    obtain ⟨rfl, rfl⟩ := os2 h
    exact th_lret hQ C hr hk T (Nat.le_of_ble_eq_true rfl) (Nat.le_of_ble_eq_true rfl) dX11_chance_22
  · replace h := of_ c3 h
    refine lv_iload_n hx hb dX11_chance_10 rfl (lv_at hl 3 rfl) ?_
    refine lv_iconst (v := 0) hx hb dX11_chance_11 (by decide) ?_
    refine lv_iconst (v := 1) hx hb dX11_chance_12 (by decide) ?_
    obtain ⟨v4, e5, h⟩ := ob_ h
    refine th_callS (As := [.int x3, .int 0, .int 1]) (rest := []) C T (c_X11_within e5) k_RX11_102 rfl hl.1 rfl (st1 := [.int v4]) rfl (cells1 := 0) rfl (slots1 := 0) rfl (Nat.le_of_ble_eq_true rfl) ⟨Nat.le_of_ble_eq_true rfl, Nat.le_of_ble_eq_true rfl⟩ ⟨Nat.le_of_ble_eq_true rfl, Nat.le_of_ble_eq_true rfl⟩ dX11_chance_13 (fun H locs T => ?_)
    refine lv_if_ne (tgt := 23) hx hb dX11_chance_16 (by decide) (fun c6 => ?_) (fun c6 => ?_)
    · replace h := of_ c6 h
      refine lv_iconst (v := 0) hx hb dX11_chance_23 (by decide) ?_
      refine lv_istore (lv' := [(4, .int 0), (0, .ref t), (1, .int x1), (2, .int x2), (3, .int x3)]) hx hb dX11_chance_24 hl (by decide) rfl (fun ls hl => ?_)
      refine lv_iconst (v := 0) hx hb dX11_chance_26 (by decide) ?_
      refine lv_istore (lv' := [(5, .int 0), (4, .int 0), (0, .ref t), (1, .int x1), (2, .int x2), (3, .int x3)]) hx hb dX11_chance_27 hl (by decide) rfl (fun ls hl => ?_)
      exact J29 fu _ _ _ _ _ _ _ _ _ _ T (lv_sub hl [2, 3, 4, 5, 1, 0] rfl) h
    · replace h := ot_ c6 h
      refine lv_ldc2 hx hb C.2.2.2.1 (C.2.2.2.2 _ w_1188) dX11_chance_19 ?_
      obtain ⟨rfl, rfl⟩ := os2 h
      exact th_lret hQ C hr hk T (Nat.le_of_ble_eq_true rfl) (Nat.le_of_ble_eq_true rfl) dX11_chance_22
