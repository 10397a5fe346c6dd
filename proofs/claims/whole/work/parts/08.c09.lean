set_option maxRecDepth 100000 in
set_option maxHeartbeats 4000000 in
theorem c_X11_part {l : Launch} {G : th_G} {σ : th_S} {μ : th_M} {t : Nat} {x1 : Nat} {x2 : Int32} {r : Int32} {μ' : th_M} (h : f_X11_part σ μ t x1 x2 = some (r, μ')) : th_Met l G yX11_part cX11_part 3 (some FieldType.boolean) { frames := 72, cells := 0, slots := 0, locals := 1667 } [.ref t, .ref (G.2.2.2.1 x1), .int x2] σ μ (some (.int r)) σ μ' := by
  refine th_ofW (by decide +kernel) (Nat.le_of_ble_eq_true rfl) ?_
  intro p e s m args below meth c ls Q hQ C hr hk hnm T hl
  have hx := C.1
  have hb := C.2.1
  have C : CallFix p m c cX11_part 3 s args th_ws RX11 := C
  have hl : lv_has ls 3 [(0, .ref t), (1, .ref (G.2.2.2.1 x1)), (2, .int x2)] := hl
  unfold f_X11_part at h
  refine lv_aload_n hx hb dX11_part_0 rfl (lv_at hl 0 rfl) ?_
  refine lv_aload_n hx hb dX11_part_1 rfl (lv_at hl 1 rfl) ?_
  obtain ⟨k1, h⟩ := oc_ h
  obtain ⟨v2, e3, h⟩ := ob_ h
  refine th_callV (As := [.ref (G.2.2.2.1 x1)]) (rest := []) C T (c_X11_is e3) k_RX11_178 11 rfl rfl (by decide) k1 rfl hl.1 rfl (st1 := [.int v2]) rfl (cells1 := 0) rfl (slots1 := 0) rfl (Nat.le_of_ble_eq_true rfl) ⟨Nat.le_of_ble_eq_true rfl, Nat.le_of_ble_eq_true rfl⟩ ⟨Nat.le_of_ble_eq_true rfl, Nat.le_of_ble_eq_true rfl⟩ dX11_part_2 (fun H locs T => ?_)
  refine lv_if_ne (tgt := 10) hx hb dX11_part_5 (by decide) (fun c4 => ?_) (fun c4 => ?_)
  · replace h := of_ c4 h
    refine lv_aload_n hx hb dX11_part_10 rfl (lv_at hl 0 rfl) ?_
    obtain ⟨μ5, e6, h⟩ := ob_ h
    refine th_callV (As := []) (rest := []) C T (c_X11_next e6) k_RX11_202 11 rfl rfl (by decide) k1 rfl hl.1 rfl (st1 := []) rfl (cells1 := 0) rfl (slots1 := 0) rfl (Nat.le_of_ble_eq_true rfl) ⟨Nat.le_of_ble_eq_true rfl, Nat.le_of_ble_eq_true rfl⟩ ⟨Nat.le_of_ble_eq_true rfl, Nat.le_of_ble_eq_true rfl⟩ dX11_part_11 (fun H locs T => ?_)
    refine lv_aload_n hx hb dX11_part_14 rfl (lv_at hl 0 rfl) ?_
    obtain ⟨a7, e8, h⟩ := ob_ h
    refine g_RX11_37 C T e8 dX11_part_15 ?_
    refine lv_iconst (v := 4) hx hb dX11_part_18 (by decide) ?_
    refine lv_aload_n hx hb dX11_part_19 rfl (lv_at hl 0 rfl) ?_
    obtain ⟨v9, e10, h⟩ := ob_ h
    refine g_RX11_190 C T e10 dX11_part_20 ?_
    refine lv_imul hx hb dX11_part_23 ?_
    refine lv_iload_n hx hb dX11_part_24 rfl (lv_at hl 2 rfl) ?_
    refine lv_iadd hx hb dX11_part_25 ?_
    refine lv_aload_n hx hb dX11_part_26 rfl (lv_at hl 0 rfl) ?_
    obtain ⟨v11, e12, h⟩ := ob_ h
    refine g_RX11_193 C T e12 dX11_part_27 ?_
    obtain ⟨μ13, e14, h⟩ := ob_ h
    refine th_iast C T e14 dX11_part_30 (fun H locs T => ?_)
    refine lv_aload_n hx hb dX11_part_31 rfl (lv_at hl 0 rfl) ?_
    obtain ⟨v15, μ16, e17, h⟩ := ob2 h
    refine th_callV (As := []) (rest := []) C T (c_X11_any e17) k_RX11_233 11 rfl rfl (by decide) k1 rfl hl.1 rfl (st1 := [.int v15]) rfl (cells1 := 0) rfl (slots1 := 0) rfl (Nat.le_of_ble_eq_true rfl) ⟨Nat.le_of_ble_eq_true rfl, Nat.le_of_ble_eq_true rfl⟩ ⟨Nat.le_of_ble_eq_true rfl, Nat.le_of_ble_eq_true rfl⟩ dX11_part_32 (fun H locs T => ?_)
    refine lv_if_eq (tgt := 47) hx hb dX11_part_35 (by decide) (fun c18 => ?_) (fun c18 => ?_)
    · replace h := ot_ c18 h
      refine lv_iconst (v := 0) hx hb dX11_part_47 (by decide) ?_
      obtain ⟨rfl, rfl⟩ := os2 h
      exact th_zret hQ C hr hk T (Nat.le_of_ble_eq_true rfl) (Nat.le_of_ble_eq_true rfl) dX11_part_48 rfl
    · replace h := of_ c18 h
      refine lv_aload_n hx hb dX11_part_38 rfl (lv_at hl 0 rfl) ?_
      refine lv_bipush (v := 59) hx hb dX11_part_39 (by decide) ?_
      obtain ⟨v19, e20, h⟩ := ob_ h
      refine th_callV (As := [.int 59]) (rest := []) C T (c_X11_is_ e20) k_RX11_221 11 rfl rfl (by decide) k1 rfl hl.1 rfl (st1 := [.int v19]) rfl (cells1 := 0) rfl (slots1 := 0) rfl (Nat.le_of_ble_eq_true rfl) ⟨Nat.le_of_ble_eq_true rfl, Nat.le_of_ble_eq_true rfl⟩ ⟨Nat.le_of_ble_eq_true rfl, Nat.le_of_ble_eq_true rfl⟩ dX11_part_41 (fun H locs T => ?_)
      refine lv_if_ne (tgt := 49) hx hb dX11_part_44 (by decide) (fun c21 => ?_) (fun c21 => ?_)
      · replace h := of_ c21 h
        refine lv_aload_n hx hb dX11_part_49 rfl (lv_at hl 0 rfl) ?_
        obtain ⟨μ22, e23, h⟩ := ob_ h
        refine th_callV (As := []) (rest := []) C T (c_X11_next e23) k_RX11_202 11 rfl rfl (by decide) k1 rfl hl.1 rfl (st1 := []) rfl (cells1 := 0) rfl (slots1 := 0) rfl (Nat.le_of_ble_eq_true rfl) ⟨Nat.le_of_ble_eq_true rfl, Nat.le_of_ble_eq_true rfl⟩ ⟨Nat.le_of_ble_eq_true rfl, Nat.le_of_ble_eq_true rfl⟩ dX11_part_50 (fun H locs T => ?_)
        refine lv_iconst (v := 1) hx hb dX11_part_53 (by decide) ?_
        obtain ⟨rfl, rfl⟩ := os2 h
        exact th_zret hQ C hr hk T (Nat.le_of_ble_eq_true rfl) (Nat.le_of_ble_eq_true rfl) dX11_part_54 rfl
      · replace h := ot_ c21 h
        refine lv_iconst (v := 0) hx hb dX11_part_47 (by decide) ?_
        obtain ⟨rfl, rfl⟩ := os2 h
        exact th_zret hQ C hr hk T (Nat.le_of_ble_eq_true rfl) (Nat.le_of_ble_eq_true rfl) dX11_part_48 rfl
  · replace h := ot_ c4 h
    refine lv_iconst (v := 0) hx hb dX11_part_8 (by decide) ?_
    obtain ⟨rfl, rfl⟩ := os2 h
    exact th_zret hQ C hr hk T (Nat.le_of_ble_eq_true rfl) (Nat.le_of_ble_eq_true rfl) dX11_part_9 rfl
set_option maxRecDepth 100000 in
set_option maxHeartbeats 4000000 in
theorem c_X11_text {l : Launch} {G : th_G} {σ : th_S} {μ : th_M} {t : Nat} {r : Int32} {μ' : th_M} (h : f_X11_text σ μ t = some (r, μ')) : th_Met l G yX11_text cX11_text 2 (some FieldType.int) { frames := 73, cells := 0, slots := 0, locals := 1689 } [.ref t] σ μ (some (.int r)) σ μ' := by
  refine th_ofW (by decide +kernel) (Nat.le_of_ble_eq_true rfl) ?_
  intro p e s m args below meth c ls Q hQ C hr hk hnm T hl
  have hx := C.1
  have hb := C.2.1
  have C : CallFix p m c cX11_text 2 s args th_ws RX11 := C
  have hl : lv_has ls 2 [(0, .ref t)] := hl
  have J73 : ∀ (μ : th_M) (t : Nat) (y0 : Int32) (H : Heap) (locs : List Loc) (ls : Array Slot), th_R G s H locs σ μ → lv_has ls 2 [(0, .ref t)] → f_X11_text_b73 σ μ t y0 = some (r, μ') → W p l e { frames := 73, cells := 0, slots := 0, locals := 1689 } s m args below meth c H locs 0 0 Q (F0 m 73 ls [.int y0]) := by
    intro μ t y0 H locs ls T hl h
    unfold f_X11_text_b73 at h
    refine lv_istore_n (lv' := [(1, .int y0), (0, .ref t)]) hx hb dX11_text_73 rfl hl (by decide) rfl (fun ls hl => ?_)
    refine lv_aload_n hx hb dX11_text_74 rfl (lv_at hl 1 rfl) ?_
    refine lv_iconst (v := 0) hx hb dX11_text_75 (by decide) ?_
    obtain ⟨μ1, e2, h⟩ := ob_ h
    refine p_RX11_156 C T e2 dX11_text_76 (fun H locs T => ?_)
    refine lv_iload_n hx hb dX11_text_79 rfl (lv_at hl 0 rfl) ?_
    refine lv_if_ne (tgt := 91) hx hb dX11_text_80 (by decide) (fun c3 => ?_) (fun c3 => ?_)
    · replace h := of_ c3 h
      refine lv_aload_n hx hb dX11_text_91 rfl (lv_at hl 1 rfl) ?_
      obtain ⟨a4, e5, h⟩ := ob_ h
      refine g_RX11_37 C T e5 dX11_text_92 ?_
      refine lv_iconst (v := 4) hx hb dX11_text_95 (by decide) ?_
      refine lv_aload_n hx hb dX11_text_96 rfl (lv_at hl 1 rfl) ?_
      obtain ⟨v6, e7, h⟩ := ob_ h
      refine g_RX11_190 C T e7 dX11_text_97 ?_
      refine lv_imul hx hb dX11_text_100 ?_
      refine lv_iconst (v := 3) hx hb dX11_text_101 (by decide) ?_
      refine lv_iadd hx hb dX11_text_102 ?_
      refine lv_aload_n hx hb dX11_text_103 rfl (lv_at hl 1 rfl) ?_
      obtain ⟨v8, e9, h⟩ := ob_ h
      refine g_RX11_193 C T e9 dX11_text_104 ?_
      obtain ⟨μ10, e11, h⟩ := ob_ h
      refine th_iast C T e11 dX11_text_107 (fun H locs T => ?_)
      refine lv_aload_n hx hb dX11_text_108 rfl (lv_at hl 1 rfl) ?_
      refine lv_dup hx hb dX11_text_109 rfl ?_
      obtain ⟨v12, e13, h⟩ := ob_ h
      refine g_RX11_190 C T e13 dX11_text_110 ?_
      refine lv_dup_x1 hx hb dX11_text_113 rfl rfl ?_
      refine lv_iconst (v := 1) hx hb dX11_text_114 (by decide) ?_
      refine lv_iadd hx hb dX11_text_115 ?_
      obtain ⟨μ14, e15, h⟩ := ob_ h
      refine p_RX11_190 C T e15 dX11_text_116 (fun H locs T => ?_)
      obtain ⟨rfl, rfl⟩ := os2 h
      exact th_iret hQ C hr hk T (Nat.le_of_ble_eq_true rfl) (Nat.le_of_ble_eq_true rfl) dX11_text_119
    · replace h := ot_ c3 h
      refine lv_bipush (v := -100) hx hb dX11_text_83 (by decide) ?_
      refine lv_aload_n hx hb dX11_text_85 rfl (lv_at hl 1 rfl) ?_
      obtain ⟨v16, e17, h⟩ := ob_ h
      refine g_RX11_162 C T e17 dX11_text_86 ?_
      refine lv_isub hx hb dX11_text_89 ?_
      obtain ⟨rfl, rfl⟩ := os2 h
      exact th_iret hQ C hr hk T (Nat.le_of_ble_eq_true rfl) (Nat.le_of_ble_eq_true rfl) dX11_text_90
  unfold f_X11_text at h
  refine lv_aload_n hx hb dX11_text_0 rfl (lv_at hl 0 rfl) ?_
  obtain ⟨v1, e2, h⟩ := ob_ h
  refine g_RX11_190 C T e2 dX11_text_1 ?_
  refine lv_bipush (v := 6) hx hb dX11_text_4 (by decide) ?_
  refine lv_icmp_ne (tgt := 12) hx hb dX11_text_6 (by decide) (fun c3 => ?_) (fun c3 => ?_)
  · replace h := of_ c3 h
    refine lv_aload_n hx hb dX11_text_12 rfl (lv_at hl 0 rfl) ?_
    refine lv_iconst (v := 0) hx hb dX11_text_13 (by decide) ?_
    obtain ⟨μ4, e5, h⟩ := ob_ h
    refine p_RX11_159 C T e5 dX11_text_14 (fun H locs T => ?_)
    refine lv_aload_n hx hb dX11_text_17 rfl (lv_at hl 0 rfl) ?_
    refine lv_iconst (v := 0) hx hb dX11_text_18 (by decide) ?_
    obtain ⟨μ6, e7, h⟩ := ob_ h
    refine p_RX11_215 C T e7 dX11_text_19 (fun H locs T => ?_)
    refine lv_aload_n hx hb dX11_text_22 rfl (lv_at hl 0 rfl) ?_
    refine lv_iconst (v := 0) hx hb dX11_text_23 (by decide) ?_
    obtain ⟨μ8, e9, h⟩ := ob_ h
    refine p_RX11_193 C T e9 dX11_text_24 (fun H locs T => ?_)
    refine lv_aload_n hx hb dX11_text_27 rfl (lv_at hl 0 rfl) ?_
    obtain ⟨k10, h⟩ := oc_ h
    obtain ⟨μ11, e12, h⟩ := ob_ h
    refine th_callV (As := []) (rest := []) C T (c_X11_next e12) k_RX11_202 11 rfl rfl (by decide) k10 rfl hl.1 rfl (st1 := []) rfl (cells1 := 0) rfl (slots1 := 0) rfl (Nat.le_of_ble_eq_true rfl) ⟨Nat.le_of_ble_eq_true rfl, Nat.le_of_ble_eq_true rfl⟩ ⟨Nat.le_of_ble_eq_true rfl, Nat.le_of_ble_eq_true rfl⟩ dX11_text_28 (fun H locs T => ?_)
    refine lv_aload_n hx hb dX11_text_31 rfl (lv_at hl 0 rfl) ?_
    refine th_ldcS C T 14 rfl dX11_text_32 ?_
    refine lv_iconst (v := 0) hx hb dX11_text_34 (by decide) ?_
    obtain ⟨v13, μ14, e15, h⟩ := ob2 h
    refine th_callV (As := [.ref (G.2.2.2.1 7), .int 0]) (rest := []) C T (c_X11_part e15) k_RX11_238 11 rfl rfl (by decide) k10 rfl hl.1 rfl (st1 := [.int v13]) rfl (cells1 := 0) rfl (slots1 := 0) rfl (Nat.le_of_ble_eq_true rfl) ⟨Nat.le_of_ble_eq_true rfl, Nat.le_of_ble_eq_true rfl⟩ ⟨Nat.le_of_ble_eq_true rfl, Nat.le_of_ble_eq_true rfl⟩ dX11_text_35 (fun H locs T => ?_)
    refine lv_if_eq (tgt := 72) hx hb dX11_text_38 (by decide) (fun c16 => ?_) (fun c16 => ?_)
    · replace h := ot_ c16 h
      refine lv_iconst (v := 0) hx hb dX11_text_72 (by decide) ?_
      exact J73 _ _ _ _ _ _ T (lv_sub hl [0] rfl) h
    · replace h := of_ c16 h
      refine lv_aload_n hx hb dX11_text_41 rfl (lv_at hl 0 rfl) ?_
      refine th_ldcS C T 24 rfl dX11_text_42 ?_
      refine lv_iconst (v := 1) hx hb dX11_text_44 (by decide) ?_
      obtain ⟨v17, μ18, e19, h⟩ := ob2 h
      refine th_callV (As := [.ref (G.2.2.2.1 8), .int 1]) (rest := []) C T (c_X11_part e19) k_RX11_238 11 rfl rfl (by decide) k10 rfl hl.1 rfl (st1 := [.int v17]) rfl (cells1 := 0) rfl (slots1 := 0) rfl (Nat.le_of_ble_eq_true rfl) ⟨Nat.le_of_ble_eq_true rfl, Nat.le_of_ble_eq_true rfl⟩ ⟨Nat.le_of_ble_eq_true rfl, Nat.le_of_ble_eq_true rfl⟩ dX11_text_45 (fun H locs T => ?_)
      refine lv_if_eq (tgt := 72) hx hb dX11_text_48 (by decide) (fun c20 => ?_) (fun c20 => ?_)
      · replace h := ot_ c20 h
        refine lv_iconst (v := 0) hx hb dX11_text_72 (by decide) ?_
        exact J73 _ _ _ _ _ _ T (lv_sub hl [0] rfl) h
      · replace h := of_ c20 h
        refine lv_aload_n hx hb dX11_text_51 rfl (lv_at hl 0 rfl) ?_
        refine th_ldcS C T 25 rfl dX11_text_52 ?_
        refine lv_iconst (v := 2) hx hb dX11_text_54 (by decide) ?_
        obtain ⟨v21, μ22, e23, h⟩ := ob2 h
        refine th_callV (As := [.ref (G.2.2.2.1 9), .int 2]) (rest := []) C T (c_X11_part e23) k_RX11_238 11 rfl rfl (by decide) k10 rfl hl.1 rfl (st1 := [.int v21]) rfl (cells1 := 0) rfl (slots1 := 0) rfl (Nat.le_of_ble_eq_true rfl) ⟨Nat.le_of_ble_eq_true rfl, Nat.le_of_ble_eq_true rfl⟩ ⟨Nat.le_of_ble_eq_true rfl, Nat.le_of_ble_eq_true rfl⟩ dX11_text_55 (fun H locs T => ?_)
        refine lv_if_eq (tgt := 72) hx hb dX11_text_58 (by decide) (fun c24 => ?_) (fun c24 => ?_)
        · replace h := ot_ c24 h
          refine lv_iconst (v := 0) hx hb dX11_text_72 (by decide) ?_
          exact J73 _ _ _ _ _ _ T (lv_sub hl [0] rfl) h
        · replace h := of_ c24 h
          refine lv_aload_n hx hb dX11_text_61 rfl (lv_at hl 0 rfl) ?_
          obtain ⟨v25, e26, h⟩ := ob_ h
          refine g_RX11_165 C T e26 dX11_text_62 ?_
          refine lv_if_ne (tgt := 72) hx hb dX11_text_65 (by decide) (fun c27 => ?_) (fun c27 => ?_)
          · replace h := of_ c27 h
            refine lv_iconst (v := 0) hx hb dX11_text_72 (by decide) ?_
            exact J73 _ _ _ _ _ _ T (lv_sub hl [0] rfl) h
          · replace h := ot_ c27 h
            refine lv_iconst (v := 1) hx hb dX11_text_68 (by decide) ?_
            refine lv_goto (tgt := 73) hx hb dX11_text_69 (by decide) ?_
            exact J73 _ _ _ _ _ _ T (lv_sub hl [0] rfl) h
  · replace h := ot_ c3 h
    refine lv_bipush (v := -4) hx hb dX11_text_9 (by decide) ?_
    obtain ⟨rfl, rfl⟩ := os2 h
    exact th_iret hQ C hr hk T (Nat.le_of_ble_eq_true rfl) (Nat.le_of_ble_eq_true rfl) dX11_text_11
set_option maxRecDepth 100000 in
set_option maxHeartbeats 4000000 in
theorem c_X11_init {l : Launch} {G : th_G} {σ : th_S} {μ : th_M} {t : Nat}  {σ' : th_S} {μ' : th_M} (h : f_X11_init σ μ t = some (σ', μ')) : th_Met l G yX11_init cX11_init 3 none { frames := 74, cells := 20, slots := 1708, locals := 1710 } [.ref t] σ μ none σ' μ' := by
  refine th_ofW (by decide +kernel) (Nat.le_of_ble_eq_true rfl) ?_
  intro p e s m args below meth c ls Q hQ C hr hk hnm T hl
  have hx := C.1
  have hb := C.2.1
  have C : CallFix p m c cX11_init 3 s args th_ws RX11 := C
  have hl : lv_has ls 3 [(0, .ref t)] := hl
  have J207 : ∀ (n : Nat) (cN sN : Nat), cN ≤ 20 → sN ≤ 1708 → ∀ (σ : th_S) (μ : th_M) (t : Nat) (x1 : Nat) (x2 : Int32) (H : Heap) (locs : List Loc) (ls : Array Slot), th_R G s H locs σ μ → lv_has ls 3 [(0, .ref t), (1, .ref (G.2.2.2.1 x1)), (2, .int x2)] → f_X11_init_b207  n σ μ t x1 x2 = some (σ', μ') → W p l e { frames := 74, cells := 20, slots := 1708, locals := 1710 } s m args below meth c H locs cN sN Q (F0 m 207 ls []) := by
    intro n
    induction n with
    | zero => intro cN sN hcN hsN σ μ t x1 x2 H locs ls T hl h; unfold f_X11_init_b207 at h; cases h
    | succ n207 ih207 =>
      intro cN sN hcN hsN σ μ t x1 x2 H locs ls T hl h
      unfold f_X11_init_b207 at h
      refine lv_iload_n hx hb dX11_init_207 rfl (lv_at hl 2 rfl) ?_
      refine lv_aload_n hx hb dX11_init_208 rfl (lv_at hl 1 rfl) ?_
      obtain ⟨v1, e2, h⟩ := ob_ h
      refine th_callT (As := []) (rest := [.int x2]) C T (c_J0_length_8abf5 e2) (hd_length e2) k_RX11_82 rfl rfl hl.1 rfl (st1 := [.int v1, .int x2]) rfl (cells1 := cN) rfl (slots1 := sN) rfl (Nat.le_of_ble_eq_true rfl) ⟨Nat.le_of_ble_eq_true rfl, Nat.le_of_ble_eq_true rfl⟩ ⟨show cN + 0 ≤ 20 by omega, show sN + 0 ≤ 1708 by omega⟩ dX11_init_209 (fun H locs T => ?_)
      refine lv_icmp_ge (tgt := 231) hx hb dX11_init_212 (by decide) (fun c3 => ?_) (fun c3 => ?_)
      · replace h := ot_ c3 h
        refine lv_aload_n hx hb dX11_init_231 rfl (lv_at hl 0 rfl) ?_
        obtain ⟨k4, h⟩ := oc_ h
        obtain ⟨v5, μ6, e7, h⟩ := ob2 h
        refine th_callV (As := []) (rest := []) C T (c_X11_text e7) k_RX11_96 11 rfl rfl (by decide) k4 rfl hl.1 rfl (st1 := [.int v5]) rfl (cells1 := cN) rfl (slots1 := sN) rfl (Nat.le_of_ble_eq_true rfl) ⟨Nat.le_of_ble_eq_true rfl, Nat.le_of_ble_eq_true rfl⟩ ⟨show cN + 0 ≤ 20 by omega, show sN + 0 ≤ 1708 by omega⟩ dX11_init_232 (fun H locs T => ?_)
        refine lv_pop hx hb dX11_init_235 rfl ?_
        obtain ⟨rfl, rfl⟩ := os2 h
        exact th_vret hQ C hr hk T (show cN ≤ 20 by omega) (show sN ≤ 1708 by omega) dX11_init_236
      · replace h := of_ c3 h
        refine lv_aload_n hx hb dX11_init_215 rfl (lv_at hl 0 rfl) ?_
        refine lv_aload_n hx hb dX11_init_216 rfl (lv_at hl 1 rfl) ?_
        refine lv_iload_n hx hb dX11_init_217 rfl (lv_at hl 2 rfl) ?_
        obtain ⟨v8, e9, h⟩ := ob_ h
        refine th_callT (As := [.int x2]) (rest := [.ref t]) C T (c_J0_charAt_5068e e9) (hd_charAt e9) k_RX11_88 rfl rfl hl.1 rfl (st1 := [.int v8, .ref t]) rfl (cells1 := cN) rfl (slots1 := sN) rfl (Nat.le_of_ble_eq_true rfl) ⟨Nat.le_of_ble_eq_true rfl, Nat.le_of_ble_eq_true rfl⟩ ⟨show cN + 0 ≤ 20 by omega, show sN + 0 ≤ 1708 by omega⟩ dX11_init_218 (fun H locs T => ?_)
        obtain ⟨k10, h⟩ := oc_ h
        obtain ⟨v11, μ12, e13, h⟩ := ob2 h
        refine th_callV (As := [.int v8]) (rest := []) C T (c_X11_feed e13) k_RX11_92 11 rfl rfl (by decide) k10 rfl hl.1 rfl (st1 := [.int v11]) rfl (cells1 := cN) rfl (slots1 := sN) rfl (Nat.le_of_ble_eq_true rfl) ⟨Nat.le_of_ble_eq_true rfl, Nat.le_of_ble_eq_true rfl⟩ ⟨show cN + 0 ≤ 20 by omega, show sN + 0 ≤ 1708 by omega⟩ dX11_init_221 (fun H locs T => ?_)
        refine lv_pop hx hb dX11_init_224 rfl ?_
        refine lv_iinc (v := x2 + 1) (lv' := [(2, .int (x2 + 1)), (0, .ref t), (1, .ref (G.2.2.2.1 x1))]) hx hb dX11_init_225 hl (k := 2) rfl rfl (by decide) rfl (fun ls hl => ?_)
        refine lv_goto (tgt := 207) hx hb dX11_init_228 (by decide) ?_
        exact ih207 cN sN (by omega) (by omega) _ _ _ _ _ _ _ _ T (lv_sub hl [1, 2, 0] rfl) h
  have J168 : ∀ (n : Nat) (cN sN : Nat), cN ≤ 20 → sN ≤ 1708 → ∀ (σ : th_S) (μ : th_M) (t : Nat) (x1 : Int32) (H : Heap) (locs : List Loc) (ls : Array Slot), th_R G s H locs σ μ → lv_has ls 3 [(0, .ref t), (1, .int x1)] → f_X11_init_b168  n σ μ t x1 = some (σ', μ') → W p l e { frames := 74, cells := 20, slots := 1708, locals := 1710 } s m args below meth c H locs cN sN Q (F0 m 168 ls []) := by
    intro n
    induction n with
    | zero => intro cN sN hcN hsN σ μ t x1 H locs ls T hl h; unfold f_X11_init_b168 at h; cases h
    | succ n168 ih168 =>
      intro cN sN hcN hsN σ μ t x1 H locs ls T hl h
      unfold f_X11_init_b168 at h
      refine lv_iload_n hx hb dX11_init_168 rfl (lv_at hl 1 rfl) ?_
      refine lv_iconst (v := 4) hx hb dX11_init_169 (by decide) ?_
      refine lv_icmp_ge (tgt := 186) hx hb dX11_init_170 (by decide) (fun c1 => ?_) (fun c1 => ?_)
      · replace h := ot_ c1 h
        refine lv_aload_n hx hb dX11_init_186 rfl (lv_at hl 0 rfl) ?_
        refine lv_bipush (v := 27) hx hb dX11_init_187 (by decide) ?_
        obtain ⟨μ2, e3, h⟩ := ob_ h
        refine p_RX11_70 C T e3 dX11_init_189 (fun H locs T => ?_)
        refine lv_aload_n hx hb dX11_init_192 rfl (lv_at hl 0 rfl) ?_
        refine lv_iconst (v := 2) hx hb dX11_init_193 (by decide) ?_
        obtain ⟨μ4, e5, h⟩ := ob_ h
        refine p_RX11_74 C T e5 dX11_init_194 (fun H locs T => ?_)
        refine lv_aload_n hx hb dX11_init_197 rfl (lv_at hl 0 rfl) ?_
        refine lv_iconst (v := 1) hx hb dX11_init_198 (by decide) ?_
        obtain ⟨μ6, e7, h⟩ := ob_ h
        refine p_RX11_77 C T e7 dX11_init_199 (fun H locs T => ?_)
        refine th_ldcS C T 13 rfl dX11_init_202 ?_
        refine lv_astore_n (lv' := [(1, .ref (G.2.2.2.1 0)), (0, .ref t)]) hx hb dX11_init_204 rfl hl (by decide) rfl (fun ls hl => ?_)
        refine lv_iconst (v := 0) hx hb dX11_init_205 (by decide) ?_
        refine lv_istore_n (lv' := [(2, .int 0), (1, .ref (G.2.2.2.1 0)), (0, .ref t)]) hx hb dX11_init_206 rfl hl (by decide) rfl (fun ls hl => ?_)
        exact J207 fu cN sN (by omega) (by omega) _ _ _ _ _ _ _ _ T (lv_sub hl [2, 1, 0] rfl) h
      · replace h := of_ c1 h
        refine lv_aload_n hx hb dX11_init_173 rfl (lv_at hl 0 rfl) ?_
        obtain ⟨a8, e9, h⟩ := ob_ h
        refine g_RX11_58 C T e9 dX11_init_174 ?_
        refine lv_iload_n hx hb dX11_init_177 rfl (lv_at hl 1 rfl) ?_
        refine lv_iconst (v := -1) hx hb dX11_init_178 (by decide) ?_
        obtain ⟨μ10, e11, h⟩ := ob_ h
        refine th_iast C T e11 dX11_init_179 (fun H locs T => ?_)
        refine lv_iinc (v := x1 + 1) (lv' := [(1, .int (x1 + 1)), (0, .ref t)]) hx hb dX11_init_180 hl (k := 1) rfl rfl (by decide) rfl (fun ls hl => ?_)
        refine lv_goto (tgt := 168) hx hb dX11_init_183 (by decide) ?_
        exact ih168 cN sN (by omega) (by omega) _ _ _ _ _ _ _ T (lv_sub hl [1, 0] rfl) h
  unfold f_X11_init at h
  refine lv_aload_n hx hb dX11_init_0 rfl (lv_at hl 0 rfl) ?_
  refine W.objInit hx hb C.2.2.2.1 (C.2.2.2.2 _ w_846) (C.2.2.2.2 _ w_27) (C.2.2.2.2 _ w_28) rfl (by rw [C.2.2.1]; exact hl.1) rfl dX11_init_1 (Nat.le_of_ble_eq_true rfl) (Nat.le_of_ble_eq_true rfl) ?_
  refine W.eq (g2 := F0 m 4 ls []) rfl ?_
  refine lv_aload_n hx hb dX11_init_4 rfl (lv_at hl 0 rfl) ?_
  refine lv_bipush (v := 7) hx hb dX11_init_5 (by decide) ?_
  obtain ⟨a1, σ2, μ3, e4, h⟩ := ob3 h
  refine th_newa C T 7 e4 (by decide) (by decide) (by decide) w_66 (Nat.le_of_ble_eq_true rfl) (Nat.le_of_ble_eq_true rfl) dX11_init_7 (fun H T => ?_)
  refine W.eqc (c1 := 1) (s1 := 7) rfl rfl ?_
  obtain ⟨σ5, e6, h⟩ := ob_ h
  refine p_RX11_7 C T e6 hnm dX11_init_9 (fun H locs T => ?_)
  refine lv_aload_n hx hb dX11_init_12 rfl (lv_at hl 0 rfl) ?_
  refine lv_bipush (v := 7) hx hb dX11_init_13 (by decide) ?_
  obtain ⟨a7, σ8, μ9, e10, h⟩ := ob3 h
  refine th_newa C T 7 e10 (by decide) (by decide) (by decide) w_66 (Nat.le_of_ble_eq_true rfl) (Nat.le_of_ble_eq_true rfl) dX11_init_15 (fun H T => ?_)
  refine W.eqc (c1 := 2) (s1 := 14) rfl rfl ?_
  obtain ⟨σ11, e12, h⟩ := ob_ h
  refine p_RX11_13 C T e12 hnm dX11_init_17 (fun H locs T => ?_)
  refine lv_aload_n hx hb dX11_init_20 rfl (lv_at hl 0 rfl) ?_
  refine lv_bipush (v := 7) hx hb dX11_init_21 (by decide) ?_
  obtain ⟨a13, σ14, μ15, e16, h⟩ := ob3 h
  refine th_newa C T 7 e16 (by decide) (by decide) (by decide) w_66 (Nat.le_of_ble_eq_true rfl) (Nat.le_of_ble_eq_true rfl) dX11_init_23 (fun H T => ?_)
  refine W.eqc (c1 := 3) (s1 := 21) rfl rfl ?_
  obtain ⟨σ17, e18, h⟩ := ob_ h
  refine p_RX11_16 C T e18 hnm dX11_init_25 (fun H locs T => ?_)
  refine lv_aload_n hx hb dX11_init_28 rfl (lv_at hl 0 rfl) ?_
  refine lv_bipush (v := 7) hx hb dX11_init_29 (by decide) ?_
  obtain ⟨a19, σ20, μ21, e22, h⟩ := ob3 h
  refine th_newa C T 7 e22 (by decide) (by decide) (by decide) w_66 (Nat.le_of_ble_eq_true rfl) (Nat.le_of_ble_eq_true rfl) dX11_init_31 (fun H T => ?_)
  refine W.eqc (c1 := 4) (s1 := 28) rfl rfl ?_
  obtain ⟨σ23, e24, h⟩ := ob_ h
  refine p_RX11_19 C T e24 hnm dX11_init_33 (fun H locs T => ?_)
  refine lv_aload_n hx hb dX11_init_36 rfl (lv_at hl 0 rfl) ?_
  refine lv_bipush (v := 7) hx hb dX11_init_37 (by decide) ?_
  obtain ⟨a25, σ26, μ27, e28, h⟩ := ob3 h
  refine th_newa C T 7 e28 (by decide) (by decide) (by decide) w_66 (Nat.le_of_ble_eq_true rfl) (Nat.le_of_ble_eq_true rfl) dX11_init_39 (fun H T => ?_)
  refine W.eqc (c1 := 5) (s1 := 35) rfl rfl ?_
  obtain ⟨σ29, e30, h⟩ := ob_ h
  refine p_RX11_22 C T e30 hnm dX11_init_41 (fun H locs T => ?_)
  refine lv_aload_n hx hb dX11_init_44 rfl (lv_at hl 0 rfl) ?_
  refine lv_bipush (v := 7) hx hb dX11_init_45 (by decide) ?_
  obtain ⟨a31, σ32, μ33, e34, h⟩ := ob3 h
  refine th_newa C T 7 e34 (by decide) (by decide) (by decide) w_66 (Nat.le_of_ble_eq_true rfl) (Nat.le_of_ble_eq_true rfl) dX11_init_47 (fun H T => ?_)
  refine W.eqc (c1 := 6) (s1 := 42) rfl rfl ?_
  obtain ⟨σ35, e36, h⟩ := ob_ h
  refine p_RX11_25 C T e36 hnm dX11_init_49 (fun H locs T => ?_)
  refine lv_aload_n hx hb dX11_init_52 rfl (lv_at hl 0 rfl) ?_
  refine lv_bipush (v := 7) hx hb dX11_init_53 (by decide) ?_
  obtain ⟨a37, σ38, μ39, e40, h⟩ := ob3 h
  refine th_newa C T 7 e40 (by decide) (by decide) (by decide) w_66 (Nat.le_of_ble_eq_true rfl) (Nat.le_of_ble_eq_true rfl) dX11_init_55 (fun H T => ?_)
  refine W.eqc (c1 := 7) (s1 := 49) rfl rfl ?_
  obtain ⟨σ41, e42, h⟩ := ob_ h
  refine p_RX11_28 C T e42 hnm dX11_init_57 (fun H locs T => ?_)
  refine lv_aload_n hx hb dX11_init_60 rfl (lv_at hl 0 rfl) ?_
  refine lv_sipush (v := 160) hx hb dX11_init_61 (by decide) ?_
  obtain ⟨a43, σ44, μ45, e46, h⟩ := ob3 h
  refine th_newa C T 160 e46 (by decide) (by decide) (by decide) w_66 (Nat.le_of_ble_eq_true rfl) (Nat.le_of_ble_eq_true rfl) dX11_init_64 (fun H T => ?_)
  refine W.eqc (c1 := 8) (s1 := 209) rfl rfl ?_
  obtain ⟨σ47, e48, h⟩ := ob_ h
  refine p_RX11_31 C T e48 hnm dX11_init_66 (fun H locs T => ?_)
  refine lv_aload_n hx hb dX11_init_69 rfl (lv_at hl 0 rfl) ?_
  refine lv_sipush (v := 1020) hx hb dX11_init_70 (by decide) ?_
  obtain ⟨a49, σ50, μ51, e52, h⟩ := ob3 h
  refine th_newa C T 1020 e52 (by decide) (by decide) (by decide) w_66 (Nat.le_of_ble_eq_true rfl) (Nat.le_of_ble_eq_true rfl) dX11_init_73 (fun H T => ?_)
  refine W.eqc (c1 := 9) (s1 := 1229) rfl rfl ?_
  obtain ⟨σ53, e54, h⟩ := ob_ h
  refine p_RX11_34 C T e54 hnm dX11_init_75 (fun H locs T => ?_)
  refine lv_aload_n hx hb dX11_init_78 rfl (lv_at hl 0 rfl) ?_
  refine lv_bipush (v := 24) hx hb dX11_init_79 (by decide) ?_
  obtain ⟨a55, σ56, μ57, e58, h⟩ := ob3 h
  refine th_newa C T 24 e58 (by decide) (by decide) (by decide) w_66 (Nat.le_of_ble_eq_true rfl) (Nat.le_of_ble_eq_true rfl) dX11_init_81 (fun H T => ?_)
  refine W.eqc (c1 := 10) (s1 := 1253) rfl rfl ?_
  obtain ⟨σ59, e60, h⟩ := ob_ h
  refine p_RX11_37 C T e60 hnm dX11_init_83 (fun H locs T => ?_)
  refine lv_aload_n hx hb dX11_init_86 rfl (lv_at hl 0 rfl) ?_
  refine lv_sipush (v := 170) hx hb dX11_init_87 (by decide) ?_
  obtain ⟨a61, σ62, μ63, e64, h⟩ := ob3 h
  refine th_newa C T 170 e64 (by decide) (by decide) (by decide) w_66 (Nat.le_of_ble_eq_true rfl) (Nat.le_of_ble_eq_true rfl) dX11_init_90 (fun H T => ?_)
  refine W.eqc (c1 := 11) (s1 := 1423) rfl rfl ?_
  obtain ⟨σ65, e66, h⟩ := ob_ h
  refine p_RX11_40 C T e66 hnm dX11_init_92 (fun H locs T => ?_)
  refine lv_aload_n hx hb dX11_init_95 rfl (lv_at hl 0 rfl) ?_
  refine lv_bipush (v := 6) hx hb dX11_init_96 (by decide) ?_
  obtain ⟨a67, σ68, μ69, e70, h⟩ := ob3 h
  refine th_newa C T 6 e70 (by decide) (by decide) (by decide) w_66 (Nat.le_of_ble_eq_true rfl) (Nat.le_of_ble_eq_true rfl) dX11_init_98 (fun H T => ?_)
  refine W.eqc (c1 := 12) (s1 := 1429) rfl rfl ?_
  obtain ⟨σ71, e72, h⟩ := ob_ h
  refine p_RX11_43 C T e72 hnm dX11_init_100 (fun H locs T => ?_)
  refine lv_aload_n hx hb dX11_init_103 rfl (lv_at hl 0 rfl) ?_
  refine lv_bipush (v := 7) hx hb dX11_init_104 (by decide) ?_
  obtain ⟨a73, σ74, μ75, e76, h⟩ := ob3 h
  refine th_newa C T 7 e76 (by decide) (by decide) (by decide) w_66 (Nat.le_of_ble_eq_true rfl) (Nat.le_of_ble_eq_true rfl) dX11_init_106 (fun H T => ?_)
  refine W.eqc (c1 := 13) (s1 := 1436) rfl rfl ?_
  obtain ⟨σ77, e78, h⟩ := ob_ h
  refine p_RX11_46 C T e78 hnm dX11_init_108 (fun H locs T => ?_)
  refine lv_aload_n hx hb dX11_init_111 rfl (lv_at hl 0 rfl) ?_
  refine lv_bipush (v := 7) hx hb dX11_init_112 (by decide) ?_
  obtain ⟨a79, σ80, μ81, e82, h⟩ := ob3 h
  refine th_newa C T 7 e82 (by decide) (by decide) (by decide) w_66 (Nat.le_of_ble_eq_true rfl) (Nat.le_of_ble_eq_true rfl) dX11_init_114 (fun H T => ?_)
  refine W.eqc (c1 := 14) (s1 := 1443) rfl rfl ?_
  obtain ⟨σ83, e84, h⟩ := ob_ h
  refine p_RX11_49 C T e84 hnm dX11_init_116 (fun H locs T => ?_)
  refine lv_aload_n hx hb dX11_init_119 rfl (lv_at hl 0 rfl) ?_
  refine lv_bipush (v := 7) hx hb dX11_init_120 (by decide) ?_
  obtain ⟨a85, σ86, μ87, e88, h⟩ := ob3 h
  refine th_newa C T 7 e88 (by decide) (by decide) (by decide) w_66 (Nat.le_of_ble_eq_true rfl) (Nat.le_of_ble_eq_true rfl) dX11_init_122 (fun H T => ?_)
  refine W.eqc (c1 := 15) (s1 := 1450) rfl rfl ?_
  obtain ⟨σ89, e90, h⟩ := ob_ h
  refine p_RX11_52 C T e90 hnm dX11_init_124 (fun H locs T => ?_)
  refine lv_aload_n hx hb dX11_init_127 rfl (lv_at hl 0 rfl) ?_
  refine lv_bipush (v := 50) hx hb dX11_init_128 (by decide) ?_
  obtain ⟨a91, σ92, μ93, e94, h⟩ := ob3 h
  refine th_newa C T 50 e94 (by decide) (by decide) (by decide) w_66 (Nat.le_of_ble_eq_true rfl) (Nat.le_of_ble_eq_true rfl) dX11_init_130 (fun H T => ?_)
  refine W.eqc (c1 := 16) (s1 := 1500) rfl rfl ?_
  obtain ⟨σ95, e96, h⟩ := ob_ h
  refine p_RX11_55 C T e96 hnm dX11_init_132 (fun H locs T => ?_)
  refine lv_aload_n hx hb dX11_init_135 rfl (lv_at hl 0 rfl) ?_
  refine lv_iconst (v := 4) hx hb dX11_init_136 (by decide) ?_
  obtain ⟨a97, σ98, μ99, e100, h⟩ := ob3 h
  refine th_newa C T 4 e100 (by decide) (by decide) (by decide) w_66 (Nat.le_of_ble_eq_true rfl) (Nat.le_of_ble_eq_true rfl) dX11_init_137 (fun H T => ?_)
  refine W.eqc (c1 := 17) (s1 := 1504) rfl rfl ?_
  obtain ⟨σ101, e102, h⟩ := ob_ h
  refine p_RX11_58 C T e102 hnm dX11_init_139 (fun H locs T => ?_)
  refine lv_aload_n hx hb dX11_init_142 rfl (lv_at hl 0 rfl) ?_
  refine lv_iconst (v := 4) hx hb dX11_init_143 (by decide) ?_
  obtain ⟨a103, σ104, μ105, e106, h⟩ := ob3 h
  refine th_newa C T 4 e106 (by decide) (by decide) (by decide) w_66 (Nat.le_of_ble_eq_true rfl) (Nat.le_of_ble_eq_true rfl) dX11_init_144 (fun H T => ?_)
  refine W.eqc (c1 := 18) (s1 := 1508) rfl rfl ?_
  obtain ⟨σ107, e108, h⟩ := ob_ h
  refine p_RX11_61 C T e108 hnm dX11_init_146 (fun H locs T => ?_)
  refine lv_aload_n hx hb dX11_init_149 rfl (lv_at hl 0 rfl) ?_
  refine lv_sipush (v := 160) hx hb dX11_init_150 (by decide) ?_
  obtain ⟨a109, σ110, μ111, e112, h⟩ := ob3 h
  refine th_newa C T 160 e112 (by decide) (by decide) (by decide) w_66 (Nat.le_of_ble_eq_true rfl) (Nat.le_of_ble_eq_true rfl) dX11_init_153 (fun H T => ?_)
  refine W.eqc (c1 := 19) (s1 := 1668) rfl rfl ?_
  obtain ⟨σ113, e114, h⟩ := ob_ h
  refine p_RX11_64 C T e114 hnm dX11_init_155 (fun H locs T => ?_)
  refine lv_aload_n hx hb dX11_init_158 rfl (lv_at hl 0 rfl) ?_
  refine lv_bipush (v := 40) hx hb dX11_init_159 (by decide) ?_
  obtain ⟨a115, σ116, μ117, e118, h⟩ := ob3 h
  refine th_newa C T 40 e118 (by decide) (by decide) (by decide) w_66 (Nat.le_of_ble_eq_true rfl) (Nat.le_of_ble_eq_true rfl) dX11_init_161 (fun H T => ?_)
  refine W.eqc (c1 := 20) (s1 := 1708) rfl rfl ?_
  obtain ⟨σ119, e120, h⟩ := ob_ h
  refine p_RX11_67 C T e120 hnm dX11_init_163 (fun H locs T => ?_)
  refine lv_iconst (v := 0) hx hb dX11_init_166 (by decide) ?_
  refine lv_istore_n (lv' := [(1, .int 0), (0, .ref t)]) hx hb dX11_init_167 rfl hl (by decide) rfl (fun ls hl => ?_)
  exact J168 fu 20 1708 (by omega) (by omega) _ _ _ _ _ _ _ T (lv_sub hl [1, 0] rfl) h
set_option maxRecDepth 100000 in
set_option maxHeartbeats 4000000 in
theorem c_X11_isBoat {l : Launch} {G : th_G} {σ : th_S} {μ : th_M} {t : Nat} {x1 : Int32} {r : Int32} (h : f_X11_isBoat σ μ t x1 = some r) : th_Met l G yX11_isBoat cX11_isBoat 2 (some FieldType.boolean) { frames := 1, cells := 0, slots := 0, locals := 22 } [.ref t, .int x1] σ μ (some (.int r)) σ μ := by
  refine th_ofW (by decide +kernel) (Nat.le_of_ble_eq_true rfl) ?_
  intro p e s m args below meth c ls Q hQ C hr hk hnm T hl
  have hx := C.1
  have hb := C.2.1
  have C : CallFix p m c cX11_isBoat 2 s args th_ws RX11 := C
  have hl : lv_has ls 2 [(0, .ref t), (1, .int x1)] := hl
  unfold f_X11_isBoat at h
  refine lv_iload_n hx hb dX11_isBoat_0 rfl (lv_at hl 1 rfl) ?_
  refine lv_iconst (v := 0) hx hb dX11_isBoat_1 (by decide) ?_
  refine lv_aload_n hx hb dX11_isBoat_2 rfl (lv_at hl 0 rfl) ?_
  obtain ⟨v1, e2, h⟩ := ob_ h
  refine g_RX11_99 C T e2 dX11_isBoat_3 ?_
  refine lv_iconst (v := 1) hx hb dX11_isBoat_6 (by decide) ?_
  refine lv_isub hx hb dX11_isBoat_7 ?_
  obtain ⟨v3, e4, h⟩ := ob_ h
  refine th_callS (As := [.int x1, .int 0, .int (v1 - 1)]) (rest := []) C T (c_X11_within e4) k_RX11_102 rfl hl.1 rfl (st1 := [.int v3]) rfl (cells1 := 0) rfl (slots1 := 0) rfl (Nat.le_of_ble_eq_true rfl) ⟨Nat.le_of_ble_eq_true rfl, Nat.le_of_ble_eq_true rfl⟩ ⟨Nat.le_of_ble_eq_true rfl, Nat.le_of_ble_eq_true rfl⟩ dX11_isBoat_8 (fun H locs T => ?_)
  obtain ⟨g5, h⟩ := ogg h
  obtain rfl := os1 h
  exact th_zret hQ C hr hk T (Nat.le_of_ble_eq_true rfl) (Nat.le_of_ble_eq_true rfl) dX11_isBoat_11 (by show Value.int _ = _; rw [g5])
set_option maxRecDepth 100000 in
set_option maxHeartbeats 4000000 in
theorem c_X11_far {l : Launch} {G : th_G} {σ : th_S} {μ : th_M} {x0 : Int32} {x1 : Int32} {r : Int32} (h : f_X11_far x0 x1 = some r) : th_Met l G yX11_far cX11_far 2 (some FieldType.int) { frames := 1, cells := 0, slots := 0, locals := 80 } [.int x0, .int x1] σ μ (some (.int r)) σ μ := by
  refine th_ofW (by decide +kernel) (Nat.le_of_ble_eq_true rfl) ?_
  intro p e s m args below meth c ls Q hQ C hr hk hnm T hl
  have hx := C.1
  have hb := C.2.1
  have C : CallFix p m c cX11_far 2 s args th_ws RX11 := C
  have hl : lv_has ls 2 [(0, .int x0), (1, .int x1)] := hl
  unfold f_X11_far at h
  refine lv_iload_n hx hb dX11_far_0 rfl (lv_at hl 0 rfl) ?_
  refine lv_bipush (v := 8) hx hb dX11_far_1 (by decide) ?_
  refine lv_idiv hx hb dX11_far_3 (by decide) ?_
  refine lv_iload_n hx hb dX11_far_4 rfl (lv_at hl 1 rfl) ?_
  refine lv_bipush (v := 8) hx hb dX11_far_5 (by decide) ?_
  refine lv_idiv hx hb dX11_far_7 (by decide) ?_
  refine lv_isub hx hb dX11_far_8 ?_
  refine th_abs C hl.1 w_1085 w_524 w_11 w_525 (Nat.le_of_ble_eq_true rfl) (Nat.le_of_ble_eq_true rfl) (Nat.zero_le _) (Nat.zero_le _) dX11_far_9 ?_
  refine lv_iload_n hx hb dX11_far_12 rfl (lv_at hl 0 rfl) ?_
  refine lv_bipush (v := 8) hx hb dX11_far_13 (by decide) ?_
  refine th_irem C dX11_far_15 (by decide) ?_
  refine lv_iload_n hx hb dX11_far_16 rfl (lv_at hl 1 rfl) ?_
  refine lv_bipush (v := 8) hx hb dX11_far_17 (by decide) ?_
  refine th_irem C dX11_far_19 (by decide) ?_
  refine lv_isub hx hb dX11_far_20 ?_
  refine th_abs C hl.1 w_1085 w_524 w_11 w_525 (Nat.le_of_ble_eq_true rfl) (Nat.le_of_ble_eq_true rfl) (Nat.zero_le _) (Nat.zero_le _) dX11_far_21 ?_
  refine lv_iadd hx hb dX11_far_24 ?_
  obtain rfl := os1 h
  exact th_iret hQ C hr hk T (Nat.le_of_ble_eq_true rfl) (Nat.le_of_ble_eq_true rfl) dX11_far_25
set_option maxRecDepth 100000 in
set_option maxHeartbeats 4000000 in
theorem c_X11_boat {l : Launch} {G : th_G} {σ : th_S} {μ : th_M} {t : Nat} {x1 : Int32} {x2 : Int32} {x3 : Int32} {r : Int32} {μ' : th_M} (h : f_X11_boat σ μ t x1 x2 x3 = some (r, μ')) : th_Met l G yX11_boat cX11_boat 4 (some FieldType.int) { frames := 1, cells := 0, slots := 0, locals := 22 } [.ref t, .int x1, .int x2, .int x3] σ μ (some (.int r)) σ μ' := by
  refine th_ofW (by decide +kernel) (Nat.le_of_ble_eq_true rfl) ?_
  intro p e s m args below meth c ls Q hQ C hr hk hnm T hl
  have hx := C.1
  have hb := C.2.1
  have C : CallFix p m c cX11_boat 4 s args th_ws RX11 := C
  have hl : lv_has ls 4 [(0, .ref t), (1, .int x1), (2, .int x2), (3, .int x3)] := hl
  unfold f_X11_boat at h
  refine lv_iload_n hx hb dX11_boat_0 rfl (lv_at hl 1 rfl) ?_
  refine lv_iconst (v := 0) hx hb dX11_boat_1 (by decide) ?_
  refine lv_iconst (v := 5) hx hb dX11_boat_2 (by decide) ?_
  obtain ⟨v1, e2, h⟩ := ob_ h
  refine th_callS (As := [.int x1, .int 0, .int 5]) (rest := []) C T (c_X11_within e2) k_RX11_102 rfl hl.1 rfl (st1 := [.int v1]) rfl (cells1 := 0) rfl (slots1 := 0) rfl (Nat.le_of_ble_eq_true rfl) ⟨Nat.le_of_ble_eq_true rfl, Nat.le_of_ble_eq_true rfl⟩ ⟨Nat.le_of_ble_eq_true rfl, Nat.le_of_ble_eq_true rfl⟩ dX11_boat_3 (fun H locs T => ?_)
  refine lv_if_eq (tgt := 41) hx hb dX11_boat_6 (by decide) (fun c3 => ?_) (fun c3 => ?_)
  · replace h := ot_ c3 h
    refine lv_bipush (v := -2) hx hb dX11_boat_41 (by decide) ?_
    obtain ⟨rfl, rfl⟩ := os2 h
    exact th_iret hQ C hr hk T (Nat.le_of_ble_eq_true rfl) (Nat.le_of_ble_eq_true rfl) dX11_boat_43
  · replace h := of_ c3 h
    refine lv_iload_n hx hb dX11_boat_9 rfl (lv_at hl 2 rfl) ?_
    refine lv_iconst (v := 0) hx hb dX11_boat_10 (by decide) ?_
    refine lv_sipush (v := 4709) hx hb dX11_boat_11 (by decide) ?_
    obtain ⟨v4, e5, h⟩ := ob_ h
    refine th_callS (As := [.int x2, .int 0, .int 4709]) (rest := []) C T (c_X11_within e5) k_RX11_102 rfl hl.1 rfl (st1 := [.int v4]) rfl (cells1 := 0) rfl (slots1 := 0) rfl (Nat.le_of_ble_eq_true rfl) ⟨Nat.le_of_ble_eq_true rfl, Nat.le_of_ble_eq_true rfl⟩ ⟨Nat.le_of_ble_eq_true rfl, Nat.le_of_ble_eq_true rfl⟩ dX11_boat_14 (fun H locs T => ?_)
    refine lv_if_eq (tgt := 41) hx hb dX11_boat_17 (by decide) (fun c6 => ?_) (fun c6 => ?_)
    · replace h := ot_ c6 h
      refine lv_bipush (v := -2) hx hb dX11_boat_41 (by decide) ?_
      obtain ⟨rfl, rfl⟩ := os2 h
      exact th_iret hQ C hr hk T (Nat.le_of_ble_eq_true rfl) (Nat.le_of_ble_eq_true rfl) dX11_boat_43
    · replace h := of_ c6 h
      refine lv_iload_n hx hb dX11_boat_20 rfl (lv_at hl 2 rfl) ?_
      refine lv_bipush (v := 100) hx hb dX11_boat_21 (by decide) ?_
      refine th_irem C dX11_boat_23 (by decide) ?_
      refine lv_bipush (v := 9) hx hb dX11_boat_24 (by decide) ?_
      refine lv_icmp_gt (tgt := 41) hx hb dX11_boat_26 (by decide) (fun c7 => ?_) (fun c7 => ?_)
      · replace h := ot_ c7 h
        refine lv_bipush (v := -2) hx hb dX11_boat_41 (by decide) ?_
        obtain ⟨rfl, rfl⟩ := os2 h
        exact th_iret hQ C hr hk T (Nat.le_of_ble_eq_true rfl) (Nat.le_of_ble_eq_true rfl) dX11_boat_43
      · replace h := of_ c7 h
        refine lv_iload_n hx hb dX11_boat_29 rfl (lv_at hl 3 rfl) ?_
        refine lv_sipush (v := 5000) hx hb dX11_boat_30 (by decide) ?_
        refine lv_ldc hx hb C.2.2.2.1 (C.2.2.2.2 _ w_1052) dX11_boat_33 ?_
        obtain ⟨v8, e9, h⟩ := ob_ h
        refine th_callS (As := [.int x3, .int 5000, .int 240999]) (rest := []) C T (c_X11_within e9) k_RX11_102 rfl hl.1 rfl (st1 := [.int v8]) rfl (cells1 := 0) rfl (slots1 := 0) rfl (Nat.le_of_ble_eq_true rfl) ⟨Nat.le_of_ble_eq_true rfl, Nat.le_of_ble_eq_true rfl⟩ ⟨Nat.le_of_ble_eq_true rfl, Nat.le_of_ble_eq_true rfl⟩ dX11_boat_35 (fun H locs T => ?_)
        refine lv_if_ne (tgt := 44) hx hb dX11_boat_38 (by decide) (fun c10 => ?_) (fun c10 => ?_)
        · replace h := of_ c10 h
          refine lv_aload_n hx hb dX11_boat_44 rfl (lv_at hl 0 rfl) ?_
          obtain ⟨v11, e12, h⟩ := ob_ h
          refine g_RX11_99 C T e12 dX11_boat_45 ?_
          refine lv_bipush (v := 7) hx hb dX11_boat_48 (by decide) ?_
          refine lv_icmp_ne (tgt := 56) hx hb dX11_boat_50 (by decide) (fun c13 => ?_) (fun c13 => ?_)
          · replace h := of_ c13 h
            refine lv_aload_n hx hb dX11_boat_56 rfl (lv_at hl 0 rfl) ?_
            obtain ⟨a14, e15, h⟩ := ob_ h
            refine g_RX11_7 C T e15 dX11_boat_57 ?_
            refine lv_aload_n hx hb dX11_boat_60 rfl (lv_at hl 0 rfl) ?_
            obtain ⟨v16, e17, h⟩ := ob_ h
            refine g_RX11_99 C T e17 dX11_boat_61 ?_
            refine lv_iload_n hx hb dX11_boat_64 rfl (lv_at hl 1 rfl) ?_
            obtain ⟨μ18, e19, h⟩ := ob_ h
            refine th_iast C T e19 dX11_boat_65 (fun H locs T => ?_)
            refine lv_aload_n hx hb dX11_boat_66 rfl (lv_at hl 0 rfl) ?_
            obtain ⟨a20, e21, h⟩ := ob_ h
            refine g_RX11_16 C T e21 dX11_boat_67 ?_
            refine lv_aload_n hx hb dX11_boat_70 rfl (lv_at hl 0 rfl) ?_
            obtain ⟨v22, e23, h⟩ := ob_ h
            refine g_RX11_99 C T e23 dX11_boat_71 ?_
            refine lv_iload_n hx hb dX11_boat_74 rfl (lv_at hl 2 rfl) ?_
            refine lv_bipush (v := 100) hx hb dX11_boat_75 (by decide) ?_
            refine lv_idiv hx hb dX11_boat_77 (by decide) ?_
            obtain ⟨μ24, e25, h⟩ := ob_ h
            refine th_iast C T e25 dX11_boat_78 (fun H locs T => ?_)
            refine lv_aload_n hx hb dX11_boat_79 rfl (lv_at hl 0 rfl) ?_
            obtain ⟨a26, e27, h⟩ := ob_ h
            refine g_RX11_13 C T e27 dX11_boat_80 ?_
            refine lv_aload_n hx hb dX11_boat_83 rfl (lv_at hl 0 rfl) ?_
            obtain ⟨v28, e29, h⟩ := ob_ h
            refine g_RX11_99 C T e29 dX11_boat_84 ?_
            refine lv_iload_n hx hb dX11_boat_87 rfl (lv_at hl 2 rfl) ?_
            refine lv_bipush (v := 100) hx hb dX11_boat_88 (by decide) ?_
            refine th_irem C dX11_boat_90 (by decide) ?_
            obtain ⟨μ30, e31, h⟩ := ob_ h
            refine th_iast C T e31 dX11_boat_91 (fun H locs T => ?_)
            refine lv_aload_n hx hb dX11_boat_92 rfl (lv_at hl 0 rfl) ?_
            obtain ⟨a32, e33, h⟩ := ob_ h
            refine g_RX11_22 C T e33 dX11_boat_93 ?_
            refine lv_aload_n hx hb dX11_boat_96 rfl (lv_at hl 0 rfl) ?_
            obtain ⟨v34, e35, h⟩ := ob_ h
            refine g_RX11_99 C T e35 dX11_boat_97 ?_
            refine lv_iload_n hx hb dX11_boat_100 rfl (lv_at hl 3 rfl) ?_
            refine lv_sipush (v := 1000) hx hb dX11_boat_101 (by decide) ?_
            refine lv_idiv hx hb dX11_boat_104 (by decide) ?_
            obtain ⟨μ36, e37, h⟩ := ob_ h
            refine th_iast C T e37 dX11_boat_105 (fun H locs T => ?_)
            refine lv_aload_n hx hb dX11_boat_106 rfl (lv_at hl 0 rfl) ?_
            obtain ⟨a38, e39, h⟩ := ob_ h
            refine g_RX11_19 C T e39 dX11_boat_107 ?_
            refine lv_aload_n hx hb dX11_boat_110 rfl (lv_at hl 0 rfl) ?_
            obtain ⟨v40, e41, h⟩ := ob_ h
            refine g_RX11_99 C T e41 dX11_boat_111 ?_
            refine lv_iload_n hx hb dX11_boat_114 rfl (lv_at hl 3 rfl) ?_
            refine lv_sipush (v := 1000) hx hb dX11_boat_115 (by decide) ?_
            refine th_irem C dX11_boat_118 (by decide) ?_
            obtain ⟨μ42, e43, h⟩ := ob_ h
            refine th_iast C T e43 dX11_boat_119 (fun H locs T => ?_)
            refine lv_aload_n hx hb dX11_boat_120 rfl (lv_at hl 0 rfl) ?_
            obtain ⟨a44, e45, h⟩ := ob_ h
            refine g_RX11_25 C T e45 dX11_boat_121 ?_
            refine lv_aload_n hx hb dX11_boat_124 rfl (lv_at hl 0 rfl) ?_
            obtain ⟨v46, e47, h⟩ := ob_ h
            refine g_RX11_99 C T e47 dX11_boat_125 ?_
            refine lv_iconst (v := 0) hx hb dX11_boat_128 (by decide) ?_
            obtain ⟨μ48, e49, h⟩ := ob_ h
            refine th_iast C T e49 dX11_boat_129 (fun H locs T => ?_)
            refine lv_aload_n hx hb dX11_boat_130 rfl (lv_at hl 0 rfl) ?_
            obtain ⟨a50, e51, h⟩ := ob_ h
            refine g_RX11_28 C T e51 dX11_boat_131 ?_
            refine lv_aload_n hx hb dX11_boat_134 rfl (lv_at hl 0 rfl) ?_
            obtain ⟨v52, e53, h⟩ := ob_ h
            refine g_RX11_99 C T e53 dX11_boat_135 ?_
            refine lv_iconst (v := -1) hx hb dX11_boat_138 (by decide) ?_
            obtain ⟨μ54, e55, h⟩ := ob_ h
            refine th_iast C T e55 dX11_boat_139 (fun H locs T => ?_)
            refine lv_aload_n hx hb dX11_boat_140 rfl (lv_at hl 0 rfl) ?_
            refine lv_dup hx hb dX11_boat_141 rfl ?_
            obtain ⟨v56, e57, h⟩ := ob_ h
            refine g_RX11_99 C T e57 dX11_boat_142 ?_
            refine lv_dup_x1 hx hb dX11_boat_145 rfl rfl ?_
            refine lv_iconst (v := 1) hx hb dX11_boat_146 (by decide) ?_
            refine lv_iadd hx hb dX11_boat_147 ?_
            obtain ⟨μ58, e59, h⟩ := ob_ h
            refine p_RX11_99 C T e59 dX11_boat_148 (fun H locs T => ?_)
            obtain ⟨rfl, rfl⟩ := os2 h
            exact th_iret hQ C hr hk T (Nat.le_of_ble_eq_true rfl) (Nat.le_of_ble_eq_true rfl) dX11_boat_151
          · replace h := ot_ c13 h
            refine lv_bipush (v := -4) hx hb dX11_boat_53 (by decide) ?_
            obtain ⟨rfl, rfl⟩ := os2 h
            exact th_iret hQ C hr hk T (Nat.le_of_ble_eq_true rfl) (Nat.le_of_ble_eq_true rfl) dX11_boat_55
        · replace h := ot_ c10 h
          refine lv_bipush (v := -2) hx hb dX11_boat_41 (by decide) ?_
          obtain ⟨rfl, rfl⟩ := os2 h
          exact th_iret hQ C hr hk T (Nat.le_of_ble_eq_true rfl) (Nat.le_of_ble_eq_true rfl) dX11_boat_43
set_option maxRecDepth 100000 in
set_option maxHeartbeats 4000000 in
theorem c_X11_set {l : Launch} {G : th_G} {σ : th_S} {μ : th_M} {t : Nat} {x1 : Int32} {x2 : Int32} {x3 : Int32} {r : Int32} {μ' : th_M} (h : f_X11_set σ μ t x1 x2 x3 = some (r, μ')) : th_Met l G yX11_set cX11_set 7 (some FieldType.int) { frames := 2, cells := 0, slots := 0, locals := 43 } [.ref t, .int x1, .int x2, .int x3] σ μ (some (.int r)) σ μ' := by
  refine th_ofW (by decide +kernel) (Nat.le_of_ble_eq_true rfl) ?_
  intro p e s m args below meth c ls Q hQ C hr hk hnm T hl
  have hx := C.1
  have hb := C.2.1
  have C : CallFix p m c cX11_set 7 s args th_ws RX11 := C
  have hl : lv_has ls 7 [(0, .ref t), (1, .int x1), (2, .int x2), (3, .int x3)] := hl
  have J113 : ∀ (μ : th_M) (t : Nat) (x1 : Int32) (x2 : Int32) (x3 : Int32) (x4 : Int32) (x5 : Int32) (H : Heap) (locs : List Loc) (ls : Array Slot), th_R G s H locs σ μ → lv_has ls 7 [(0, .ref t), (1, .int x1), (2, .int x2), (3, .int x3), (4, .int x4), (5, .int x5)] → f_X11_set_b113 σ μ t x1 x2 x3 x4 x5 = some (r, μ') → W p l e { frames := 2, cells := 0, slots := 0, locals := 43 } s m args below meth c H locs 0 0 Q (F0 m 113 ls []) := by
    intro μ t x1 x2 x3 x4 x5 H locs ls T hl h
    unfold f_X11_set_b113 at h
    refine lv_iload_n hx hb dX11_set_113 rfl (lv_at hl 3 rfl) ?_
    refine lv_iload hx hb dX11_set_114 (lv_at hl 4 rfl) ?_
    refine lv_iload hx hb dX11_set_116 (lv_at hl 5 rfl) ?_
    obtain ⟨v1, e2, h⟩ := ob_ h
    refine th_callS (As := [.int x3, .int x4, .int x5]) (rest := []) C T (c_X11_within e2) k_RX11_102 rfl hl.1 rfl (st1 := [.int v1]) rfl (cells1 := 0) rfl (slots1 := 0) rfl (Nat.le_of_ble_eq_true rfl) ⟨Nat.le_of_ble_eq_true rfl, Nat.le_of_ble_eq_true rfl⟩ ⟨Nat.le_of_ble_eq_true rfl, Nat.le_of_ble_eq_true rfl⟩ dX11_set_118 (fun H locs T => ?_)
    refine lv_if_ne (tgt := 127) hx hb dX11_set_121 (by decide) (fun c3 => ?_) (fun c3 => ?_)
    · replace h := of_ c3 h
      refine lv_iload_n hx hb dX11_set_127 rfl (lv_at hl 1 rfl) ?_
      by_cases c4 : x1 = 0
      · replace h := ot_ c4 h
        refine th_tabIn (off := 48) (tgt := 176) C 0 c4 dX11_set_128 (by decide) (by decide) (by decide) (by decide) ?_
        refine lv_aload_n hx hb dX11_set_176 rfl (lv_at hl 0 rfl) ?_
        obtain ⟨a5, e6, h⟩ := ob_ h
        refine g_RX11_16 C T e6 dX11_set_177 ?_
        refine lv_iload_n hx hb dX11_set_180 rfl (lv_at hl 2 rfl) ?_
        obtain ⟨v7, e8, h⟩ := ob_ h
        refine th_iald C T e8 dX11_set_181 ?_
        refine lv_istore (lv' := [(6, .int v7), (0, .ref t), (1, .int x1), (2, .int x2), (3, .int x3), (4, .int x4), (5, .int x5)]) hx hb dX11_set_182 hl (by decide) rfl (fun ls hl => ?_)
        refine lv_aload_n hx hb dX11_set_184 rfl (lv_at hl 1 rfl) ?_
        obtain ⟨a9, e10, h⟩ := ob_ h
        refine g_RX11_16 C T e10 dX11_set_185 ?_
        refine lv_iload_n hx hb dX11_set_188 rfl (lv_at hl 3 rfl) ?_
        refine lv_iload_n hx hb dX11_set_189 rfl (lv_at hl 4 rfl) ?_
        obtain ⟨μ11, e12, h⟩ := ob_ h
        refine th_iast C T e12 dX11_set_190 (fun H locs T => ?_)
        refine lv_iload hx hb dX11_set_191 (lv_at hl 0 rfl) ?_
        obtain ⟨rfl, rfl⟩ := os2 h
        exact th_iret hQ C hr hk T (Nat.le_of_ble_eq_true rfl) (Nat.le_of_ble_eq_true rfl) dX11_set_193
      replace h := of_ c4 h
      by_cases c13 : x1 = 1
      · replace h := ot_ c13 h
        refine th_tabIn (off := 66) (tgt := 194) C 1 c13 dX11_set_128 (by decide) (by decide) (by decide) (by decide) ?_
        refine lv_aload_n hx hb dX11_set_194 rfl (lv_at hl 0 rfl) ?_
        obtain ⟨a14, e15, h⟩ := ob_ h
        refine g_RX11_19 C T e15 dX11_set_195 ?_
        refine lv_iload_n hx hb dX11_set_198 rfl (lv_at hl 2 rfl) ?_
        obtain ⟨v16, e17, h⟩ := ob_ h
        refine th_iald C T e17 dX11_set_199 ?_
        refine lv_istore (lv' := [(6, .int v16), (0, .ref t), (1, .int x1), (2, .int x2), (3, .int x3), (4, .int x4), (5, .int x5)]) hx hb dX11_set_200 hl (by decide) rfl (fun ls hl => ?_)
        refine lv_aload_n hx hb dX11_set_202 rfl (lv_at hl 1 rfl) ?_
        obtain ⟨a18, e19, h⟩ := ob_ h
        refine g_RX11_19 C T e19 dX11_set_203 ?_
        refine lv_iload_n hx hb dX11_set_206 rfl (lv_at hl 3 rfl) ?_
        refine lv_iload_n hx hb dX11_set_207 rfl (lv_at hl 4 rfl) ?_
        obtain ⟨μ20, e21, h⟩ := ob_ h
        refine th_iast C T e21 dX11_set_208 (fun H locs T => ?_)
        refine lv_iload hx hb dX11_set_209 (lv_at hl 0 rfl) ?_
        obtain ⟨rfl, rfl⟩ := os2 h
        exact th_iret hQ C hr hk T (Nat.le_of_ble_eq_true rfl) (Nat.le_of_ble_eq_true rfl) dX11_set_211
      replace h := of_ c13 h
      by_cases c22 : x1 = 2
      · replace h := ot_ c22 h
        refine th_tabIn (off := 84) (tgt := 212) C 2 c22 dX11_set_128 (by decide) (by decide) (by decide) (by decide) ?_
        refine lv_aload_n hx hb dX11_set_212 rfl (lv_at hl 0 rfl) ?_
        obtain ⟨a23, e24, h⟩ := ob_ h
        refine g_RX11_22 C T e24 dX11_set_213 ?_
        refine lv_iload_n hx hb dX11_set_216 rfl (lv_at hl 2 rfl) ?_
        obtain ⟨v25, e26, h⟩ := ob_ h
        refine th_iald C T e26 dX11_set_217 ?_
        refine lv_istore (lv' := [(6, .int v25), (0, .ref t), (1, .int x1), (2, .int x2), (3, .int x3), (4, .int x4), (5, .int x5)]) hx hb dX11_set_218 hl (by decide) rfl (fun ls hl => ?_)
        refine lv_aload_n hx hb dX11_set_220 rfl (lv_at hl 1 rfl) ?_
        obtain ⟨a27, e28, h⟩ := ob_ h
        refine g_RX11_22 C T e28 dX11_set_221 ?_
        refine lv_iload_n hx hb dX11_set_224 rfl (lv_at hl 3 rfl) ?_
        refine lv_iload_n hx hb dX11_set_225 rfl (lv_at hl 4 rfl) ?_
        obtain ⟨μ29, e30, h⟩ := ob_ h
        refine th_iast C T e30 dX11_set_226 (fun H locs T => ?_)
        refine lv_iload hx hb dX11_set_227 (lv_at hl 0 rfl) ?_
        obtain ⟨rfl, rfl⟩ := os2 h
        exact th_iret hQ C hr hk T (Nat.le_of_ble_eq_true rfl) (Nat.le_of_ble_eq_true rfl) dX11_set_229
      replace h := of_ c22 h
      by_cases c31 : x1 = 3
      · replace h := ot_ c31 h
        refine th_tabIn (off := 102) (tgt := 230) C 3 c31 dX11_set_128 (by decide) (by decide) (by decide) (by decide) ?_
        refine lv_aload_n hx hb dX11_set_230 rfl (lv_at hl 0 rfl) ?_
        obtain ⟨a32, e33, h⟩ := ob_ h
        refine g_RX11_13 C T e33 dX11_set_231 ?_
        refine lv_iload_n hx hb dX11_set_234 rfl (lv_at hl 2 rfl) ?_
        obtain ⟨v34, e35, h⟩ := ob_ h
        refine th_iald C T e35 dX11_set_235 ?_
        refine lv_istore (lv' := [(6, .int v34), (0, .ref t), (1, .int x1), (2, .int x2), (3, .int x3), (4, .int x4), (5, .int x5)]) hx hb dX11_set_236 hl (by decide) rfl (fun ls hl => ?_)
        refine lv_aload_n hx hb dX11_set_238 rfl (lv_at hl 1 rfl) ?_
        obtain ⟨a36, e37, h⟩ := ob_ h
        refine g_RX11_13 C T e37 dX11_set_239 ?_
        refine lv_iload_n hx hb dX11_set_242 rfl (lv_at hl 3 rfl) ?_
        refine lv_iload_n hx hb dX11_set_243 rfl (lv_at hl 4 rfl) ?_
        obtain ⟨μ38, e39, h⟩ := ob_ h
        refine th_iast C T e39 dX11_set_244 (fun H locs T => ?_)
        refine lv_iload hx hb dX11_set_245 (lv_at hl 0 rfl) ?_
        obtain ⟨rfl, rfl⟩ := os2 h
        exact th_iret hQ C hr hk T (Nat.le_of_ble_eq_true rfl) (Nat.le_of_ble_eq_true rfl) dX11_set_247
      replace h := of_ c31 h
      by_cases c40 : x1 = 4
      · replace h := ot_ c40 h
        refine th_tabIn (off := 120) (tgt := 248) C 4 c40 dX11_set_128 (by decide) (by decide) (by decide) (by decide) ?_
        refine lv_aload_n hx hb dX11_set_248 rfl (lv_at hl 0 rfl) ?_
        obtain ⟨v41, e42, h⟩ := ob_ h
        refine g_RX11_70 C T e42 dX11_set_249 ?_
        refine lv_istore (lv' := [(6, .int v41), (0, .ref t), (1, .int x1), (2, .int x2), (3, .int x3), (4, .int x4), (5, .int x5)]) hx hb dX11_set_252 hl (by decide) rfl (fun ls hl => ?_)
        refine lv_aload_n hx hb dX11_set_254 rfl (lv_at hl 1 rfl) ?_
        refine lv_iload_n hx hb dX11_set_255 rfl (lv_at hl 4 rfl) ?_
        obtain ⟨μ43, e44, h⟩ := ob_ h
        refine p_RX11_70 C T e44 dX11_set_256 (fun H locs T => ?_)
        refine lv_iload hx hb dX11_set_259 (lv_at hl 0 rfl) ?_
        obtain ⟨rfl, rfl⟩ := os2 h
        exact th_iret hQ C hr hk T (Nat.le_of_ble_eq_true rfl) (Nat.le_of_ble_eq_true rfl) dX11_set_261
      replace h := of_ c40 h
      by_cases c45 : x1 = 5
      · replace h := ot_ c45 h
        refine th_tabIn (off := 134) (tgt := 262) C 5 c45 dX11_set_128 (by decide) (by decide) (by decide) (by decide) ?_
        refine lv_aload_n hx hb dX11_set_262 rfl (lv_at hl 0 rfl) ?_
        obtain ⟨v46, e47, h⟩ := ob_ h
        refine g_RX11_116 C T e47 dX11_set_263 ?_
        refine lv_istore (lv' := [(6, .int v46), (0, .ref t), (1, .int x1), (2, .int x2), (3, .int x3), (4, .int x4), (5, .int x5)]) hx hb dX11_set_266 hl (by decide) rfl (fun ls hl => ?_)
        refine lv_aload_n hx hb dX11_set_268 rfl (lv_at hl 1 rfl) ?_
        refine lv_iload_n hx hb dX11_set_269 rfl (lv_at hl 4 rfl) ?_
        obtain ⟨μ48, e49, h⟩ := ob_ h
        refine p_RX11_116 C T e49 dX11_set_270 (fun H locs T => ?_)
        refine lv_iload hx hb dX11_set_273 (lv_at hl 0 rfl) ?_
        obtain ⟨rfl, rfl⟩ := os2 h
        exact th_iret hQ C hr hk T (Nat.le_of_ble_eq_true rfl) (Nat.le_of_ble_eq_true rfl) dX11_set_275
      replace h := of_ c45 h
      by_cases c50 : x1 = 6
      · replace h := ot_ c50 h
        refine th_tabIn (off := 148) (tgt := 276) C 6 c50 dX11_set_128 (by decide) (by decide) (by decide) (by decide) ?_
        refine lv_aload_n hx hb dX11_set_276 rfl (lv_at hl 0 rfl) ?_
        obtain ⟨v51, e52, h⟩ := ob_ h
        refine g_RX11_74 C T e52 dX11_set_277 ?_
        refine lv_istore (lv' := [(6, .int v51), (0, .ref t), (1, .int x1), (2, .int x2), (3, .int x3), (4, .int x4), (5, .int x5)]) hx hb dX11_set_280 hl (by decide) rfl (fun ls hl => ?_)
        refine lv_aload_n hx hb dX11_set_282 rfl (lv_at hl 1 rfl) ?_
        refine lv_iload_n hx hb dX11_set_283 rfl (lv_at hl 4 rfl) ?_
        obtain ⟨μ53, e54, h⟩ := ob_ h
        refine p_RX11_74 C T e54 dX11_set_284 (fun H locs T => ?_)
        refine lv_iload hx hb dX11_set_287 (lv_at hl 0 rfl) ?_
        obtain ⟨rfl, rfl⟩ := os2 h
        exact th_iret hQ C hr hk T (Nat.le_of_ble_eq_true rfl) (Nat.le_of_ble_eq_true rfl) dX11_set_289
      replace h := of_ c50 h
      by_cases c55 : x1 = 7
      · replace h := ot_ c55 h
        refine th_tabIn (off := 162) (tgt := 290) C 7 c55 dX11_set_128 (by decide) (by decide) (by decide) (by decide) ?_
        refine lv_aload_n hx hb dX11_set_290 rfl (lv_at hl 0 rfl) ?_
        obtain ⟨v56, e57, h⟩ := ob_ h
        refine g_RX11_77 C T e57 dX11_set_291 ?_
        refine lv_istore (lv' := [(6, .int v56), (0, .ref t), (1, .int x1), (2, .int x2), (3, .int x3), (4, .int x4), (5, .int x5)]) hx hb dX11_set_294 hl (by decide) rfl (fun ls hl => ?_)
        refine lv_aload_n hx hb dX11_set_296 rfl (lv_at hl 1 rfl) ?_
        refine lv_iload_n hx hb dX11_set_297 rfl (lv_at hl 4 rfl) ?_
        obtain ⟨μ58, e59, h⟩ := ob_ h
        refine p_RX11_77 C T e59 dX11_set_298 (fun H locs T => ?_)
        refine lv_iload hx hb dX11_set_301 (lv_at hl 0 rfl) ?_
        obtain ⟨rfl, rfl⟩ := os2 h
        exact th_iret hQ C hr hk T (Nat.le_of_ble_eq_true rfl) (Nat.le_of_ble_eq_true rfl) dX11_set_303
      replace h := of_ c55 h
      have n60 := th_ne (n := 0) c4 (by decide)
      have n61 := th_ne (n := 1) c13 (by decide)
      have n62 := th_ne (n := 2) c22 (by decide)
      have n63 := th_ne (n := 3) c31 (by decide)
      have n64 := th_ne (n := 4) c40 (by decide)
      have n65 := th_ne (n := 5) c45 (by decide)
      have n66 := th_ne (n := 6) c50 (by decide)
      have n67 := th_ne (n := 7) c55 (by decide)
      refine lv_tableOut (tgt := 304) hx hb dX11_set_128 (by omega) (by decide) ?_
      refine lv_aload_n hx hb dX11_set_304 rfl (lv_at hl 0 rfl) ?_
      obtain ⟨v68, e69, h⟩ := ob_ h
      refine g_RX11_119 C T e69 dX11_set_305 ?_
      refine lv_istore (lv' := [(6, .int v68), (0, .ref t), (1, .int x1), (2, .int x2), (3, .int x3), (4, .int x4), (5, .int x5)]) hx hb dX11_set_308 hl (by decide) rfl (fun ls hl => ?_)
      refine lv_aload_n hx hb dX11_set_310 rfl (lv_at hl 1 rfl) ?_
      refine lv_iload_n hx hb dX11_set_311 rfl (lv_at hl 4 rfl) ?_
      obtain ⟨μ70, e71, h⟩ := ob_ h
      refine p_RX11_119 C T e71 dX11_set_312 (fun H locs T => ?_)
      refine lv_iload hx hb dX11_set_315 (lv_at hl 0 rfl) ?_
      obtain ⟨rfl, rfl⟩ := os2 h
      exact th_iret hQ C hr hk T (Nat.le_of_ble_eq_true rfl) (Nat.le_of_ble_eq_true rfl) dX11_set_317
    · replace h := ot_ c3 h
      refine lv_bipush (v := -2) hx hb dX11_set_124 (by decide) ?_
      obtain ⟨rfl, rfl⟩ := os2 h
      exact th_iret hQ C hr hk T (Nat.le_of_ble_eq_true rfl) (Nat.le_of_ble_eq_true rfl) dX11_set_126
  have J88 : ∀ (μ : th_M) (t : Nat) (x1 : Int32) (x2 : Int32) (x3 : Int32) (x4 : Int32) (y0 : Int32) (H : Heap) (locs : List Loc) (ls : Array Slot), th_R G s H locs σ μ → lv_has ls 7 [(0, .ref t), (1, .int x1), (2, .int x2), (3, .int x3), (4, .int x4)] → f_X11_set_b88 σ μ t x1 x2 x3 x4 y0 = some (r, μ') → W p l e { frames := 2, cells := 0, slots := 0, locals := 43 } s m args below meth c H locs 0 0 Q (F0 m 88 ls [.int y0]) := by
    intro μ t x1 x2 x3 x4 y0 H locs ls T hl h
    unfold f_X11_set_b88 at h
    refine lv_istore (lv' := [(5, .int y0), (0, .ref t), (1, .int x1), (2, .int x2), (3, .int x3), (4, .int x4)]) hx hb dX11_set_88 hl (by decide) rfl (fun ls hl => ?_)
    refine lv_iload_n hx hb dX11_set_90 rfl (lv_at hl 2 rfl) ?_
    refine lv_iconst (v := 0) hx hb dX11_set_91 (by decide) ?_
    refine lv_bipush (v := 8) hx hb dX11_set_92 (by decide) ?_
    obtain ⟨v1, e2, h⟩ := ob_ h
    refine th_callS (As := [.int x1, .int 0, .int 8]) (rest := []) C T (c_X11_within e2) k_RX11_102 rfl hl.1 rfl (st1 := [.int v1]) rfl (cells1 := 0) rfl (slots1 := 0) rfl (Nat.le_of_ble_eq_true rfl) ⟨Nat.le_of_ble_eq_true rfl, Nat.le_of_ble_eq_true rfl⟩ ⟨Nat.le_of_ble_eq_true rfl, Nat.le_of_ble_eq_true rfl⟩ dX11_set_94 (fun H locs T => ?_)
    refine lv_if_eq (tgt := 124) hx hb dX11_set_97 (by decide) (fun c3 => ?_) (fun c3 => ?_)
    · replace h := ot_ c3 h
      refine lv_bipush (v := -2) hx hb dX11_set_124 (by decide) ?_
      obtain ⟨rfl, rfl⟩ := os2 h
      exact th_iret hQ C hr hk T (Nat.le_of_ble_eq_true rfl) (Nat.le_of_ble_eq_true rfl) dX11_set_126
    · replace h := of_ c3 h
      refine lv_iload_n hx hb dX11_set_100 rfl (lv_at hl 2 rfl) ?_
      refine lv_iconst (v := 4) hx hb dX11_set_101 (by decide) ?_
      refine lv_icmp_ge (tgt := 113) hx hb dX11_set_102 (by decide) (fun c4 => ?_) (fun c4 => ?_)
      · replace h := ot_ c4 h
        exact J113 _ _ _ _ _ _ _ _ _ _ T (lv_sub hl [1, 2, 3, 4, 5, 0] rfl) h
      · replace h := of_ c4 h
        refine lv_aload_n hx hb dX11_set_105 rfl (lv_at hl 1 rfl) ?_
        refine lv_iload_n hx hb dX11_set_106 rfl (lv_at hl 3 rfl) ?_
        obtain ⟨k5, h⟩ := oc_ h
        obtain ⟨v6, e7, h⟩ := ob_ h
        refine th_callV (As := [.int x2]) (rest := []) C T (c_X11_isBoat e7) k_RX11_112 11 rfl rfl (by decide) k5 rfl hl.1 rfl (st1 := [.int v6]) rfl (cells1 := 0) rfl (slots1 := 0) rfl (Nat.le_of_ble_eq_true rfl) ⟨Nat.le_of_ble_eq_true rfl, Nat.le_of_ble_eq_true rfl⟩ ⟨Nat.le_of_ble_eq_true rfl, Nat.le_of_ble_eq_true rfl⟩ dX11_set_107 (fun H locs T => ?_)
        refine lv_if_eq (tgt := 124) hx hb dX11_set_110 (by decide) (fun c8 => ?_) (fun c8 => ?_)
        · replace h := ot_ c8 h
          refine lv_bipush (v := -2) hx hb dX11_set_124 (by decide) ?_
          obtain ⟨rfl, rfl⟩ := os2 h
          exact th_iret hQ C hr hk T (Nat.le_of_ble_eq_true rfl) (Nat.le_of_ble_eq_true rfl) dX11_set_126
        · replace h := of_ c8 h
          exact J113 _ _ _ _ _ _ _ _ _ _ T (lv_sub hl [1, 2, 3, 4, 5, 0] rfl) h
  have J26 : ∀ (μ : th_M) (t : Nat) (x1 : Int32) (x2 : Int32) (x3 : Int32) (y0 : Int32) (H : Heap) (locs : List Loc) (ls : Array Slot), th_R G s H locs σ μ → lv_has ls 7 [(0, .ref t), (1, .int x1), (2, .int x2), (3, .int x3)] → f_X11_set_b26 σ μ t x1 x2 x3 y0 = some (r, μ') → W p l e { frames := 2, cells := 0, slots := 0, locals := 43 } s m args below meth c H locs 0 0 Q (F0 m 26 ls [.int y0]) := by
    intro μ t x1 x2 x3 y0 H locs ls T hl h
    unfold f_X11_set_b26 at h
    refine lv_istore (lv' := [(4, .int y0), (0, .ref t), (1, .int x1), (2, .int x2), (3, .int x3)]) hx hb dX11_set_26 hl (by decide) rfl (fun ls hl => ?_)
    refine lv_iload_n hx hb dX11_set_28 rfl (lv_at hl 2 rfl) ?_
    refine lv_if_eq (tgt := 37) hx hb dX11_set_29 (by decide) (fun c1 => ?_) (fun c1 => ?_)
    · replace h := ot_ c1 h
      refine lv_bipush (v := 47) hx hb dX11_set_37 (by decide) ?_
      refine lv_goto (tgt := 88) hx hb dX11_set_39 (by decide) ?_
      exact J88 _ _ _ _ _ _ _ _ _ _ T (lv_sub hl [1, 2, 3, 4, 0] rfl) h
    · replace h := of_ c1 h
      refine lv_iload_n hx hb dX11_set_32 rfl (lv_at hl 2 rfl) ?_
      refine lv_iconst (v := 4) hx hb dX11_set_33 (by decide) ?_
      refine lv_icmp_ne (tgt := 42) hx hb dX11_set_34 (by decide) (fun c2 => ?_) (fun c2 => ?_)
      · replace h := of_ c2 h
        refine lv_iload_n hx hb dX11_set_42 rfl (lv_at hl 2 rfl) ?_
        refine lv_iconst (v := 1) hx hb dX11_set_43 (by decide) ?_
        refine lv_icmp_ne (tgt := 53) hx hb dX11_set_44 (by decide) (fun c3 => ?_) (fun c3 => ?_)
        · replace h := of_ c3 h
          refine lv_iload_n hx hb dX11_set_53 rfl (lv_at hl 2 rfl) ?_
          refine lv_iconst (v := 2) hx hb dX11_set_54 (by decide) ?_
          refine lv_icmp_ne (tgt := 64) hx hb dX11_set_55 (by decide) (fun c4 => ?_) (fun c4 => ?_)
          · replace h := of_ c4 h
            refine lv_iload_n hx hb dX11_set_64 rfl (lv_at hl 2 rfl) ?_
            refine lv_bipush (v := 6) hx hb dX11_set_65 (by decide) ?_
            refine lv_icmp_ne (tgt := 75) hx hb dX11_set_67 (by decide) (fun c5 => ?_) (fun c5 => ?_)
            · replace h := of_ c5 h
              refine lv_iload_n hx hb dX11_set_75 rfl (lv_at hl 2 rfl) ?_
              refine lv_bipush (v := 8) hx hb dX11_set_76 (by decide) ?_
              refine lv_icmp_ne (tgt := 86) hx hb dX11_set_78 (by decide) (fun c6 => ?_) (fun c6 => ?_)
              · replace h := of_ c6 h
                refine lv_bipush (v := 9) hx hb dX11_set_86 (by decide) ?_
                exact J88 _ _ _ _ _ _ _ _ _ _ T (lv_sub hl [1, 2, 3, 4, 0] rfl) h
              · replace h := ot_ c6 h
                refine lv_bipush (v := 20) hx hb dX11_set_81 (by decide) ?_
                refine lv_goto (tgt := 88) hx hb dX11_set_83 (by decide) ?_
                exact J88 _ _ _ _ _ _ _ _ _ _ T (lv_sub hl [1, 2, 3, 4, 0] rfl) h
            · replace h := ot_ c5 h
              refine lv_bipush (v := 6) hx hb dX11_set_70 (by decide) ?_
              refine lv_goto (tgt := 88) hx hb dX11_set_72 (by decide) ?_
              exact J88 _ _ _ _ _ _ _ _ _ _ T (lv_sub hl [1, 2, 3, 4, 0] rfl) h
          · replace h := ot_ c4 h
            refine lv_sipush (v := 240) hx hb dX11_set_58 (by decide) ?_
            refine lv_goto (tgt := 88) hx hb dX11_set_61 (by decide) ?_
            exact J88 _ _ _ _ _ _ _ _ _ _ T (lv_sub hl [1, 2, 3, 4, 0] rfl) h
        · replace h := ot_ c3 h
          refine lv_sipush (v := 999) hx hb dX11_set_47 (by decide) ?_
          refine lv_goto (tgt := 88) hx hb dX11_set_50 (by decide) ?_
          exact J88 _ _ _ _ _ _ _ _ _ _ T (lv_sub hl [1, 2, 3, 4, 0] rfl) h
      · replace h := ot_ c2 h
        refine lv_bipush (v := 47) hx hb dX11_set_37 (by decide) ?_
        refine lv_goto (tgt := 88) hx hb dX11_set_39 (by decide) ?_
        exact J88 _ _ _ _ _ _ _ _ _ _ T (lv_sub hl [1, 2, 3, 4, 0] rfl) h
  unfold f_X11_set at h
  refine lv_iload_n hx hb dX11_set_0 rfl (lv_at hl 1 rfl) ?_
  refine lv_iconst (v := 2) hx hb dX11_set_1 (by decide) ?_
  refine lv_icmp_ne (tgt := 9) hx hb dX11_set_2 (by decide) (fun c1 => ?_) (fun c1 => ?_)
  · replace h := of_ c1 h
    refine lv_iload_n hx hb dX11_set_9 rfl (lv_at hl 1 rfl) ?_
    refine lv_bipush (v := 6) hx hb dX11_set_10 (by decide) ?_
    refine lv_icmp_eq (tgt := 21) hx hb dX11_set_12 (by decide) (fun c2 => ?_) (fun c2 => ?_)
    · replace h := ot_ c2 h
      refine lv_iconst (v := 1) hx hb dX11_set_21 (by decide) ?_
      refine lv_goto (tgt := 26) hx hb dX11_set_22 (by decide) ?_
      exact J26 _ _ _ _ _ _ _ _ _ T (lv_sub hl [0, 1, 2, 3] rfl) h
    · replace h := of_ c2 h
      refine lv_iload_n hx hb dX11_set_15 rfl (lv_at hl 1 rfl) ?_
      refine lv_bipush (v := 7) hx hb dX11_set_16 (by decide) ?_
      refine lv_icmp_ne (tgt := 25) hx hb dX11_set_18 (by decide) (fun c3 => ?_) (fun c3 => ?_)
      · replace h := of_ c3 h
        refine lv_iconst (v := 0) hx hb dX11_set_25 (by decide) ?_
        exact J26 _ _ _ _ _ _ _ _ _ T (lv_sub hl [0, 1, 2, 3] rfl) h
      · replace h := ot_ c3 h
        refine lv_iconst (v := 1) hx hb dX11_set_21 (by decide) ?_
        refine lv_goto (tgt := 26) hx hb dX11_set_22 (by decide) ?_
        exact J26 _ _ _ _ _ _ _ _ _ T (lv_sub hl [0, 1, 2, 3] rfl) h
  · replace h := ot_ c1 h
    refine lv_iconst (v := 5) hx hb dX11_set_5 (by decide) ?_
    refine lv_goto (tgt := 26) hx hb dX11_set_6 (by decide) ?_
    exact J26 _ _ _ _ _ _ _ _ _ T (lv_sub hl [0, 1, 2, 3] rfl) h
