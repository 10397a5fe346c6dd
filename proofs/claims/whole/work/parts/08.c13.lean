set_option maxRecDepth 100000 in
set_option maxHeartbeats 4000000 in
theorem c_X11_image {l : Launch} {G : th_G} {σ : th_S} {μ : th_M} {t : Nat} {r : Int32} {μ' : th_M} (h : f_X11_image σ μ t = some (r, μ')) : th_Met l G yX11_image cX11_image 2 (some FieldType.int) { frames := 0, cells := 0, slots := 0, locals := 0 } [.ref t] σ μ (some (.int r)) σ μ' := by
  refine th_ofW (by decide +kernel) (Nat.le_of_ble_eq_true rfl) ?_
  intro p e s m args below meth c ls Q hQ C hr hk hnm T hl
  have hx := C.1
  have hb := C.2.1
  have C : CallFix p m c cX11_image 2 s args th_ws RX11 := C
  have hl : lv_has ls 2 [(0, .ref t)] := hl
  have J15 : ∀ (n : Nat) (μ : th_M) (t : Nat) (x1 : Int32) (H : Heap) (locs : List Loc) (ls : Array Slot), th_R G s H locs σ μ → lv_has ls 2 [(0, .ref t), (1, .int x1)] → f_X11_image_b15  n σ μ t x1 = some (r, μ') → W p l e { frames := 0, cells := 0, slots := 0, locals := 0 } s m args below meth c H locs 0 0 Q (F0 m 15 ls []) := by
    intro n
    induction n with
    | zero => intro μ t x1 H locs ls T hl h; unfold f_X11_image_b15 at h; cases h
    | succ n15 ih15 =>
      intro μ t x1 H locs ls T hl h
      unfold f_X11_image_b15 at h
      refine lv_iload_n hx hb dX11_image_15 rfl (lv_at hl 1 rfl) ?_
      refine lv_aload_n hx hb dX11_image_16 rfl (lv_at hl 0 rfl) ?_
      obtain ⟨v1, e2, h⟩ := ob_ h
      refine g_RX11_99 C T e2 dX11_image_17 ?_
      refine lv_icmp_ge (tgt := 129) hx hb dX11_image_20 (by decide) (fun c3 => ?_) (fun c3 => ?_)
      · replace h := ot_ c3 h
        refine lv_aload_n hx hb dX11_image_129 rfl (lv_at hl 0 rfl) ?_
        obtain ⟨a4, e5, h⟩ := ob_ h
        refine g_RX11_55 C T e5 dX11_image_130 ?_
        refine lv_bipush (v := 42) hx hb dX11_image_133 (by decide) ?_
        refine lv_aload_n hx hb dX11_image_135 rfl (lv_at hl 0 rfl) ?_
        obtain ⟨v6, e7, h⟩ := ob_ h
        refine g_RX11_70 C T e7 dX11_image_136 ?_
        obtain ⟨μ8, e9, h⟩ := ob_ h
        refine th_iastn C T e9 (by decide) (by decide) dX11_image_139 (fun H locs T => ?_)
        refine lv_aload_n hx hb dX11_image_140 rfl (lv_at hl 0 rfl) ?_
        obtain ⟨a10, e11, h⟩ := ob_ h
        refine g_RX11_55 C T e11 dX11_image_141 ?_
        refine lv_bipush (v := 43) hx hb dX11_image_144 (by decide) ?_
        refine lv_aload_n hx hb dX11_image_146 rfl (lv_at hl 0 rfl) ?_
        obtain ⟨v12, e13, h⟩ := ob_ h
        refine g_RX11_116 C T e13 dX11_image_147 ?_
        obtain ⟨μ14, e15, h⟩ := ob_ h
        refine th_iastn C T e15 (by decide) (by decide) dX11_image_150 (fun H locs T => ?_)
        refine lv_aload_n hx hb dX11_image_151 rfl (lv_at hl 0 rfl) ?_
        obtain ⟨a16, e17, h⟩ := ob_ h
        refine g_RX11_55 C T e17 dX11_image_152 ?_
        refine lv_bipush (v := 44) hx hb dX11_image_155 (by decide) ?_
        refine lv_aload_n hx hb dX11_image_157 rfl (lv_at hl 0 rfl) ?_
        obtain ⟨v18, e19, h⟩ := ob_ h
        refine g_RX11_142 C T e19 dX11_image_158 ?_
        obtain ⟨μ20, e21, h⟩ := ob_ h
        refine th_iastn C T e21 (by decide) (by decide) dX11_image_161 (fun H locs T => ?_)
        refine lv_aload_n hx hb dX11_image_162 rfl (lv_at hl 0 rfl) ?_
        obtain ⟨a22, e23, h⟩ := ob_ h
        refine g_RX11_55 C T e23 dX11_image_163 ?_
        refine lv_bipush (v := 45) hx hb dX11_image_166 (by decide) ?_
        refine lv_aload_n hx hb dX11_image_168 rfl (lv_at hl 0 rfl) ?_
        obtain ⟨v24, e25, h⟩ := ob_ h
        refine g_RX11_74 C T e25 dX11_image_169 ?_
        obtain ⟨μ26, e27, h⟩ := ob_ h
        refine th_iastn C T e27 (by decide) (by decide) dX11_image_172 (fun H locs T => ?_)
        refine lv_aload_n hx hb dX11_image_173 rfl (lv_at hl 0 rfl) ?_
        obtain ⟨a28, e29, h⟩ := ob_ h
        refine g_RX11_55 C T e29 dX11_image_174 ?_
        refine lv_bipush (v := 46) hx hb dX11_image_177 (by decide) ?_
        refine lv_aload_n hx hb dX11_image_179 rfl (lv_at hl 0 rfl) ?_
        obtain ⟨v30, e31, h⟩ := ob_ h
        refine g_RX11_77 C T e31 dX11_image_180 ?_
        obtain ⟨μ32, e33, h⟩ := ob_ h
        refine th_iastn C T e33 (by decide) (by decide) dX11_image_183 (fun H locs T => ?_)
        refine lv_aload_n hx hb dX11_image_184 rfl (lv_at hl 0 rfl) ?_
        obtain ⟨a34, e35, h⟩ := ob_ h
        refine g_RX11_55 C T e35 dX11_image_185 ?_
        refine lv_bipush (v := 47) hx hb dX11_image_188 (by decide) ?_
        refine lv_aload_n hx hb dX11_image_190 rfl (lv_at hl 0 rfl) ?_
        obtain ⟨v36, e37, h⟩ := ob_ h
        refine g_RX11_119 C T e37 dX11_image_191 ?_
        obtain ⟨μ38, e39, h⟩ := ob_ h
        refine th_iastn C T e39 (by decide) (by decide) dX11_image_194 (fun H locs T => ?_)
        refine lv_aload_n hx hb dX11_image_195 rfl (lv_at hl 0 rfl) ?_
        obtain ⟨a40, e41, h⟩ := ob_ h
        refine g_RX11_55 C T e41 dX11_image_196 ?_
        refine lv_bipush (v := 48) hx hb dX11_image_199 (by decide) ?_
        refine lv_aload_n hx hb dX11_image_201 rfl (lv_at hl 0 rfl) ?_
        obtain ⟨v42, e43, h⟩ := ob_ h
        refine g_RX11_249 C T e43 dX11_image_202 ?_
        obtain ⟨μ44, e45, h⟩ := ob_ h
        refine th_iastn C T e45 (by decide) (by decide) dX11_image_205 (fun H locs T => ?_)
        refine lv_aload_n hx hb dX11_image_206 rfl (lv_at hl 0 rfl) ?_
        obtain ⟨a46, e47, h⟩ := ob_ h
        refine g_RX11_55 C T e47 dX11_image_207 ?_
        refine lv_bipush (v := 49) hx hb dX11_image_210 (by decide) ?_
        refine lv_aload_n hx hb dX11_image_212 rfl (lv_at hl 0 rfl) ?_
        obtain ⟨v48, e49, h⟩ := ob_ h
        refine g_RX11_129 C T e49 dX11_image_213 ?_
        obtain ⟨μ50, e51, h⟩ := ob_ h
        refine th_iastn C T e51 (by decide) (by decide) dX11_image_216 (fun H locs T => ?_)
        refine lv_aload_n hx hb dX11_image_217 rfl (lv_at hl 0 rfl) ?_
        obtain ⟨v52, e53, h⟩ := ob_ h
        refine g_RX11_99 C T e53 dX11_image_218 ?_
        obtain ⟨rfl, rfl⟩ := os2 h
        exact th_iret hQ C hr hk T (Nat.le_of_ble_eq_true rfl) (Nat.le_of_ble_eq_true rfl) dX11_image_221
      · replace h := of_ c3 h
        refine lv_aload_n hx hb dX11_image_23 rfl (lv_at hl 0 rfl) ?_
        obtain ⟨a54, e55, h⟩ := ob_ h
        refine g_RX11_55 C T e55 dX11_image_24 ?_
        refine lv_bipush (v := 6) hx hb dX11_image_27 (by decide) ?_
        refine lv_iload_n hx hb dX11_image_29 rfl (lv_at hl 1 rfl) ?_
        refine lv_imul hx hb dX11_image_30 ?_
        refine lv_aload_n hx hb dX11_image_31 rfl (lv_at hl 0 rfl) ?_
        obtain ⟨a56, e57, h⟩ := ob_ h
        refine g_RX11_16 C T e57 dX11_image_32 ?_
        refine lv_iload_n hx hb dX11_image_35 rfl (lv_at hl 1 rfl) ?_
        obtain ⟨v58, e59, h⟩ := ob_ h
        refine th_iald C T e59 dX11_image_36 ?_
        obtain ⟨μ60, e61, h⟩ := ob_ h
        refine th_iast C T e61 dX11_image_37 (fun H locs T => ?_)
        refine lv_aload_n hx hb dX11_image_38 rfl (lv_at hl 0 rfl) ?_
        obtain ⟨a62, e63, h⟩ := ob_ h
        refine g_RX11_55 C T e63 dX11_image_39 ?_
        refine lv_bipush (v := 6) hx hb dX11_image_42 (by decide) ?_
        refine lv_iload_n hx hb dX11_image_44 rfl (lv_at hl 1 rfl) ?_
        refine lv_imul hx hb dX11_image_45 ?_
        refine lv_iconst (v := 1) hx hb dX11_image_46 (by decide) ?_
        refine lv_iadd hx hb dX11_image_47 ?_
        refine lv_aload_n hx hb dX11_image_48 rfl (lv_at hl 0 rfl) ?_
        obtain ⟨a64, e65, h⟩ := ob_ h
        refine g_RX11_19 C T e65 dX11_image_49 ?_
        refine lv_iload_n hx hb dX11_image_52 rfl (lv_at hl 1 rfl) ?_
        obtain ⟨v66, e67, h⟩ := ob_ h
        refine th_iald C T e67 dX11_image_53 ?_
        obtain ⟨μ68, e69, h⟩ := ob_ h
        refine th_iast C T e69 dX11_image_54 (fun H locs T => ?_)
        refine lv_aload_n hx hb dX11_image_55 rfl (lv_at hl 0 rfl) ?_
        obtain ⟨a70, e71, h⟩ := ob_ h
        refine g_RX11_55 C T e71 dX11_image_56 ?_
        refine lv_bipush (v := 6) hx hb dX11_image_59 (by decide) ?_
        refine lv_iload_n hx hb dX11_image_61 rfl (lv_at hl 1 rfl) ?_
        refine lv_imul hx hb dX11_image_62 ?_
        refine lv_iconst (v := 2) hx hb dX11_image_63 (by decide) ?_
        refine lv_iadd hx hb dX11_image_64 ?_
        refine lv_aload_n hx hb dX11_image_65 rfl (lv_at hl 0 rfl) ?_
        obtain ⟨a72, e73, h⟩ := ob_ h
        refine g_RX11_22 C T e73 dX11_image_66 ?_
        refine lv_iload_n hx hb dX11_image_69 rfl (lv_at hl 1 rfl) ?_
        obtain ⟨v74, e75, h⟩ := ob_ h
        refine th_iald C T e75 dX11_image_70 ?_
        obtain ⟨μ76, e77, h⟩ := ob_ h
        refine th_iast C T e77 dX11_image_71 (fun H locs T => ?_)
        refine lv_aload_n hx hb dX11_image_72 rfl (lv_at hl 0 rfl) ?_
        obtain ⟨a78, e79, h⟩ := ob_ h
        refine g_RX11_55 C T e79 dX11_image_73 ?_
        refine lv_bipush (v := 6) hx hb dX11_image_76 (by decide) ?_
        refine lv_iload_n hx hb dX11_image_78 rfl (lv_at hl 1 rfl) ?_
        refine lv_imul hx hb dX11_image_79 ?_
        refine lv_iconst (v := 3) hx hb dX11_image_80 (by decide) ?_
        refine lv_iadd hx hb dX11_image_81 ?_
        refine lv_aload_n hx hb dX11_image_82 rfl (lv_at hl 0 rfl) ?_
        obtain ⟨a80, e81, h⟩ := ob_ h
        refine g_RX11_13 C T e81 dX11_image_83 ?_
        refine lv_iload_n hx hb dX11_image_86 rfl (lv_at hl 1 rfl) ?_
        obtain ⟨v82, e83, h⟩ := ob_ h
        refine th_iald C T e83 dX11_image_87 ?_
        obtain ⟨μ84, e85, h⟩ := ob_ h
        refine th_iast C T e85 dX11_image_88 (fun H locs T => ?_)
        refine lv_aload_n hx hb dX11_image_89 rfl (lv_at hl 0 rfl) ?_
        obtain ⟨a86, e87, h⟩ := ob_ h
        refine g_RX11_55 C T e87 dX11_image_90 ?_
        refine lv_bipush (v := 6) hx hb dX11_image_93 (by decide) ?_
        refine lv_iload_n hx hb dX11_image_95 rfl (lv_at hl 1 rfl) ?_
        refine lv_imul hx hb dX11_image_96 ?_
        refine lv_iconst (v := 4) hx hb dX11_image_97 (by decide) ?_
        refine lv_iadd hx hb dX11_image_98 ?_
        refine lv_aload_n hx hb dX11_image_99 rfl (lv_at hl 0 rfl) ?_
        obtain ⟨a88, e89, h⟩ := ob_ h
        refine g_RX11_25 C T e89 dX11_image_100 ?_
        refine lv_iload_n hx hb dX11_image_103 rfl (lv_at hl 1 rfl) ?_
        obtain ⟨v90, e91, h⟩ := ob_ h
        refine th_iald C T e91 dX11_image_104 ?_
        obtain ⟨μ92, e93, h⟩ := ob_ h
        refine th_iast C T e93 dX11_image_105 (fun H locs T => ?_)
        refine lv_aload_n hx hb dX11_image_106 rfl (lv_at hl 0 rfl) ?_
        obtain ⟨a94, e95, h⟩ := ob_ h
        refine g_RX11_55 C T e95 dX11_image_107 ?_
        refine lv_bipush (v := 6) hx hb dX11_image_110 (by decide) ?_
        refine lv_iload_n hx hb dX11_image_112 rfl (lv_at hl 1 rfl) ?_
        refine lv_imul hx hb dX11_image_113 ?_
        refine lv_iconst (v := 5) hx hb dX11_image_114 (by decide) ?_
        refine lv_iadd hx hb dX11_image_115 ?_
        refine lv_aload_n hx hb dX11_image_116 rfl (lv_at hl 0 rfl) ?_
        obtain ⟨a96, e97, h⟩ := ob_ h
        refine g_RX11_28 C T e97 dX11_image_117 ?_
        refine lv_iload_n hx hb dX11_image_120 rfl (lv_at hl 1 rfl) ?_
        obtain ⟨v98, e99, h⟩ := ob_ h
        refine th_iald C T e99 dX11_image_121 ?_
        obtain ⟨μ100, e101, h⟩ := ob_ h
        refine th_iast C T e101 dX11_image_122 (fun H locs T => ?_)
        refine lv_iinc (v := x1 + 1) (lv' := [(1, .int (x1 + 1)), (0, .ref t)]) hx hb dX11_image_123 hl (k := 1) rfl rfl (by decide) rfl (fun ls hl => ?_)
        refine lv_goto (tgt := 15) hx hb dX11_image_126 (by decide) ?_
        exact ih15 _ _ _ _ _ _ T (lv_sub hl [1, 0] rfl) h
  unfold f_X11_image at h
  refine lv_aload_n hx hb dX11_image_0 rfl (lv_at hl 0 rfl) ?_
  refine lv_iconst (v := 1) hx hb dX11_image_1 (by decide) ?_
  obtain ⟨μ1, e2, h⟩ := ob_ h
  refine p_RX11_293 C T e2 (by decide) dX11_image_2 (fun H locs T => ?_)
  refine lv_aload_n hx hb dX11_image_5 rfl (lv_at hl 0 rfl) ?_
  refine lv_aload_n hx hb dX11_image_6 rfl (lv_at hl 0 rfl) ?_
  obtain ⟨v3, e4, h⟩ := ob_ h
  refine g_RX11_99 C T e4 dX11_image_7 ?_
  obtain ⟨μ5, e6, h⟩ := ob_ h
  refine p_RX11_297 C T e6 dX11_image_10 (fun H locs T => ?_)
  refine lv_iconst (v := 0) hx hb dX11_image_13 (by decide) ?_
  refine lv_istore_n (lv' := [(1, .int 0), (0, .ref t)]) hx hb dX11_image_14 rfl hl (by decide) rfl (fun ls hl => ?_)
  exact J15 fu _ _ _ _ _ _ T (lv_sub hl [1, 0] rfl) h
set_option maxRecDepth 100000 in
set_option maxHeartbeats 4000000 in
theorem c_X11_back {l : Launch} {G : th_G} {σ : th_S} {μ : th_M} {t : Nat} {r : Int32} {μ' : th_M} (h : f_X11_back σ μ t = some (r, μ')) : th_Met l G yX11_back cX11_back 2 (some FieldType.int) { frames := 0, cells := 0, slots := 0, locals := 0 } [.ref t] σ μ (some (.int r)) σ μ' := by
  refine th_ofW (by decide +kernel) (Nat.le_of_ble_eq_true rfl) ?_
  intro p e s m args below meth c ls Q hQ C hr hk hnm T hl
  have hx := C.1
  have hb := C.2.1
  have C : CallFix p m c cX11_back 2 s args th_ws RX11 := C
  have hl : lv_has ls 2 [(0, .ref t)] := hl
  have J20 : ∀ (n : Nat) (μ : th_M) (t : Nat) (x1 : Int32) (H : Heap) (locs : List Loc) (ls : Array Slot), th_R G s H locs σ μ → lv_has ls 2 [(0, .ref t), (1, .int x1)] → f_X11_back_b20  n σ μ t x1 = some (r, μ') → W p l e { frames := 0, cells := 0, slots := 0, locals := 0 } s m args below meth c H locs 0 0 Q (F0 m 20 ls []) := by
    intro n
    induction n with
    | zero => intro μ t x1 H locs ls T hl h; unfold f_X11_back_b20 at h; cases h
    | succ n20 ih20 =>
      intro μ t x1 H locs ls T hl h
      unfold f_X11_back_b20 at h
      refine lv_iload_n hx hb dX11_back_20 rfl (lv_at hl 1 rfl) ?_
      refine lv_aload_n hx hb dX11_back_21 rfl (lv_at hl 0 rfl) ?_
      obtain ⟨v1, e2, h⟩ := ob_ h
      refine g_RX11_99 C T e2 dX11_back_22 ?_
      refine lv_icmp_ge (tgt := 134) hx hb dX11_back_25 (by decide) (fun c3 => ?_) (fun c3 => ?_)
      · replace h := ot_ c3 h
        refine lv_aload_n hx hb dX11_back_134 rfl (lv_at hl 0 rfl) ?_
        refine lv_aload_n hx hb dX11_back_135 rfl (lv_at hl 0 rfl) ?_
        obtain ⟨a4, e5, h⟩ := ob_ h
        refine g_RX11_55 C T e5 dX11_back_136 ?_
        refine lv_bipush (v := 42) hx hb dX11_back_139 (by decide) ?_
        obtain ⟨v6, e7, h⟩ := ob_ h
        refine th_ialdn C T e7 (by decide) (by decide) dX11_back_141 ?_
        obtain ⟨μ8, e9, h⟩ := ob_ h
        refine p_RX11_70 C T e9 dX11_back_142 (fun H locs T => ?_)
        refine lv_aload_n hx hb dX11_back_145 rfl (lv_at hl 0 rfl) ?_
        refine lv_aload_n hx hb dX11_back_146 rfl (lv_at hl 0 rfl) ?_
        obtain ⟨a10, e11, h⟩ := ob_ h
        refine g_RX11_55 C T e11 dX11_back_147 ?_
        refine lv_bipush (v := 43) hx hb dX11_back_150 (by decide) ?_
        obtain ⟨v12, e13, h⟩ := ob_ h
        refine th_ialdn C T e13 (by decide) (by decide) dX11_back_152 ?_
        obtain ⟨μ14, e15, h⟩ := ob_ h
        refine p_RX11_116 C T e15 dX11_back_153 (fun H locs T => ?_)
        refine lv_aload_n hx hb dX11_back_156 rfl (lv_at hl 0 rfl) ?_
        refine lv_aload_n hx hb dX11_back_157 rfl (lv_at hl 0 rfl) ?_
        obtain ⟨a16, e17, h⟩ := ob_ h
        refine g_RX11_55 C T e17 dX11_back_158 ?_
        refine lv_bipush (v := 44) hx hb dX11_back_161 (by decide) ?_
        obtain ⟨v18, e19, h⟩ := ob_ h
        refine th_ialdn C T e19 (by decide) (by decide) dX11_back_163 ?_
        obtain ⟨μ20, e21, h⟩ := ob_ h
        refine p_RX11_142 C T e21 dX11_back_164 (fun H locs T => ?_)
        refine lv_aload_n hx hb dX11_back_167 rfl (lv_at hl 0 rfl) ?_
        refine lv_aload_n hx hb dX11_back_168 rfl (lv_at hl 0 rfl) ?_
        obtain ⟨a22, e23, h⟩ := ob_ h
        refine g_RX11_55 C T e23 dX11_back_169 ?_
        refine lv_bipush (v := 45) hx hb dX11_back_172 (by decide) ?_
        obtain ⟨v24, e25, h⟩ := ob_ h
        refine th_ialdn C T e25 (by decide) (by decide) dX11_back_174 ?_
        obtain ⟨μ26, e27, h⟩ := ob_ h
        refine p_RX11_74 C T e27 dX11_back_175 (fun H locs T => ?_)
        refine lv_aload_n hx hb dX11_back_178 rfl (lv_at hl 0 rfl) ?_
        refine lv_aload_n hx hb dX11_back_179 rfl (lv_at hl 0 rfl) ?_
        obtain ⟨a28, e29, h⟩ := ob_ h
        refine g_RX11_55 C T e29 dX11_back_180 ?_
        refine lv_bipush (v := 46) hx hb dX11_back_183 (by decide) ?_
        obtain ⟨v30, e31, h⟩ := ob_ h
        refine th_ialdn C T e31 (by decide) (by decide) dX11_back_185 ?_
        obtain ⟨μ32, e33, h⟩ := ob_ h
        refine p_RX11_77 C T e33 dX11_back_186 (fun H locs T => ?_)
        refine lv_aload_n hx hb dX11_back_189 rfl (lv_at hl 0 rfl) ?_
        refine lv_aload_n hx hb dX11_back_190 rfl (lv_at hl 0 rfl) ?_
        obtain ⟨a34, e35, h⟩ := ob_ h
        refine g_RX11_55 C T e35 dX11_back_191 ?_
        refine lv_bipush (v := 47) hx hb dX11_back_194 (by decide) ?_
        obtain ⟨v36, e37, h⟩ := ob_ h
        refine th_ialdn C T e37 (by decide) (by decide) dX11_back_196 ?_
        obtain ⟨μ38, e39, h⟩ := ob_ h
        refine p_RX11_119 C T e39 dX11_back_197 (fun H locs T => ?_)
        refine lv_aload_n hx hb dX11_back_200 rfl (lv_at hl 0 rfl) ?_
        refine lv_aload_n hx hb dX11_back_201 rfl (lv_at hl 0 rfl) ?_
        obtain ⟨a40, e41, h⟩ := ob_ h
        refine g_RX11_55 C T e41 dX11_back_202 ?_
        refine lv_bipush (v := 48) hx hb dX11_back_205 (by decide) ?_
        obtain ⟨v42, e43, h⟩ := ob_ h
        refine th_ialdn C T e43 (by decide) (by decide) dX11_back_207 ?_
        obtain ⟨μ44, e45, h⟩ := ob_ h
        refine p_RX11_249 C T e45 dX11_back_208 (fun H locs T => ?_)
        refine lv_aload_n hx hb dX11_back_211 rfl (lv_at hl 0 rfl) ?_
        refine lv_aload_n hx hb dX11_back_212 rfl (lv_at hl 0 rfl) ?_
        obtain ⟨a46, e47, h⟩ := ob_ h
        refine g_RX11_55 C T e47 dX11_back_213 ?_
        refine lv_bipush (v := 49) hx hb dX11_back_216 (by decide) ?_
        obtain ⟨v48, e49, h⟩ := ob_ h
        refine th_ialdn C T e49 (by decide) (by decide) dX11_back_218 ?_
        obtain ⟨μ50, e51, h⟩ := ob_ h
        refine p_RX11_129 C T e51 dX11_back_219 (fun H locs T => ?_)
        refine lv_aload_n hx hb dX11_back_222 rfl (lv_at hl 0 rfl) ?_
        obtain ⟨v52, e53, h⟩ := ob_ h
        refine g_RX11_99 C T e53 dX11_back_223 ?_
        obtain ⟨rfl, rfl⟩ := os2 h
        exact th_iret hQ C hr hk T (Nat.le_of_ble_eq_true rfl) (Nat.le_of_ble_eq_true rfl) dX11_back_226
      · replace h := of_ c3 h
        refine lv_aload_n hx hb dX11_back_28 rfl (lv_at hl 0 rfl) ?_
        obtain ⟨a54, e55, h⟩ := ob_ h
        refine g_RX11_16 C T e55 dX11_back_29 ?_
        refine lv_iload_n hx hb dX11_back_32 rfl (lv_at hl 1 rfl) ?_
        refine lv_aload_n hx hb dX11_back_33 rfl (lv_at hl 0 rfl) ?_
        obtain ⟨a56, e57, h⟩ := ob_ h
        refine g_RX11_55 C T e57 dX11_back_34 ?_
        refine lv_bipush (v := 6) hx hb dX11_back_37 (by decide) ?_
        refine lv_iload_n hx hb dX11_back_39 rfl (lv_at hl 1 rfl) ?_
        refine lv_imul hx hb dX11_back_40 ?_
        obtain ⟨v58, e59, h⟩ := ob_ h
        refine th_iald C T e59 dX11_back_41 ?_
        obtain ⟨μ60, e61, h⟩ := ob_ h
        refine th_iast C T e61 dX11_back_42 (fun H locs T => ?_)
        refine lv_aload_n hx hb dX11_back_43 rfl (lv_at hl 0 rfl) ?_
        obtain ⟨a62, e63, h⟩ := ob_ h
        refine g_RX11_19 C T e63 dX11_back_44 ?_
        refine lv_iload_n hx hb dX11_back_47 rfl (lv_at hl 1 rfl) ?_
        refine lv_aload_n hx hb dX11_back_48 rfl (lv_at hl 0 rfl) ?_
        obtain ⟨a64, e65, h⟩ := ob_ h
        refine g_RX11_55 C T e65 dX11_back_49 ?_
        refine lv_bipush (v := 6) hx hb dX11_back_52 (by decide) ?_
        refine lv_iload_n hx hb dX11_back_54 rfl (lv_at hl 1 rfl) ?_
        refine lv_imul hx hb dX11_back_55 ?_
        refine lv_iconst (v := 1) hx hb dX11_back_56 (by decide) ?_
        refine lv_iadd hx hb dX11_back_57 ?_
        obtain ⟨v66, e67, h⟩ := ob_ h
        refine th_iald C T e67 dX11_back_58 ?_
        obtain ⟨μ68, e69, h⟩ := ob_ h
        refine th_iast C T e69 dX11_back_59 (fun H locs T => ?_)
        refine lv_aload_n hx hb dX11_back_60 rfl (lv_at hl 0 rfl) ?_
        obtain ⟨a70, e71, h⟩ := ob_ h
        refine g_RX11_22 C T e71 dX11_back_61 ?_
        refine lv_iload_n hx hb dX11_back_64 rfl (lv_at hl 1 rfl) ?_
        refine lv_aload_n hx hb dX11_back_65 rfl (lv_at hl 0 rfl) ?_
        obtain ⟨a72, e73, h⟩ := ob_ h
        refine g_RX11_55 C T e73 dX11_back_66 ?_
        refine lv_bipush (v := 6) hx hb dX11_back_69 (by decide) ?_
        refine lv_iload_n hx hb dX11_back_71 rfl (lv_at hl 1 rfl) ?_
        refine lv_imul hx hb dX11_back_72 ?_
        refine lv_iconst (v := 2) hx hb dX11_back_73 (by decide) ?_
        refine lv_iadd hx hb dX11_back_74 ?_
        obtain ⟨v74, e75, h⟩ := ob_ h
        refine th_iald C T e75 dX11_back_75 ?_
        obtain ⟨μ76, e77, h⟩ := ob_ h
        refine th_iast C T e77 dX11_back_76 (fun H locs T => ?_)
        refine lv_aload_n hx hb dX11_back_77 rfl (lv_at hl 0 rfl) ?_
        obtain ⟨a78, e79, h⟩ := ob_ h
        refine g_RX11_13 C T e79 dX11_back_78 ?_
        refine lv_iload_n hx hb dX11_back_81 rfl (lv_at hl 1 rfl) ?_
        refine lv_aload_n hx hb dX11_back_82 rfl (lv_at hl 0 rfl) ?_
        obtain ⟨a80, e81, h⟩ := ob_ h
        refine g_RX11_55 C T e81 dX11_back_83 ?_
        refine lv_bipush (v := 6) hx hb dX11_back_86 (by decide) ?_
        refine lv_iload_n hx hb dX11_back_88 rfl (lv_at hl 1 rfl) ?_
        refine lv_imul hx hb dX11_back_89 ?_
        refine lv_iconst (v := 3) hx hb dX11_back_90 (by decide) ?_
        refine lv_iadd hx hb dX11_back_91 ?_
        obtain ⟨v82, e83, h⟩ := ob_ h
        refine th_iald C T e83 dX11_back_92 ?_
        obtain ⟨μ84, e85, h⟩ := ob_ h
        refine th_iast C T e85 dX11_back_93 (fun H locs T => ?_)
        refine lv_aload_n hx hb dX11_back_94 rfl (lv_at hl 0 rfl) ?_
        obtain ⟨a86, e87, h⟩ := ob_ h
        refine g_RX11_25 C T e87 dX11_back_95 ?_
        refine lv_iload_n hx hb dX11_back_98 rfl (lv_at hl 1 rfl) ?_
        refine lv_aload_n hx hb dX11_back_99 rfl (lv_at hl 0 rfl) ?_
        obtain ⟨a88, e89, h⟩ := ob_ h
        refine g_RX11_55 C T e89 dX11_back_100 ?_
        refine lv_bipush (v := 6) hx hb dX11_back_103 (by decide) ?_
        refine lv_iload_n hx hb dX11_back_105 rfl (lv_at hl 1 rfl) ?_
        refine lv_imul hx hb dX11_back_106 ?_
        refine lv_iconst (v := 4) hx hb dX11_back_107 (by decide) ?_
        refine lv_iadd hx hb dX11_back_108 ?_
        obtain ⟨v90, e91, h⟩ := ob_ h
        refine th_iald C T e91 dX11_back_109 ?_
        obtain ⟨μ92, e93, h⟩ := ob_ h
        refine th_iast C T e93 dX11_back_110 (fun H locs T => ?_)
        refine lv_aload_n hx hb dX11_back_111 rfl (lv_at hl 0 rfl) ?_
        obtain ⟨a94, e95, h⟩ := ob_ h
        refine g_RX11_28 C T e95 dX11_back_112 ?_
        refine lv_iload_n hx hb dX11_back_115 rfl (lv_at hl 1 rfl) ?_
        refine lv_aload_n hx hb dX11_back_116 rfl (lv_at hl 0 rfl) ?_
        obtain ⟨a96, e97, h⟩ := ob_ h
        refine g_RX11_55 C T e97 dX11_back_117 ?_
        refine lv_bipush (v := 6) hx hb dX11_back_120 (by decide) ?_
        refine lv_iload_n hx hb dX11_back_122 rfl (lv_at hl 1 rfl) ?_
        refine lv_imul hx hb dX11_back_123 ?_
        refine lv_iconst (v := 5) hx hb dX11_back_124 (by decide) ?_
        refine lv_iadd hx hb dX11_back_125 ?_
        obtain ⟨v98, e99, h⟩ := ob_ h
        refine th_iald C T e99 dX11_back_126 ?_
        obtain ⟨μ100, e101, h⟩ := ob_ h
        refine th_iast C T e101 dX11_back_127 (fun H locs T => ?_)
        refine lv_iinc (v := x1 + 1) (lv' := [(1, .int (x1 + 1)), (0, .ref t)]) hx hb dX11_back_128 hl (k := 1) rfl rfl (by decide) rfl (fun ls hl => ?_)
        refine lv_goto (tgt := 20) hx hb dX11_back_131 (by decide) ?_
        exact ih20 _ _ _ _ _ _ T (lv_sub hl [1, 0] rfl) h
  unfold f_X11_back at h
  refine lv_aload_n hx hb dX11_back_0 rfl (lv_at hl 0 rfl) ?_
  obtain ⟨v1, e2, h⟩ := ob_ h
  refine g_RX11_293 C T e2 dX11_back_1 ?_
  refine lv_if_ne (tgt := 10) hx hb dX11_back_4 (by decide) (fun c3 => ?_) (fun c3 => ?_)
  · replace h := of_ c3 h
    refine lv_aload_n hx hb dX11_back_10 rfl (lv_at hl 0 rfl) ?_
    refine lv_aload_n hx hb dX11_back_11 rfl (lv_at hl 0 rfl) ?_
    obtain ⟨v4, e5, h⟩ := ob_ h
    refine g_RX11_297 C T e5 dX11_back_12 ?_
    obtain ⟨μ6, e7, h⟩ := ob_ h
    refine p_RX11_99 C T e7 dX11_back_15 (fun H locs T => ?_)
    refine lv_iconst (v := 0) hx hb dX11_back_18 (by decide) ?_
    refine lv_istore_n (lv' := [(1, .int 0), (0, .ref t)]) hx hb dX11_back_19 rfl hl (by decide) rfl (fun ls hl => ?_)
    exact J20 fu _ _ _ _ _ _ T (lv_sub hl [1, 0] rfl) h
  · replace h := ot_ c3 h
    refine lv_bipush (v := -3) hx hb dX11_back_7 (by decide) ?_
    obtain ⟨rfl, rfl⟩ := os2 h
    exact th_iret hQ C hr hk T (Nat.le_of_ble_eq_true rfl) (Nat.le_of_ble_eq_true rfl) dX11_back_9
set_option maxRecDepth 100000 in
set_option maxHeartbeats 4000000 in
theorem c_X11_thoseWho {l : Launch} {G : th_G} {σ : th_S} {μ : th_M} {t : Nat} {x1 : Int32} {r : Int32} (h : f_X11_thoseWho σ μ t x1 = some r) : th_Met l G yX11_thoseWho cX11_thoseWho 4 (some FieldType.int) { frames := 0, cells := 0, slots := 0, locals := 0 } [.ref t, .int x1] σ μ (some (.int r)) σ μ := by
  refine th_ofW (by decide +kernel) (Nat.le_of_ble_eq_true rfl) ?_
  intro p e s m args below meth c ls Q hQ C hr hk hnm T hl
  have hx := C.1
  have hb := C.2.1
  have C : CallFix p m c cX11_thoseWho 4 s args th_ws RX11 := C
  have hl : lv_has ls 4 [(0, .ref t), (1, .int x1)] := hl
  have J4 : ∀ (n : Nat) (t : Nat) (x1 : Int32) (x2 : Int32) (x3 : Int32) (H : Heap) (locs : List Loc) (ls : Array Slot), th_R G s H locs σ μ → lv_has ls 4 [(0, .ref t), (1, .int x1), (2, .int x2), (3, .int x3)] → f_X11_thoseWho_b4  n σ μ t x1 x2 x3 = some r → W p l e { frames := 0, cells := 0, slots := 0, locals := 0 } s m args below meth c H locs 0 0 Q (F0 m 4 ls []) := by
    intro n
    induction n with
    | zero => intro t x1 x2 x3 H locs ls T hl h; unfold f_X11_thoseWho_b4 at h; cases h
    | succ n4 ih4 =>
      intro t x1 x2 x3 H locs ls T hl h
      unfold f_X11_thoseWho_b4 at h
      refine lv_iload_n hx hb dX11_thoseWho_4 rfl (lv_at hl 3 rfl) ?_
      refine lv_aload_n hx hb dX11_thoseWho_5 rfl (lv_at hl 0 rfl) ?_
      obtain ⟨v1, e2, h⟩ := ob_ h
      refine g_RX11_99 C T e2 dX11_thoseWho_6 ?_
      refine lv_icmp_ge (tgt := 31) hx hb dX11_thoseWho_9 (by decide) (fun c3 => ?_) (fun c3 => ?_)
      · replace h := ot_ c3 h
        refine lv_iload_n hx hb dX11_thoseWho_31 rfl (lv_at hl 2 rfl) ?_
        obtain rfl := os1 h
        exact th_iret hQ C hr hk T (Nat.le_of_ble_eq_true rfl) (Nat.le_of_ble_eq_true rfl) dX11_thoseWho_32
      · replace h := of_ c3 h
        refine lv_aload_n hx hb dX11_thoseWho_12 rfl (lv_at hl 0 rfl) ?_
        obtain ⟨a4, e5, h⟩ := ob_ h
        refine g_RX11_25 C T e5 dX11_thoseWho_13 ?_
        refine lv_iload_n hx hb dX11_thoseWho_16 rfl (lv_at hl 3 rfl) ?_
        obtain ⟨v6, e7, h⟩ := ob_ h
        refine th_iald C T e7 dX11_thoseWho_17 ?_
        refine lv_iload_n hx hb dX11_thoseWho_18 rfl (lv_at hl 1 rfl) ?_
        refine lv_icmp_ne (tgt := 25) hx hb dX11_thoseWho_19 (by decide) (fun c8 => ?_) (fun c8 => ?_)
        · replace h := of_ c8 h
          refine lv_iinc (v := x3 + 1) (lv' := [(3, .int (x3 + 1)), (0, .ref t), (1, .int x1), (2, .int x2)]) hx hb dX11_thoseWho_25 hl (k := 3) rfl rfl (by decide) rfl (fun ls hl => ?_)
          refine lv_goto (tgt := 4) hx hb dX11_thoseWho_28 (by decide) ?_
          exact ih4 _ _ _ _ _ _ _ T (lv_sub hl [1, 2, 3, 0] rfl) h
        · replace h := ot_ c8 h
          refine lv_iinc (v := x2 + 1) (lv' := [(2, .int (x2 + 1)), (0, .ref t), (1, .int x1), (3, .int x3)]) hx hb dX11_thoseWho_22 hl (k := 2) rfl rfl (by decide) rfl (fun ls hl => ?_)
          refine lv_iinc (v := x3 + 1) (lv' := [(3, .int (x3 + 1)), (2, .int (x2 + 1)), (0, .ref t), (1, .int x1)]) hx hb dX11_thoseWho_25 hl (k := 3) rfl rfl (by decide) rfl (fun ls hl => ?_)
          refine lv_goto (tgt := 4) hx hb dX11_thoseWho_28 (by decide) ?_
          exact ih4 _ _ _ _ _ _ _ T (lv_sub hl [2, 3, 1, 0] rfl) h
  unfold f_X11_thoseWho at h
  refine lv_iconst (v := 0) hx hb dX11_thoseWho_0 (by decide) ?_
  refine lv_istore_n (lv' := [(2, .int 0), (0, .ref t), (1, .int x1)]) hx hb dX11_thoseWho_1 rfl hl (by decide) rfl (fun ls hl => ?_)
  refine lv_iconst (v := 0) hx hb dX11_thoseWho_2 (by decide) ?_
  refine lv_istore_n (lv' := [(3, .int 0), (2, .int 0), (0, .ref t), (1, .int x1)]) hx hb dX11_thoseWho_3 rfl hl (by decide) rfl (fun ls hl => ?_)
  exact J4 fu _ _ _ _ _ _ _ T (lv_sub hl [2, 3, 1, 0] rfl) h
set_option maxRecDepth 100000 in
set_option maxHeartbeats 4000000 in
theorem c_X11_count {l : Launch} {G : th_G} {σ : th_S} {μ : th_M} {t : Nat} {x1 : Int32} {r : Int32} (h : f_X11_count σ μ t x1 = some r) : th_Met l G yX11_count cX11_count 2 (some FieldType.int) { frames := 1, cells := 0, slots := 0, locals := 23 } [.ref t, .int x1] σ μ (some (.int r)) σ μ := by
  refine th_ofW (by decide +kernel) (Nat.le_of_ble_eq_true rfl) ?_
  intro p e s m args below meth c ls Q hQ C hr hk hnm T hl
  have hx := C.1
  have hb := C.2.1
  have C : CallFix p m c cX11_count 2 s args th_ws RX11 := C
  have hl : lv_has ls 2 [(0, .ref t), (1, .int x1)] := hl
  unfold f_X11_count at h
  refine lv_iload_n hx hb dX11_count_0 rfl (lv_at hl 1 rfl) ?_
  by_cases c1 : x1 = 0
  · replace h := ot_ c1 h
    refine th_tabIn (off := 55) (tgt := 56) C 0 c1 dX11_count_1 (by decide) (by decide) (by decide) (by decide) ?_
    refine lv_aload_n hx hb dX11_count_56 rfl (lv_at hl 0 rfl) ?_
    obtain ⟨v2, e3, h⟩ := ob_ h
    refine g_RX11_99 C T e3 dX11_count_57 ?_
    obtain rfl := os1 h
    exact th_iret hQ C hr hk T (Nat.le_of_ble_eq_true rfl) (Nat.le_of_ble_eq_true rfl) dX11_count_60
  replace h := of_ c1 h
  by_cases c4 : x1 = 1
  · replace h := ot_ c4 h
    refine th_tabIn (off := 60) (tgt := 61) C 1 c4 dX11_count_1 (by decide) (by decide) (by decide) (by decide) ?_
    refine lv_aload_n hx hb dX11_count_61 rfl (lv_at hl 0 rfl) ?_
    refine lv_iconst (v := 0) hx hb dX11_count_62 (by decide) ?_
    obtain ⟨k5, h⟩ := oc_ h
    obtain ⟨v6, e7, h⟩ := ob_ h
    refine th_callV (As := [.int 0]) (rest := []) C T (c_X11_thoseWho e7) k_RX11_300 11 rfl rfl (by decide) k5 rfl hl.1 rfl (st1 := [.int v6]) rfl (cells1 := 0) rfl (slots1 := 0) rfl (Nat.le_of_ble_eq_true rfl) ⟨Nat.le_of_ble_eq_true rfl, Nat.le_of_ble_eq_true rfl⟩ ⟨Nat.le_of_ble_eq_true rfl, Nat.le_of_ble_eq_true rfl⟩ dX11_count_63 (fun H locs T => ?_)
    obtain rfl := os1 h
    exact th_iret hQ C hr hk T (Nat.le_of_ble_eq_true rfl) (Nat.le_of_ble_eq_true rfl) dX11_count_66
  replace h := of_ c4 h
  by_cases c8 : x1 = 2
  · replace h := ot_ c8 h
    refine th_tabIn (off := 66) (tgt := 67) C 2 c8 dX11_count_1 (by decide) (by decide) (by decide) (by decide) ?_
    refine lv_aload_n hx hb dX11_count_67 rfl (lv_at hl 0 rfl) ?_
    refine lv_iconst (v := 1) hx hb dX11_count_68 (by decide) ?_
    obtain ⟨k9, h⟩ := oc_ h
    obtain ⟨v10, e11, h⟩ := ob_ h
    refine th_callV (As := [.int 1]) (rest := []) C T (c_X11_thoseWho e11) k_RX11_300 11 rfl rfl (by decide) k9 rfl hl.1 rfl (st1 := [.int v10]) rfl (cells1 := 0) rfl (slots1 := 0) rfl (Nat.le_of_ble_eq_true rfl) ⟨Nat.le_of_ble_eq_true rfl, Nat.le_of_ble_eq_true rfl⟩ ⟨Nat.le_of_ble_eq_true rfl, Nat.le_of_ble_eq_true rfl⟩ dX11_count_69 (fun H locs T => ?_)
    obtain rfl := os1 h
    exact th_iret hQ C hr hk T (Nat.le_of_ble_eq_true rfl) (Nat.le_of_ble_eq_true rfl) dX11_count_72
  replace h := of_ c8 h
  by_cases c12 : x1 = 3
  · replace h := ot_ c12 h
    refine th_tabIn (off := 72) (tgt := 73) C 3 c12 dX11_count_1 (by decide) (by decide) (by decide) (by decide) ?_
    refine lv_aload_n hx hb dX11_count_73 rfl (lv_at hl 0 rfl) ?_
    refine lv_iconst (v := 2) hx hb dX11_count_74 (by decide) ?_
    obtain ⟨k13, h⟩ := oc_ h
    obtain ⟨v14, e15, h⟩ := ob_ h
    refine th_callV (As := [.int 2]) (rest := []) C T (c_X11_thoseWho e15) k_RX11_300 11 rfl rfl (by decide) k13 rfl hl.1 rfl (st1 := [.int v14]) rfl (cells1 := 0) rfl (slots1 := 0) rfl (Nat.le_of_ble_eq_true rfl) ⟨Nat.le_of_ble_eq_true rfl, Nat.le_of_ble_eq_true rfl⟩ ⟨Nat.le_of_ble_eq_true rfl, Nat.le_of_ble_eq_true rfl⟩ dX11_count_75 (fun H locs T => ?_)
    obtain rfl := os1 h
    exact th_iret hQ C hr hk T (Nat.le_of_ble_eq_true rfl) (Nat.le_of_ble_eq_true rfl) dX11_count_78
  replace h := of_ c12 h
  by_cases c16 : x1 = 4
  · replace h := ot_ c16 h
    refine th_tabIn (off := 78) (tgt := 79) C 4 c16 dX11_count_1 (by decide) (by decide) (by decide) (by decide) ?_
    refine lv_aload_n hx hb dX11_count_79 rfl (lv_at hl 0 rfl) ?_
    obtain ⟨v17, e18, h⟩ := ob_ h
    refine g_RX11_142 C T e18 dX11_count_80 ?_
    obtain rfl := os1 h
    exact th_iret hQ C hr hk T (Nat.le_of_ble_eq_true rfl) (Nat.le_of_ble_eq_true rfl) dX11_count_83
  replace h := of_ c16 h
  by_cases c19 : x1 = 5
  · replace h := ot_ c19 h
    refine th_tabIn (off := 83) (tgt := 84) C 5 c19 dX11_count_1 (by decide) (by decide) (by decide) (by decide) ?_
    refine lv_aload_n hx hb dX11_count_84 rfl (lv_at hl 0 rfl) ?_
    obtain ⟨v20, e21, h⟩ := ob_ h
    refine g_RX11_249 C T e21 dX11_count_85 ?_
    obtain rfl := os1 h
    exact th_iret hQ C hr hk T (Nat.le_of_ble_eq_true rfl) (Nat.le_of_ble_eq_true rfl) dX11_count_88
  replace h := of_ c19 h
  by_cases c22 : x1 = 6
  · replace h := ot_ c22 h
    refine th_tabIn (off := 88) (tgt := 89) C 6 c22 dX11_count_1 (by decide) (by decide) (by decide) (by decide) ?_
    refine lv_aload_n hx hb dX11_count_89 rfl (lv_at hl 0 rfl) ?_
    obtain ⟨v23, e24, h⟩ := ob_ h
    refine g_RX11_119 C T e24 dX11_count_90 ?_
    obtain rfl := os1 h
    exact th_iret hQ C hr hk T (Nat.le_of_ble_eq_true rfl) (Nat.le_of_ble_eq_true rfl) dX11_count_93
  replace h := of_ c22 h
  by_cases c25 : x1 = 7
  · replace h := ot_ c25 h
    refine th_tabIn (off := 93) (tgt := 94) C 7 c25 dX11_count_1 (by decide) (by decide) (by decide) (by decide) ?_
    refine lv_aload_n hx hb dX11_count_94 rfl (lv_at hl 0 rfl) ?_
    obtain ⟨v26, e27, h⟩ := ob_ h
    refine g_RX11_190 C T e27 dX11_count_95 ?_
    obtain rfl := os1 h
    exact th_iret hQ C hr hk T (Nat.le_of_ble_eq_true rfl) (Nat.le_of_ble_eq_true rfl) dX11_count_98
  replace h := of_ c25 h
  by_cases c28 : x1 = 8
  · replace h := ot_ c28 h
    refine th_tabIn (off := 98) (tgt := 99) C 8 c28 dX11_count_1 (by decide) (by decide) (by decide) (by decide) ?_
    refine lv_aload_n hx hb dX11_count_99 rfl (lv_at hl 0 rfl) ?_
    obtain ⟨v29, e30, h⟩ := ob_ h
    refine g_RX11_156 C T e30 dX11_count_100 ?_
    obtain rfl := os1 h
    exact th_iret hQ C hr hk T (Nat.le_of_ble_eq_true rfl) (Nat.le_of_ble_eq_true rfl) dX11_count_103
  replace h := of_ c28 h
  by_cases c31 : x1 = 9
  · replace h := ot_ c31 h
    refine th_tabIn (off := 103) (tgt := 104) C 9 c31 dX11_count_1 (by decide) (by decide) (by decide) (by decide) ?_
    refine lv_aload_n hx hb dX11_count_104 rfl (lv_at hl 0 rfl) ?_
    obtain ⟨v32, e33, h⟩ := ob_ h
    refine g_RX11_129 C T e33 dX11_count_105 ?_
    obtain rfl := os1 h
    exact th_iret hQ C hr hk T (Nat.le_of_ble_eq_true rfl) (Nat.le_of_ble_eq_true rfl) dX11_count_108
  replace h := of_ c31 h
  have n34 := th_ne (n := 0) c1 (by decide)
  have n35 := th_ne (n := 1) c4 (by decide)
  have n36 := th_ne (n := 2) c8 (by decide)
  have n37 := th_ne (n := 3) c12 (by decide)
  have n38 := th_ne (n := 4) c16 (by decide)
  have n39 := th_ne (n := 5) c19 (by decide)
  have n40 := th_ne (n := 6) c22 (by decide)
  have n41 := th_ne (n := 7) c25 (by decide)
  have n42 := th_ne (n := 8) c28 (by decide)
  have n43 := th_ne (n := 9) c31 (by decide)
  refine lv_tableOut (tgt := 109) hx hb dX11_count_1 (by omega) (by decide) ?_
  refine lv_bipush (v := -2) hx hb dX11_count_109 (by decide) ?_
  obtain rfl := os1 h
  exact th_iret hQ C hr hk T (Nat.le_of_ble_eq_true rfl) (Nat.le_of_ble_eq_true rfl) dX11_count_111
set_option maxRecDepth 100000 in
set_option maxHeartbeats 4000000 in
theorem c_X11_sheet {l : Launch} {G : th_G} {σ : th_S} {μ : th_M} {t : Nat} {x1 : Int32} {x2 : Int32} {x3 : Int32} {r : Int32} {μ' : th_M} (h : f_X11_sheet σ μ t x1 x2 x3 = some (r, μ')) : th_Met l G yX11_sheet cX11_sheet 5 (some FieldType.int) { frames := 1, cells := 0, slots := 0, locals := 22 } [.ref t, .int x1, .int x2, .int x3] σ μ (some (.int r)) σ μ' := by
  refine th_ofW (by decide +kernel) (Nat.le_of_ble_eq_true rfl) ?_
  intro p e s m args below meth c ls Q hQ C hr hk hnm T hl
  have hx := C.1
  have hb := C.2.1
  have C : CallFix p m c cX11_sheet 5 s args th_ws RX11 := C
  have hl : lv_has ls 5 [(0, .ref t), (1, .int x1), (2, .int x2), (3, .int x3)] := hl
  have J68 : ∀ (n : Nat) (μ : th_M) (t : Nat) (x1 : Int32) (x4 : Int32) (H : Heap) (locs : List Loc) (ls : Array Slot), th_R G s H locs σ μ → lv_has ls 5 [(0, .ref t), (1, .int x1), (4, .int x4)] → f_X11_sheet_b68  n σ μ t x1 x4 = some (r, μ') → W p l e { frames := 1, cells := 0, slots := 0, locals := 22 } s m args below meth c H locs 0 0 Q (F0 m 68 ls []) := by
    intro n
    induction n with
    | zero => intro μ t x1 x4 H locs ls T hl h; unfold f_X11_sheet_b68 at h; cases h
    | succ n68 ih68 =>
      intro μ t x1 x4 H locs ls T hl h
      unfold f_X11_sheet_b68 at h
      refine lv_iload hx hb dX11_sheet_68 (lv_at hl 2 rfl) ?_
      refine lv_bipush (v := 40) hx hb dX11_sheet_70 (by decide) ?_
      refine lv_icmp_ge (tgt := 94) hx hb dX11_sheet_72 (by decide) (fun c1 => ?_) (fun c1 => ?_)
      · replace h := ot_ c1 h
        refine lv_iconst (v := 1) hx hb dX11_sheet_94 (by decide) ?_
        obtain ⟨rfl, rfl⟩ := os2 h
        exact th_iret hQ C hr hk T (Nat.le_of_ble_eq_true rfl) (Nat.le_of_ble_eq_true rfl) dX11_sheet_95
      · replace h := of_ c1 h
        refine lv_aload_n hx hb dX11_sheet_75 rfl (lv_at hl 0 rfl) ?_
        obtain ⟨a2, e3, h⟩ := ob_ h
        refine g_RX11_64 C T e3 dX11_sheet_76 ?_
        refine lv_bipush (v := 40) hx hb dX11_sheet_79 (by decide) ?_
        refine lv_iload_n hx hb dX11_sheet_81 rfl (lv_at hl 1 rfl) ?_
        refine lv_imul hx hb dX11_sheet_82 ?_
        refine lv_iload hx hb dX11_sheet_83 (lv_at hl 2 rfl) ?_
        refine lv_iadd hx hb dX11_sheet_85 ?_
        refine lv_iconst (v := 0) hx hb dX11_sheet_86 (by decide) ?_
        obtain ⟨μ4, e5, h⟩ := ob_ h
        refine th_iast C T e5 dX11_sheet_87 (fun H locs T => ?_)
        refine lv_iinc (v := x4 + 1) (lv' := [(4, .int (x4 + 1)), (0, .ref t), (1, .int x1)]) hx hb dX11_sheet_88 hl (k := 2) rfl rfl (by decide) rfl (fun ls hl => ?_)
        refine lv_goto (tgt := 68) hx hb dX11_sheet_91 (by decide) ?_
        exact ih68 _ _ _ _ _ _ _ T (lv_sub hl [1, 2, 0] rfl) h
  unfold f_X11_sheet at h
  refine lv_iload_n hx hb dX11_sheet_0 rfl (lv_at hl 1 rfl) ?_
  refine lv_iconst (v := 0) hx hb dX11_sheet_1 (by decide) ?_
  refine lv_iconst (v := 3) hx hb dX11_sheet_2 (by decide) ?_
  obtain ⟨v1, e2, h⟩ := ob_ h
  refine th_callS (As := [.int x1, .int 0, .int 3]) (rest := []) C T (c_X11_within e2) k_RX11_102 rfl hl.1 rfl (st1 := [.int v1]) rfl (cells1 := 0) rfl (slots1 := 0) rfl (Nat.le_of_ble_eq_true rfl) ⟨Nat.le_of_ble_eq_true rfl, Nat.le_of_ble_eq_true rfl⟩ ⟨Nat.le_of_ble_eq_true rfl, Nat.le_of_ble_eq_true rfl⟩ dX11_sheet_3 (fun H locs T => ?_)
  refine lv_if_eq (tgt := 18) hx hb dX11_sheet_6 (by decide) (fun c3 => ?_) (fun c3 => ?_)
  · replace h := ot_ c3 h
    refine lv_bipush (v := -2) hx hb dX11_sheet_18 (by decide) ?_
    obtain ⟨rfl, rfl⟩ := os2 h
    exact th_iret hQ C hr hk T (Nat.le_of_ble_eq_true rfl) (Nat.le_of_ble_eq_true rfl) dX11_sheet_20
  · replace h := of_ c3 h
    refine lv_iload_n hx hb dX11_sheet_9 rfl (lv_at hl 2 rfl) ?_
    refine lv_iconst (v := -1) hx hb dX11_sheet_10 (by decide) ?_
    refine lv_iconst (v := 2) hx hb dX11_sheet_11 (by decide) ?_
    obtain ⟨v4, e5, h⟩ := ob_ h
    refine th_callS (As := [.int x2, .int (-1), .int 2]) (rest := []) C T (c_X11_within e5) k_RX11_102 rfl hl.1 rfl (st1 := [.int v4]) rfl (cells1 := 0) rfl (slots1 := 0) rfl (Nat.le_of_ble_eq_true rfl) ⟨Nat.le_of_ble_eq_true rfl, Nat.le_of_ble_eq_true rfl⟩ ⟨Nat.le_of_ble_eq_true rfl, Nat.le_of_ble_eq_true rfl⟩ dX11_sheet_12 (fun H locs T => ?_)
    refine lv_if_ne (tgt := 21) hx hb dX11_sheet_15 (by decide) (fun c6 => ?_) (fun c6 => ?_)
    · replace h := of_ c6 h
      refine lv_iload_n hx hb dX11_sheet_21 rfl (lv_at hl 2 rfl) ?_
      refine lv_iconst (v := -1) hx hb dX11_sheet_22 (by decide) ?_
      refine lv_icmp_ne (tgt := 35) hx hb dX11_sheet_23 (by decide) (fun c7 => ?_) (fun c7 => ?_)
      · replace h := of_ c7 h
        refine lv_iload_n hx hb dX11_sheet_35 rfl (lv_at hl 3 rfl) ?_
        refine lv_bipush (v := 40) hx hb dX11_sheet_36 (by decide) ?_
        refine lv_icmp_le (tgt := 44) hx hb dX11_sheet_38 (by decide) (fun c8 => ?_) (fun c8 => ?_)
        · replace h := ot_ c8 h
          refine lv_iload_n hx hb dX11_sheet_44 rfl (lv_at hl 3 rfl) ?_
          refine lv_if_ge (tgt := 51) hx hb dX11_sheet_45 (by decide) (fun c9 => ?_) (fun c9 => ?_)
          · replace h := ot_ c9 h
            refine lv_aload_n hx hb dX11_sheet_51 rfl (lv_at hl 0 rfl) ?_
            obtain ⟨a10, e11, h⟩ := ob_ h
            refine g_RX11_58 C T e11 dX11_sheet_52 ?_
            refine lv_iload_n hx hb dX11_sheet_55 rfl (lv_at hl 1 rfl) ?_
            refine lv_iload_n hx hb dX11_sheet_56 rfl (lv_at hl 2 rfl) ?_
            obtain ⟨μ12, e13, h⟩ := ob_ h
            refine th_iast C T e13 dX11_sheet_57 (fun H locs T => ?_)
            refine lv_aload_n hx hb dX11_sheet_58 rfl (lv_at hl 0 rfl) ?_
            obtain ⟨a14, e15, h⟩ := ob_ h
            refine g_RX11_61 C T e15 dX11_sheet_59 ?_
            refine lv_iload_n hx hb dX11_sheet_62 rfl (lv_at hl 1 rfl) ?_
            refine lv_iload_n hx hb dX11_sheet_63 rfl (lv_at hl 3 rfl) ?_
            obtain ⟨μ16, e17, h⟩ := ob_ h
            refine th_iast C T e17 dX11_sheet_64 (fun H locs T => ?_)
            refine lv_iconst (v := 0) hx hb dX11_sheet_65 (by decide) ?_
            refine lv_istore (lv' := [(4, .int 0), (0, .ref t), (1, .int x1), (2, .int x2), (3, .int x3)]) hx hb dX11_sheet_66 hl (by decide) rfl (fun ls hl => ?_)
            exact J68 fu _ _ _ _ _ _ _ T (lv_sub hl [1, 2, 0] rfl) h
          · replace h := of_ c9 h
            refine lv_bipush (v := -14) hx hb dX11_sheet_48 (by decide) ?_
            obtain ⟨rfl, rfl⟩ := os2 h
            exact th_iret hQ C hr hk T (Nat.le_of_ble_eq_true rfl) (Nat.le_of_ble_eq_true rfl) dX11_sheet_50
        · replace h := of_ c8 h
          refine lv_bipush (v := -2) hx hb dX11_sheet_41 (by decide) ?_
          obtain ⟨rfl, rfl⟩ := os2 h
          exact th_iret hQ C hr hk T (Nat.le_of_ble_eq_true rfl) (Nat.le_of_ble_eq_true rfl) dX11_sheet_43
      · replace h := ot_ c7 h
        refine lv_aload_n hx hb dX11_sheet_26 rfl (lv_at hl 0 rfl) ?_
        obtain ⟨a18, e19, h⟩ := ob_ h
        refine g_RX11_58 C T e19 dX11_sheet_27 ?_
        refine lv_iload_n hx hb dX11_sheet_30 rfl (lv_at hl 1 rfl) ?_
        refine lv_iconst (v := -1) hx hb dX11_sheet_31 (by decide) ?_
        obtain ⟨μ20, e21, h⟩ := ob_ h
        refine th_iast C T e21 dX11_sheet_32 (fun H locs T => ?_)
        refine lv_iconst (v := 1) hx hb dX11_sheet_33 (by decide) ?_
        obtain ⟨rfl, rfl⟩ := os2 h
        exact th_iret hQ C hr hk T (Nat.le_of_ble_eq_true rfl) (Nat.le_of_ble_eq_true rfl) dX11_sheet_34
    · replace h := ot_ c6 h
      refine lv_bipush (v := -2) hx hb dX11_sheet_18 (by decide) ?_
      obtain ⟨rfl, rfl⟩ := os2 h
      exact th_iret hQ C hr hk T (Nat.le_of_ble_eq_true rfl) (Nat.le_of_ble_eq_true rfl) dX11_sheet_20
set_option maxRecDepth 100000 in
set_option maxHeartbeats 4000000 in
theorem c_X11_cell {l : Launch} {G : th_G} {σ : th_S} {μ : th_M} {t : Nat} {x1 : Int32} {x2 : Int32} {x3 : Int32} {r : Int32} {μ' : th_M} (h : f_X11_cell σ μ t x1 x2 x3 = some (r, μ')) : th_Met l G yX11_cell cX11_cell 4 (some FieldType.int) { frames := 1, cells := 0, slots := 0, locals := 22 } [.ref t, .int x1, .int x2, .int x3] σ μ (some (.int r)) σ μ' := by
  refine th_ofW (by decide +kernel) (Nat.le_of_ble_eq_true rfl) ?_
  intro p e s m args below meth c ls Q hQ C hr hk hnm T hl
  have hx := C.1
  have hb := C.2.1
  have C : CallFix p m c cX11_cell 4 s args th_ws RX11 := C
  have hl : lv_has ls 4 [(0, .ref t), (1, .int x1), (2, .int x2), (3, .int x3)] := hl
  unfold f_X11_cell at h
  refine lv_iload_n hx hb dX11_cell_0 rfl (lv_at hl 1 rfl) ?_
  refine lv_iconst (v := 0) hx hb dX11_cell_1 (by decide) ?_
  refine lv_iconst (v := 3) hx hb dX11_cell_2 (by decide) ?_
  obtain ⟨v1, e2, h⟩ := ob_ h
  refine th_callS (As := [.int x1, .int 0, .int 3]) (rest := []) C T (c_X11_within e2) k_RX11_102 rfl hl.1 rfl (st1 := [.int v1]) rfl (cells1 := 0) rfl (slots1 := 0) rfl (Nat.le_of_ble_eq_true rfl) ⟨Nat.le_of_ble_eq_true rfl, Nat.le_of_ble_eq_true rfl⟩ ⟨Nat.le_of_ble_eq_true rfl, Nat.le_of_ble_eq_true rfl⟩ dX11_cell_3 (fun H locs T => ?_)
  refine lv_if_ne (tgt := 12) hx hb dX11_cell_6 (by decide) (fun c3 => ?_) (fun c3 => ?_)
  · replace h := of_ c3 h
    refine lv_aload_n hx hb dX11_cell_12 rfl (lv_at hl 0 rfl) ?_
    obtain ⟨a4, e5, h⟩ := ob_ h
    refine g_RX11_58 C T e5 dX11_cell_13 ?_
    refine lv_iload_n hx hb dX11_cell_16 rfl (lv_at hl 1 rfl) ?_
    obtain ⟨v6, e7, h⟩ := ob_ h
    refine th_iald C T e7 dX11_cell_17 ?_
    refine lv_iconst (v := -1) hx hb dX11_cell_18 (by decide) ?_
    refine lv_icmp_ne (tgt := 25) hx hb dX11_cell_19 (by decide) (fun c8 => ?_) (fun c8 => ?_)
    · replace h := of_ c8 h
      refine lv_iload_n hx hb dX11_cell_25 rfl (lv_at hl 2 rfl) ?_
      refine lv_iconst (v := 0) hx hb dX11_cell_26 (by decide) ?_
      refine lv_aload_n hx hb dX11_cell_27 rfl (lv_at hl 0 rfl) ?_
      obtain ⟨a9, e10, h⟩ := ob_ h
      refine g_RX11_61 C T e10 dX11_cell_28 ?_
      refine lv_iload_n hx hb dX11_cell_31 rfl (lv_at hl 1 rfl) ?_
      obtain ⟨v11, e12, h⟩ := ob_ h
      refine th_iald C T e12 dX11_cell_32 ?_
      refine lv_iconst (v := 1) hx hb dX11_cell_33 (by decide) ?_
      refine lv_isub hx hb dX11_cell_34 ?_
      obtain ⟨v13, e14, h⟩ := ob_ h
      refine th_callS (As := [.int x2, .int 0, .int (v11 - 1)]) (rest := []) C T (c_X11_within e14) k_RX11_102 rfl hl.1 rfl (st1 := [.int v13]) rfl (cells1 := 0) rfl (slots1 := 0) rfl (Nat.le_of_ble_eq_true rfl) ⟨Nat.le_of_ble_eq_true rfl, Nat.le_of_ble_eq_true rfl⟩ ⟨Nat.le_of_ble_eq_true rfl, Nat.le_of_ble_eq_true rfl⟩ dX11_cell_35 (fun H locs T => ?_)
      refine lv_if_ne (tgt := 44) hx hb dX11_cell_38 (by decide) (fun c15 => ?_) (fun c15 => ?_)
      · replace h := of_ c15 h
        refine lv_aload_n hx hb dX11_cell_44 rfl (lv_at hl 0 rfl) ?_
        obtain ⟨a16, e17, h⟩ := ob_ h
        refine g_RX11_64 C T e17 dX11_cell_45 ?_
        refine lv_bipush (v := 40) hx hb dX11_cell_48 (by decide) ?_
        refine lv_iload_n hx hb dX11_cell_50 rfl (lv_at hl 1 rfl) ?_
        refine lv_imul hx hb dX11_cell_51 ?_
        refine lv_iload_n hx hb dX11_cell_52 rfl (lv_at hl 2 rfl) ?_
        refine lv_iadd hx hb dX11_cell_53 ?_
        refine lv_aload_n hx hb dX11_cell_54 rfl (lv_at hl 0 rfl) ?_
        obtain ⟨a18, e19, h⟩ := ob_ h
        refine g_RX11_58 C T e19 dX11_cell_55 ?_
        refine lv_iload_n hx hb dX11_cell_58 rfl (lv_at hl 1 rfl) ?_
        obtain ⟨v20, e21, h⟩ := ob_ h
        refine th_iald C T e21 dX11_cell_59 ?_
        refine lv_if_ne (tgt := 68) hx hb dX11_cell_60 (by decide) (fun c22 => ?_) (fun c22 => ?_)
        · replace h := of_ c22 h
          refine lv_aload_n hx hb dX11_cell_68 rfl (lv_at hl 0 rfl) ?_
          obtain ⟨a23, e24, h⟩ := ob_ h
          refine g_RX11_58 C T e24 dX11_cell_69 ?_
          refine lv_iload_n hx hb dX11_cell_72 rfl (lv_at hl 1 rfl) ?_
          obtain ⟨v25, e26, h⟩ := ob_ h
          refine th_iald C T e26 dX11_cell_73 ?_
          refine lv_iconst (v := 1) hx hb dX11_cell_74 (by decide) ?_
          refine lv_icmp_ne (tgt := 83) hx hb dX11_cell_75 (by decide) (fun c27 => ?_) (fun c27 => ?_)
          · replace h := of_ c27 h
            refine lv_iload_n hx hb dX11_cell_83 rfl (lv_at hl 3 rfl) ?_
            obtain ⟨μ28, e29, h⟩ := ob_ h
            refine th_iast C T e29 dX11_cell_84 (fun H locs T => ?_)
            refine lv_iconst (v := 1) hx hb dX11_cell_85 (by decide) ?_
            obtain ⟨rfl, rfl⟩ := os2 h
            exact th_iret hQ C hr hk T (Nat.le_of_ble_eq_true rfl) (Nat.le_of_ble_eq_true rfl) dX11_cell_86
          · replace h := ot_ c27 h
            refine lv_iload_n hx hb dX11_cell_78 rfl (lv_at hl 3 rfl) ?_
            refine lv_i2s hx hb dX11_cell_79 rfl ?_
            refine lv_goto (tgt := 84) hx hb dX11_cell_80 (by decide) ?_
            obtain ⟨μ30, e31, h⟩ := ob_ h
            refine th_iast C T e31 dX11_cell_84 (fun H locs T => ?_)
            refine lv_iconst (v := 1) hx hb dX11_cell_85 (by decide) ?_
            obtain ⟨rfl, rfl⟩ := os2 h
            exact th_iret hQ C hr hk T (Nat.le_of_ble_eq_true rfl) (Nat.le_of_ble_eq_true rfl) dX11_cell_86
        · replace h := ot_ c22 h
          refine lv_iload_n hx hb dX11_cell_63 rfl (lv_at hl 3 rfl) ?_
          refine lv_i2b hx hb dX11_cell_64 rfl ?_
          refine lv_goto (tgt := 84) hx hb dX11_cell_65 (by decide) ?_
          obtain ⟨μ32, e33, h⟩ := ob_ h
          refine th_iast C T e33 dX11_cell_84 (fun H locs T => ?_)
          refine lv_iconst (v := 1) hx hb dX11_cell_85 (by decide) ?_
          obtain ⟨rfl, rfl⟩ := os2 h
          exact th_iret hQ C hr hk T (Nat.le_of_ble_eq_true rfl) (Nat.le_of_ble_eq_true rfl) dX11_cell_86
      · replace h := ot_ c15 h
        refine lv_bipush (v := -12) hx hb dX11_cell_41 (by decide) ?_
        obtain ⟨rfl, rfl⟩ := os2 h
        exact th_iret hQ C hr hk T (Nat.le_of_ble_eq_true rfl) (Nat.le_of_ble_eq_true rfl) dX11_cell_43
    · replace h := ot_ c8 h
      refine lv_bipush (v := -11) hx hb dX11_cell_22 (by decide) ?_
      obtain ⟨rfl, rfl⟩ := os2 h
      exact th_iret hQ C hr hk T (Nat.le_of_ble_eq_true rfl) (Nat.le_of_ble_eq_true rfl) dX11_cell_24
  · replace h := ot_ c3 h
    refine lv_bipush (v := -2) hx hb dX11_cell_9 (by decide) ?_
    obtain ⟨rfl, rfl⟩ := os2 h
    exact th_iret hQ C hr hk T (Nat.le_of_ble_eq_true rfl) (Nat.le_of_ble_eq_true rfl) dX11_cell_11
set_option maxRecDepth 100000 in
set_option maxHeartbeats 4000000 in
theorem c_X11_copy {l : Launch} {G : th_G} {σ : th_S} {μ : th_M} {t : Nat} {x1 : Int32} {x2 : Int32} {x3 : Int32} {x4 : Int32} {x5 : Int32} {r : Int32} {μ' : th_M} (h : f_X11_copy σ μ t x1 x2 x3 x4 x5 = some (r, μ')) : th_Met l G yX11_copy cX11_copy 7 (some FieldType.int) { frames := 1, cells := 0, slots := 0, locals := 22 } [.ref t, .int x1, .int x2, .int x3, .int x4, .int x5] σ μ (some (.int r)) σ μ' := by
  refine th_ofW (by decide +kernel) (Nat.le_of_ble_eq_true rfl) ?_
  intro p e s m args below meth c ls Q hQ C hr hk hnm T hl
  have hx := C.1
  have hb := C.2.1
  have C : CallFix p m c cX11_copy 7 s args th_ws RX11 := C
  have hl : lv_has ls 7 [(0, .ref t), (1, .int x1), (2, .int x2), (3, .int x3), (4, .int x4), (5, .int x5)] := hl
  have J154 : ∀ (n : Nat) (μ : th_M) (t : Nat) (x3 : Int32) (x4 : Int32) (x5 : Int32) (x6 : Int32) (H : Heap) (locs : List Loc) (ls : Array Slot), th_R G s H locs σ μ → lv_has ls 7 [(0, .ref t), (3, .int x3), (4, .int x4), (5, .int x5), (6, .int x6)] → f_X11_copy_b154  n σ μ t x3 x4 x5 x6 = some (r, μ') → W p l e { frames := 1, cells := 0, slots := 0, locals := 22 } s m args below meth c H locs 0 0 Q (F0 m 154 ls []) := by
    intro n
    induction n with
    | zero => intro μ t x3 x4 x5 x6 H locs ls T hl h; unfold f_X11_copy_b154 at h; cases h
    | succ n154 ih154 =>
      intro μ t x3 x4 x5 x6 H locs ls T hl h
      unfold f_X11_copy_b154 at h
      refine lv_iload hx hb dX11_copy_154 (lv_at hl 4 rfl) ?_
      refine lv_iload hx hb dX11_copy_156 (lv_at hl 3 rfl) ?_
      refine lv_icmp_ge (tgt := 189) hx hb dX11_copy_158 (by decide) (fun c1 => ?_) (fun c1 => ?_)
      · replace h := ot_ c1 h
        refine lv_iload hx hb dX11_copy_189 (lv_at hl 3 rfl) ?_
        obtain ⟨rfl, rfl⟩ := os2 h
        exact th_iret hQ C hr hk T (Nat.le_of_ble_eq_true rfl) (Nat.le_of_ble_eq_true rfl) dX11_copy_191
      · replace h := of_ c1 h
        refine lv_aload_n hx hb dX11_copy_161 rfl (lv_at hl 0 rfl) ?_
        obtain ⟨a2, e3, h⟩ := ob_ h
        refine g_RX11_64 C T e3 dX11_copy_162 ?_
        refine lv_bipush (v := 40) hx hb dX11_copy_165 (by decide) ?_
        refine lv_iload_n hx hb dX11_copy_167 rfl (lv_at hl 1 rfl) ?_
        refine lv_imul hx hb dX11_copy_168 ?_
        refine lv_iload hx hb dX11_copy_169 (lv_at hl 2 rfl) ?_
        refine lv_iadd hx hb dX11_copy_171 ?_
        refine lv_iload hx hb dX11_copy_172 (lv_at hl 4 rfl) ?_
        refine lv_iadd hx hb dX11_copy_174 ?_
        refine lv_aload_n hx hb dX11_copy_175 rfl (lv_at hl 0 rfl) ?_
        obtain ⟨a4, e5, h⟩ := ob_ h
        refine g_RX11_67 C T e5 dX11_copy_176 ?_
        refine lv_iload hx hb dX11_copy_179 (lv_at hl 4 rfl) ?_
        obtain ⟨v6, e7, h⟩ := ob_ h
        refine th_iald C T e7 dX11_copy_181 ?_
        obtain ⟨μ8, e9, h⟩ := ob_ h
        refine th_iast C T e9 dX11_copy_182 (fun H locs T => ?_)
        refine lv_iinc (v := x6 + 1) (lv' := [(6, .int (x6 + 1)), (0, .ref t), (3, .int x3), (4, .int x4), (5, .int x5)]) hx hb dX11_copy_183 hl (k := 4) rfl rfl (by decide) rfl (fun ls hl => ?_)
        refine lv_goto (tgt := 154) hx hb dX11_copy_186 (by decide) ?_
        exact ih154 _ _ _ _ _ _ _ _ _ T (lv_sub hl [1, 2, 3, 4, 0] rfl) h
  have J117 : ∀ (n : Nat) (μ : th_M) (t : Nat) (x1 : Int32) (x2 : Int32) (x3 : Int32) (x4 : Int32) (x5 : Int32) (x6 : Int32) (H : Heap) (locs : List Loc) (ls : Array Slot), th_R G s H locs σ μ → lv_has ls 7 [(0, .ref t), (1, .int x1), (2, .int x2), (3, .int x3), (4, .int x4), (5, .int x5), (6, .int x6)] → f_X11_copy_b117  n σ μ t x1 x2 x3 x4 x5 x6 = some (r, μ') → W p l e { frames := 1, cells := 0, slots := 0, locals := 22 } s m args below meth c H locs 0 0 Q (F0 m 117 ls []) := by
    intro n
    induction n with
    | zero => intro μ t x1 x2 x3 x4 x5 x6 H locs ls T hl h; unfold f_X11_copy_b117 at h; cases h
    | succ n117 ih117 =>
      intro μ t x1 x2 x3 x4 x5 x6 H locs ls T hl h
      unfold f_X11_copy_b117 at h
      refine lv_iload hx hb dX11_copy_117 (lv_at hl 6 rfl) ?_
      refine lv_iload hx hb dX11_copy_119 (lv_at hl 5 rfl) ?_
      refine lv_icmp_ge (tgt := 151) hx hb dX11_copy_121 (by decide) (fun c1 => ?_) (fun c1 => ?_)
      · replace h := ot_ c1 h
        refine lv_iconst (v := 0) hx hb dX11_copy_151 (by decide) ?_
        refine lv_istore (lv' := [(6, .int 0), (0, .ref t), (1, .int x1), (2, .int x2), (3, .int x3), (4, .int x4), (5, .int x5)]) hx hb dX11_copy_152 hl (by decide) rfl (fun ls hl => ?_)
        exact J154 fu _ _ _ _ _ _ _ _ _ T (lv_sub hl [1, 4, 5, 6, 0] rfl) h
      · replace h := of_ c1 h
        refine lv_aload_n hx hb dX11_copy_124 rfl (lv_at hl 0 rfl) ?_
        obtain ⟨a2, e3, h⟩ := ob_ h
        refine g_RX11_67 C T e3 dX11_copy_125 ?_
        refine lv_iload hx hb dX11_copy_128 (lv_at hl 6 rfl) ?_
        refine lv_aload_n hx hb dX11_copy_130 rfl (lv_at hl 0 rfl) ?_
        obtain ⟨a4, e5, h⟩ := ob_ h
        refine g_RX11_64 C T e5 dX11_copy_131 ?_
        refine lv_bipush (v := 40) hx hb dX11_copy_134 (by decide) ?_
        refine lv_iload_n hx hb dX11_copy_136 rfl (lv_at hl 1 rfl) ?_
        refine lv_imul hx hb dX11_copy_137 ?_
        refine lv_iload_n hx hb dX11_copy_138 rfl (lv_at hl 2 rfl) ?_
        refine lv_iadd hx hb dX11_copy_139 ?_
        refine lv_iload hx hb dX11_copy_140 (lv_at hl 6 rfl) ?_
        refine lv_iadd hx hb dX11_copy_142 ?_
        obtain ⟨v6, e7, h⟩ := ob_ h
        refine th_iald C T e7 dX11_copy_143 ?_
        obtain ⟨μ8, e9, h⟩ := ob_ h
        refine th_iast C T e9 dX11_copy_144 (fun H locs T => ?_)
        refine lv_iinc (v := x6 + 1) (lv' := [(6, .int (x6 + 1)), (0, .ref t), (1, .int x1), (2, .int x2), (3, .int x3), (4, .int x4), (5, .int x5)]) hx hb dX11_copy_145 hl (k := 6) rfl rfl (by decide) rfl (fun ls hl => ?_)
        refine lv_goto (tgt := 117) hx hb dX11_copy_148 (by decide) ?_
        exact ih117 _ _ _ _ _ _ _ _ _ _ _ T (lv_sub hl [1, 2, 3, 4, 5, 6, 0] rfl) h
  unfold f_X11_copy at h
  refine lv_iload_n hx hb dX11_copy_0 rfl (lv_at hl 1 rfl) ?_
  refine lv_iconst (v := 0) hx hb dX11_copy_1 (by decide) ?_
  refine lv_iconst (v := 3) hx hb dX11_copy_2 (by decide) ?_
  obtain ⟨v1, e2, h⟩ := ob_ h
  refine th_callS (As := [.int x1, .int 0, .int 3]) (rest := []) C T (c_X11_within e2) k_RX11_102 rfl hl.1 rfl (st1 := [.int v1]) rfl (cells1 := 0) rfl (slots1 := 0) rfl (Nat.le_of_ble_eq_true rfl) ⟨Nat.le_of_ble_eq_true rfl, Nat.le_of_ble_eq_true rfl⟩ ⟨Nat.le_of_ble_eq_true rfl, Nat.le_of_ble_eq_true rfl⟩ dX11_copy_3 (fun H locs T => ?_)
  refine lv_if_eq (tgt := 18) hx hb dX11_copy_6 (by decide) (fun c3 => ?_) (fun c3 => ?_)
  · replace h := ot_ c3 h
    refine lv_bipush (v := -2) hx hb dX11_copy_18 (by decide) ?_
    obtain ⟨rfl, rfl⟩ := os2 h
    exact th_iret hQ C hr hk T (Nat.le_of_ble_eq_true rfl) (Nat.le_of_ble_eq_true rfl) dX11_copy_20
  · replace h := of_ c3 h
    refine lv_iload_n hx hb dX11_copy_9 rfl (lv_at hl 3 rfl) ?_
    refine lv_iconst (v := 0) hx hb dX11_copy_10 (by decide) ?_
    refine lv_iconst (v := 3) hx hb dX11_copy_11 (by decide) ?_
    obtain ⟨v4, e5, h⟩ := ob_ h
    refine th_callS (As := [.int x3, .int 0, .int 3]) (rest := []) C T (c_X11_within e5) k_RX11_102 rfl hl.1 rfl (st1 := [.int v4]) rfl (cells1 := 0) rfl (slots1 := 0) rfl (Nat.le_of_ble_eq_true rfl) ⟨Nat.le_of_ble_eq_true rfl, Nat.le_of_ble_eq_true rfl⟩ ⟨Nat.le_of_ble_eq_true rfl, Nat.le_of_ble_eq_true rfl⟩ dX11_copy_12 (fun H locs T => ?_)
    refine lv_if_ne (tgt := 21) hx hb dX11_copy_15 (by decide) (fun c6 => ?_) (fun c6 => ?_)
    · replace h := of_ c6 h
      refine lv_aload_n hx hb dX11_copy_21 rfl (lv_at hl 0 rfl) ?_
      obtain ⟨a7, e8, h⟩ := ob_ h
      refine g_RX11_58 C T e8 dX11_copy_22 ?_
      refine lv_iload_n hx hb dX11_copy_25 rfl (lv_at hl 1 rfl) ?_
      obtain ⟨v9, e10, h⟩ := ob_ h
      refine th_iald C T e10 dX11_copy_26 ?_
      refine lv_iconst (v := -1) hx hb dX11_copy_27 (by decide) ?_
      refine lv_icmp_eq (tgt := 41) hx hb dX11_copy_28 (by decide) (fun c11 => ?_) (fun c11 => ?_)
      · replace h := ot_ c11 h
        refine lv_bipush (v := -11) hx hb dX11_copy_41 (by decide) ?_
        obtain ⟨rfl, rfl⟩ := os2 h
        exact th_iret hQ C hr hk T (Nat.le_of_ble_eq_true rfl) (Nat.le_of_ble_eq_true rfl) dX11_copy_43
      · replace h := of_ c11 h
        refine lv_aload_n hx hb dX11_copy_31 rfl (lv_at hl 0 rfl) ?_
        obtain ⟨a12, e13, h⟩ := ob_ h
        refine g_RX11_58 C T e13 dX11_copy_32 ?_
        refine lv_iload_n hx hb dX11_copy_35 rfl (lv_at hl 3 rfl) ?_
        obtain ⟨v14, e15, h⟩ := ob_ h
        refine th_iald C T e15 dX11_copy_36 ?_
        refine lv_iconst (v := -1) hx hb dX11_copy_37 (by decide) ?_
        refine lv_icmp_ne (tgt := 44) hx hb dX11_copy_38 (by decide) (fun c16 => ?_) (fun c16 => ?_)
        · replace h := of_ c16 h
          refine lv_aload_n hx hb dX11_copy_44 rfl (lv_at hl 0 rfl) ?_
          obtain ⟨a17, e18, h⟩ := ob_ h
          refine g_RX11_58 C T e18 dX11_copy_45 ?_
          refine lv_iload_n hx hb dX11_copy_48 rfl (lv_at hl 1 rfl) ?_
          obtain ⟨v19, e20, h⟩ := ob_ h
          refine th_iald C T e20 dX11_copy_49 ?_
          refine lv_aload_n hx hb dX11_copy_50 rfl (lv_at hl 0 rfl) ?_
          obtain ⟨a21, e22, h⟩ := ob_ h
          refine g_RX11_58 C T e22 dX11_copy_51 ?_
          refine lv_iload_n hx hb dX11_copy_54 rfl (lv_at hl 3 rfl) ?_
          obtain ⟨v23, e24, h⟩ := ob_ h
          refine th_iald C T e24 dX11_copy_55 ?_
          refine lv_icmp_eq (tgt := 62) hx hb dX11_copy_56 (by decide) (fun c25 => ?_) (fun c25 => ?_)
          · replace h := ot_ c25 h
            refine lv_iload_n hx hb dX11_copy_62 rfl (lv_at hl 2 rfl) ?_
            refine lv_if_lt (tgt := 111) hx hb dX11_copy_63 (by decide) (fun c26 => ?_) (fun c26 => ?_)
            · replace h := ot_ c26 h
              refine lv_bipush (v := -12) hx hb dX11_copy_111 (by decide) ?_
              obtain ⟨rfl, rfl⟩ := os2 h
              exact th_iret hQ C hr hk T (Nat.le_of_ble_eq_true rfl) (Nat.le_of_ble_eq_true rfl) dX11_copy_113
            · replace h := of_ c26 h
              refine lv_iload hx hb dX11_copy_66 (lv_at hl 4 rfl) ?_
              refine lv_if_lt (tgt := 111) hx hb dX11_copy_68 (by decide) (fun c27 => ?_) (fun c27 => ?_)
              · replace h := ot_ c27 h
                refine lv_bipush (v := -12) hx hb dX11_copy_111 (by decide) ?_
                obtain ⟨rfl, rfl⟩ := os2 h
                exact th_iret hQ C hr hk T (Nat.le_of_ble_eq_true rfl) (Nat.le_of_ble_eq_true rfl) dX11_copy_113
              · replace h := of_ c27 h
                refine lv_iload hx hb dX11_copy_71 (lv_at hl 5 rfl) ?_
                refine lv_if_lt (tgt := 111) hx hb dX11_copy_73 (by decide) (fun c28 => ?_) (fun c28 => ?_)
                · replace h := ot_ c28 h
                  refine lv_bipush (v := -12) hx hb dX11_copy_111 (by decide) ?_
                  obtain ⟨rfl, rfl⟩ := os2 h
                  exact th_iret hQ C hr hk T (Nat.le_of_ble_eq_true rfl) (Nat.le_of_ble_eq_true rfl) dX11_copy_113
                · replace h := of_ c28 h
                  refine lv_iload_n hx hb dX11_copy_76 rfl (lv_at hl 2 rfl) ?_
                  refine lv_i2l hx hb dX11_copy_77 rfl ?_
                  refine lv_iload hx hb dX11_copy_78 (lv_at hl 5 rfl) ?_
                  refine lv_i2l hx hb dX11_copy_80 rfl ?_
                  refine lv_ladd hx hb dX11_copy_81 ?_
                  refine lv_aload_n hx hb dX11_copy_82 rfl (lv_at hl 0 rfl) ?_
                  obtain ⟨a29, e30, h⟩ := ob_ h
                  refine g_RX11_61 C T e30 dX11_copy_83 ?_
                  refine lv_iload_n hx hb dX11_copy_86 rfl (lv_at hl 1 rfl) ?_
                  obtain ⟨v31, e32, h⟩ := ob_ h
                  refine th_iald C T e32 dX11_copy_87 ?_
                  refine lv_i2l hx hb dX11_copy_88 rfl ?_
                  refine W.lcmp hx hb dX11_copy_89 ?_
                  refine lv_if_gt (tgt := 111) hx hb dX11_copy_90 (by decide) (fun c33 => ?_) (fun c33 => ?_)
                  · replace h := ot_ c33 h
                    refine lv_bipush (v := -12) hx hb dX11_copy_111 (by decide) ?_
                    obtain ⟨rfl, rfl⟩ := os2 h
                    exact th_iret hQ C hr hk T (Nat.le_of_ble_eq_true rfl) (Nat.le_of_ble_eq_true rfl) dX11_copy_113
                  · replace h := of_ c33 h
                    refine lv_iload hx hb dX11_copy_93 (lv_at hl 4 rfl) ?_
                    refine lv_i2l hx hb dX11_copy_95 rfl ?_
                    refine lv_iload hx hb dX11_copy_96 (lv_at hl 5 rfl) ?_
                    refine lv_i2l hx hb dX11_copy_98 rfl ?_
                    refine lv_ladd hx hb dX11_copy_99 ?_
                    refine lv_aload_n hx hb dX11_copy_100 rfl (lv_at hl 0 rfl) ?_
                    obtain ⟨a34, e35, h⟩ := ob_ h
                    refine g_RX11_61 C T e35 dX11_copy_101 ?_
                    refine lv_iload_n hx hb dX11_copy_104 rfl (lv_at hl 3 rfl) ?_
                    obtain ⟨v36, e37, h⟩ := ob_ h
                    refine th_iald C T e37 dX11_copy_105 ?_
                    refine lv_i2l hx hb dX11_copy_106 rfl ?_
                    refine W.lcmp hx hb dX11_copy_107 ?_
                    refine lv_if_le (tgt := 114) hx hb dX11_copy_108 (by decide) (fun c38 => ?_) (fun c38 => ?_)
                    · replace h := ot_ c38 h
                      refine lv_iconst (v := 0) hx hb dX11_copy_114 (by decide) ?_
                      refine lv_istore (lv' := [(6, .int 0), (0, .ref t), (1, .int x1), (2, .int x2), (3, .int x3), (4, .int x4), (5, .int x5)]) hx hb dX11_copy_115 hl (by decide) rfl (fun ls hl => ?_)
                      exact J117 fu _ _ _ _ _ _ _ _ _ _ _ T (lv_sub hl [1, 2, 3, 4, 5, 6, 0] rfl) h
                    · replace h := of_ c38 h
                      refine lv_bipush (v := -12) hx hb dX11_copy_111 (by decide) ?_
                      obtain ⟨rfl, rfl⟩ := os2 h
                      exact th_iret hQ C hr hk T (Nat.le_of_ble_eq_true rfl) (Nat.le_of_ble_eq_true rfl) dX11_copy_113
          · replace h := of_ c25 h
            refine lv_bipush (v := -13) hx hb dX11_copy_59 (by decide) ?_
            obtain ⟨rfl, rfl⟩ := os2 h
            exact th_iret hQ C hr hk T (Nat.le_of_ble_eq_true rfl) (Nat.le_of_ble_eq_true rfl) dX11_copy_61
        · replace h := ot_ c16 h
          refine lv_bipush (v := -11) hx hb dX11_copy_41 (by decide) ?_
          obtain ⟨rfl, rfl⟩ := os2 h
          exact th_iret hQ C hr hk T (Nat.le_of_ble_eq_true rfl) (Nat.le_of_ble_eq_true rfl) dX11_copy_43
    · replace h := ot_ c6 h
      refine lv_bipush (v := -2) hx hb dX11_copy_18 (by decide) ?_
      obtain ⟨rfl, rfl⟩ := os2 h
      exact th_iret hQ C hr hk T (Nat.le_of_ble_eq_true rfl) (Nat.le_of_ble_eq_true rfl) dX11_copy_20
