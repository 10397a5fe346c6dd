/-! the JDK's methods that are walked by hand: a String constant's length and signs; a copy of a row of ints -/
section TJ
variable {p : Program} {l : Launch} {e : Env} {R : Room} {s : State} {m : MethodId} {args : Array Value} {below : List Frame} {meth : Method} {c : Code} {H : Heap} {locs : List Loc} {cells slots : Nat} {Q : State → Prop}
variable {cc : ByteArray} {pc nL : Nat} {ls : Array Slot} {rest st0 st1 : List Value} {cells1 slots1 : Nat} {G : th_G} {σ σ' : th_S} {μ μ' : th_M} {own : String} {index nLy n : Nat} {y : MethodName} {cy : ByteArray} {ret : Option FieldType} {rm : Room} {As : List Value} {i : Nat} {res : Option Value}
theorem th_callT (C : CallFix p m c cc nL s args th_ws own) (T : th_R G s H locs σ μ) (hM : th_Met l G y cy nLy ret rm (.ref (G.2.2.2.1 i) :: As) σ μ res σ' μ') (hi : i < 13) (hL : th_LV own index y cy nLy ret n) (hc : y.cls = "java/lang/String") (hn : As.length = n) (hls : ls.size = nL) (hst : As.reverse ++ .ref (G.2.2.2.1 i) :: rest = st0) (hst1 : res.toList ++ rest = st1) (h1c : cells + rm.cells = cells1) (h1s : slots + rm.slots = slots1) (h8 : (rest.map fun v => v.category).sum ≤ 8) (hR : rm.frames + 1 ≤ R.frames ∧ 8 + (nLy + 11) + rm.locals ≤ R.locals) (hf : cells + rm.cells ≤ R.cells ∧ slots + rm.slots ≤ R.slots) (hdg : decode cc pc = .ok (.invokevirtual index, 3))
    (kk : ∀ (H : Heap) (locs : List Loc), th_R G s H locs σ' μ' → W p l e R s m args below meth c H locs cells1 slots1 Q (F0 m (pc + 3) ls st1)) : W p l e R s m args below meth c H locs cells slots Q (F0 m pc ls st0) := by
  obtain ⟨h1, h2, h3, h4, h5, h6⟩ := hL
  obtain ⟨cellR, hr1, hr2, hr3, -⟩ := (T.2.1.1 i hi).1.kept T.2.2.1.2.1
  have hr : ∃ cell : Cell, H[G.2.2.2.1 i]? = some cell ∧ cell.vm.isStatics = false ∧ s.vm.findClass "java/lang/String" = some cell.cls := ⟨cellR, hr1, hr2, hr3⟩
  rw [← hc] at hr
  exact th_back T (va_runV (As := As) (rest := rest) (C := y.cls) C hM ⟨callB_of n C.2.2.2.2 (th_good h5) rfl rfl rfl (C.2.2.2.2 _ h4) (C.2.2.2.2 _ h1) h6 hR, C.2.2.2.2 _ h2, C.2.2.2.2 _ h3⟩ ⟨th_B.blind, hr, th_pre T _⟩ rfl hn hls hst.symm (lv_room h8) hdg hf) (by rw [h1c, h1s, hst1]; exact kk)
end TJ
theorem hd_length {i : Nat} {r : Int32} (h : f_J0_length_8abf5 i = some r) : i < 13 := by
  unfold f_J0_length_8abf5 oT at h
  exact (og_ h).1
theorem hd_charAt {i : Nat} {j r : Int32} (h : f_J0_charAt_5068e i j = some r) : i < 13 := by
  unfold f_J0_charAt_5068e oU at h
  exact (og_ h).1.1
set_option maxHeartbeats 4000000 in
theorem c_J0_coder {l : Launch} {G : th_G} {σ : th_S} {μ : th_M} {i : Nat} (hi : i < 13) : th_Met l G yJ0_coder_7d493 cJ0_coder_7d493 1 (some .byte) { frames := 0, cells := 0, slots := 0, locals := 0 } [.ref (G.2.2.2.1 i)] σ μ (some (.int 0)) σ μ := by
  refine th_ofW (by decide +kernel) (Nat.le_of_ble_eq_true rfl) ?_
  intro p e s m args below meth c ls Q hQ C hr hk hnm T hl
  have hx := C.1
  have hb := C.2.1
  have C : CallFix p m c cJ0_coder_7d493 1 s args th_ws RJ0 := C
  have hl : lv_has ls 1 [(0, .ref (G.2.2.2.1 i))] := hl
  refine va_gets hx hb T.2.1.2.2.2.1 T.2.2.1 C.2.2.2.1 (C.2.2.2.2 _ w_120) (fun _ h => h) dJ0_coder_7d493_0 ?_
  refine lv_if_eq (tgt := 13) hx hb dJ0_coder_7d493_3 (by decide) (fun c1 => ?_) (fun c1 => ?_)
  · exact absurd c1 (by decide)
  refine lv_aload_n hx hb dJ0_coder_7d493_6 rfl (lv_at hl 0 rfl) ?_
  refine vk_getf hx hb (T.2.1.1 i hi).2.1 T.2.2.1 C.2.2.2.1 (C.2.2.2.2 _ w_1243) (fun _ h => h) dJ0_coder_7d493_7 ?_
  refine lv_goto (tgt := 14) hx hb dJ0_coder_7d493_10 (by decide) ?_
  exact th_zret hQ C hr hk T (Nat.le_of_ble_eq_true rfl) (Nat.le_of_ble_eq_true rfl) dJ0_coder_7d493_14 rfl
set_option maxHeartbeats 4000000 in
theorem c_J0_isLatin1 {l : Launch} {G : th_G} {σ : th_S} {μ : th_M} {i : Nat} (hi : i < 13) : th_Met l G yJ0_isLatin1_aae02 cJ0_isLatin1_aae02 1 (some .boolean) { frames := 0, cells := 0, slots := 0, locals := 0 } [.ref (G.2.2.2.1 i)] σ μ (some (.int 1)) σ μ := by
  refine th_ofW (by decide +kernel) (Nat.le_of_ble_eq_true rfl) ?_
  intro p e s m args below meth c ls Q hQ C hr hk hnm T hl
  have hx := C.1
  have hb := C.2.1
  have C : CallFix p m c cJ0_isLatin1_aae02 1 s args th_ws RJ0 := C
  have hl : lv_has ls 1 [(0, .ref (G.2.2.2.1 i))] := hl
  refine va_gets hx hb T.2.1.2.2.2.1 T.2.2.1 C.2.2.2.1 (C.2.2.2.2 _ w_120) (fun _ h => h) dJ0_isLatin1_aae02_0 ?_
  refine lv_if_eq (tgt := 17) hx hb dJ0_isLatin1_aae02_3 (by decide) (fun c1 => ?_) (fun c1 => ?_)
  · exact absurd c1 (by decide)
  refine lv_aload_n hx hb dJ0_isLatin1_aae02_6 rfl (lv_at hl 0 rfl) ?_
  refine vk_getf hx hb (T.2.1.1 i hi).2.1 T.2.2.1 C.2.2.2.1 (C.2.2.2.2 _ w_1243) (fun _ h => h) dJ0_isLatin1_aae02_7 ?_
  refine lv_if_ne (tgt := 17) hx hb dJ0_isLatin1_aae02_10 (by decide) (fun c1 => ?_) (fun c1 => ?_)
  · exact absurd rfl c1
  refine lv_iconst (v := 1) hx hb dJ0_isLatin1_aae02_13 (by decide) ?_
  refine lv_goto (tgt := 18) hx hb dJ0_isLatin1_aae02_14 (by decide) ?_
  exact th_zret hQ C hr hk T (Nat.le_of_ble_eq_true rfl) (Nat.le_of_ble_eq_true rfl) dJ0_isLatin1_aae02_18 rfl
theorem k_RJ0_335 : th_LV RJ0 335 yJ0_coder_7d493 cJ0_coder_7d493 1 (some .byte) 0 := ⟨w_116, w_117, w_118, w_5, w_119, by decide +kernel⟩
theorem k_RJ0_492 : th_LV RJ0 492 yJ0_isLatin1_aae02 cJ0_isLatin1_aae02 1 (some .boolean) 0 := ⟨w_126, w_127, w_128, w_5, w_129, by decide +kernel⟩
set_option maxHeartbeats 4000000 in
theorem c_J3_checkIndex {l : Launch} {G : th_G} {σ : th_S} {μ : th_M} {x0 x1 : Int32} {v : Value} (hv : v = .null ∨ ∃ t, v = .ref t) (h0 : ¬ x0 < 0) (h1 : x0 < x1) : th_Met l G yJ3_checkIndex_8e157 cJ3_checkIndex_8e157 3 (some .int) { frames := 0, cells := 0, slots := 0, locals := 0 } [.int x0, .int x1, v] σ μ (some (.int x0)) σ μ := by
  have hcat : v.category = 1 := by rcases hv with rfl | ⟨t, rfl⟩ <;> rfl
  refine th_ofW (by decide +kernel) (by rcases hv with rfl | ⟨t, rfl⟩ <;> exact Nat.le_of_ble_eq_true rfl) ?_
  intro p e s m args below meth c ls Q hQ C hr hk hnm T hl
  have hx := C.1
  have hb := C.2.1
  have C : CallFix p m c cJ3_checkIndex_8e157 3 s args th_ws RJ3 := C
  have hl : lv_has ls 3 [(0, .int x0), (1, .int x1)] := lv_sub hl [0, 1] (by rcases hv with rfl | ⟨t, rfl⟩ <;> rfl)
  refine lv_iload_n hx hb dJ3_checkIndex_8e157_0 rfl (lv_at hl 0 rfl) ?_
  refine lv_if_lt (tgt := 9) hx hb dJ3_checkIndex_8e157_1 (by decide) (fun c1 => absurd c1 h0) (fun c1 => ?_)
  refine lv_iload_n hx hb dJ3_checkIndex_8e157_4 rfl (lv_at hl 0 rfl) ?_
  refine lv_iload_n hx hb dJ3_checkIndex_8e157_5 rfl (lv_at hl 1 rfl) ?_
  refine lv_icmp_lt (tgt := 16) hx hb dJ3_checkIndex_8e157_6 (by decide) (fun c1 => ?_) (fun c1 => absurd h1 c1)
  refine lv_iload_n hx hb dJ3_checkIndex_8e157_16 rfl (lv_at hl 0 rfl) ?_
  exact th_iret hQ C hr hk T (Nat.le_of_ble_eq_true rfl) (Nat.le_of_ble_eq_true rfl) dJ3_checkIndex_8e157_17
theorem k_RJ0_1059 : th_LS RJ0 1059 yJ3_checkIndex_8e157 cJ3_checkIndex_8e157 3 (some .int) 3 := ⟨w_138, w_139, w_7, w_140, by decide +kernel⟩
set_option maxHeartbeats 4000000 in
theorem c_J0_checkIndex {l : Launch} {G : th_G} {σ : th_S} {μ : th_M} {x0 x1 : Int32} (h0 : ¬ x0 < 0) (h1 : x0 < x1) : th_Met l G yJ0_checkIndex_df160 cJ0_checkIndex_df160 2 none { frames := 1, cells := 0, slots := 0, locals := 22 } [.int x0, .int x1] σ μ none σ μ := by
  refine th_ofW (by decide +kernel) (Nat.le_of_ble_eq_true rfl) ?_
  intro p e s m args below meth c ls Q hQ C hr hk hnm T hl
  have hx := C.1
  have hb := C.2.1
  have C : CallFix p m c cJ0_checkIndex_df160 2 s args th_ws RJ0 := C
  have hl : lv_has ls 2 [(0, .int x0), (1, .int x1)] := hl
  refine lv_iload_n hx hb dJ0_checkIndex_df160_0 rfl (lv_at hl 0 rfl) ?_
  refine lv_iload_n hx hb dJ0_checkIndex_df160_1 rfl (lv_at hl 1 rfl) ?_
  obtain ⟨v, hv, hZ⟩ : ∃ v : Value, (v = .null ∨ ∃ t, v = .ref t) ∧ va_Z "jdk/internal/util/Preconditions" "SIOOBE_FORMATTER" "Ljava/util/function/BiFunction;" v (th_A G) s s.heap := by
    rcases T.2.1.2.2.2.2 with h | ⟨t, h⟩
    · exact ⟨_, Or.inl rfl, h⟩
    · exact ⟨_, Or.inr ⟨t, rfl⟩, h⟩
  refine va_gets hx hb hZ T.2.2.1 C.2.2.2.1 (C.2.2.2.2 _ w_136) (fun _ h => h) dJ0_checkIndex_df160_2 ?_
  refine th_callS (As := [.int x0, .int x1, v]) (rest := []) C T (c_J3_checkIndex hv h0 h1) k_RJ0_1059 rfl hl.1 rfl (st1 := [.int x0]) rfl (cells1 := 0) rfl (slots1 := 0) rfl (Nat.le_of_ble_eq_true rfl) ⟨Nat.le_of_ble_eq_true rfl, Nat.le_of_ble_eq_true rfl⟩ ⟨Nat.le_of_ble_eq_true rfl, Nat.le_of_ble_eq_true rfl⟩ dJ0_checkIndex_df160_5 (fun H locs T => ?_)
  refine lv_pop hx hb dJ0_checkIndex_df160_8 rfl ?_
  exact th_vret hQ C hr hk T (Nat.le_of_ble_eq_true rfl) (Nat.le_of_ble_eq_true rfl) dJ0_checkIndex_df160_9
theorem k_RJ1_9 : th_LS RJ1 9 yJ0_checkIndex_df160 cJ0_checkIndex_df160 2 none 2 := ⟨w_133, w_134, w_5, w_135, by decide +kernel⟩
theorem th_lenB : ∀ i, i < 13 → th_len.getD i 0 < 100 := by decide +kernel
theorem th_bytB : ∀ i, i < 13 → ∀ j, j < 46 → (((th_byt.getD i []).getD j 0 &&& 255).toUInt32 % 65536).toInt32 = (th_byt.getD i []).getD j 0 ∧ narrow .char (.int ((th_byt.getD i []).getD j 0)) = .int ((th_byt.getD i []).getD j 0) := by decide +kernel
theorem th_lenC : ∀ i, i < 13 → th_len.getD i 0 ≤ 46 := by decide +kernel
set_option maxHeartbeats 4000000 in
theorem c_J1_charAt {l : Launch} {G : th_G} {σ : th_S} {μ : th_M} {i : Nat} {x1 : Int32} (hi : i < 13) (h : ¬ (x1 < 0 ∨ th_len.getD i 0 ≤ x1.toNatClampNeg)) : th_Met l G yJ1_charAt_3b067 cJ1_charAt_3b067 2 (some .char) { frames := 2, cells := 0, slots := 0, locals := 43 } [.ref (G.2.2.2.2.1 i), .int x1] σ μ (some (.int ((th_byt.getD i []).getD x1.toNatClampNeg 0))) σ μ := by
  refine th_ofW (by decide +kernel) (Nat.le_of_ble_eq_true rfl) ?_
  intro p e s m args below meth c ls Q hQ C hr hk hnm T hl
  have hx := C.1
  have hb := C.2.1
  have C : CallFix p m c cJ1_charAt_3b067 2 s args th_ws RJ1 := C
  have hl : lv_has ls 2 [(0, .ref (G.2.2.2.2.1 i)), (1, .int x1)] := hl
  have hB := (T.2.1.1 i hi).2.2.2
  have h0 : ¬ x1 < 0 := fun q => h (Or.inl q)
  have h1 : x1 < Int32.ofNat (th_len.getD i 0) := by
    have h2 : x1.toNatClampNeg < th_len.getD i 0 := Nat.not_le.mp fun q => h (Or.inr q)
    have h3 := th_lenB i hi
    rw [Int32.lt_iff_toInt_lt]
    have h4 : (Int32.ofNat (th_len.getD i 0)).toInt = (th_len.getD i 0 : Int) := nI_toInt (by omega)
    rw [h4]
    have h5 : x1.toNatClampNeg = x1.toInt.toNat := rfl
    omega
  refine lv_iload_n hx hb dJ1_charAt_3b067_0 rfl (lv_at hl 1 rfl) ?_
  refine lv_aload_n hx hb dJ1_charAt_3b067_1 rfl (lv_at hl 0 rfl) ?_
  refine va_tlen hx hb hB T.2.2.1 rfl dJ1_charAt_3b067_2 ?_
  refine th_callS (As := [.int x1, .int (Int32.ofNat (th_len.getD i 0))]) (rest := []) C T (c_J0_checkIndex h0 h1) k_RJ1_9 rfl hl.1 rfl (st1 := []) rfl (cells1 := 0) rfl (slots1 := 0) rfl (Nat.le_of_ble_eq_true rfl) ⟨Nat.le_of_ble_eq_true rfl, Nat.le_of_ble_eq_true rfl⟩ ⟨Nat.le_of_ble_eq_true rfl, Nat.le_of_ble_eq_true rfl⟩ dJ1_charAt_3b067_3 (fun H locs T => ?_)
  refine lv_aload_n hx hb dJ1_charAt_3b067_6 rfl (lv_at hl 0 rfl) ?_
  refine lv_iload_n hx hb dJ1_charAt_3b067_7 rfl (lv_at hl 1 rfl) ?_
  refine va_tb hx hb hB T.2.2.1 h rfl dJ1_charAt_3b067_8 ?_
  refine lv_sipush (v := 255) hx hb dJ1_charAt_3b067_9 (by decide) ?_
  refine lv_iand hx hb dJ1_charAt_3b067_12 ?_
  have hj : x1.toNatClampNeg < 46 := by
    have h2 : x1.toNatClampNeg < th_len.getD i 0 := Nat.not_le.mp fun q => h (Or.inr q)
    have := th_lenC i hi
    omega
  refine lv_i2c hx hb dJ1_charAt_3b067_13 (th_bytB i hi _ hj).1 ?_
  exact th_zret hQ C hr hk T (Nat.le_of_ble_eq_true rfl) (Nat.le_of_ble_eq_true rfl) dJ1_charAt_3b067_14 (th_bytB i hi _ hj).2
theorem k_RJ0_495 : th_LS RJ0 495 yJ1_charAt_3b067 cJ1_charAt_3b067 2 (some .char) 2 := ⟨w_130, w_131, w_6, w_132, by decide +kernel⟩
set_option maxHeartbeats 4000000 in
theorem c_J0_charAt_5068e {l : Launch} {G : th_G} {σ : th_S} {μ : th_M} {t : Nat} {x1 r : Int32} (h : f_J0_charAt_5068e t x1 = some r) : th_Met l G yJ0_charAt_5068e cJ0_charAt_5068e 2 (some .char) { frames := 4, cells := 0, slots := 0, locals := 240 } [.ref (G.2.2.2.1 t), .int x1] σ μ (some (.int r)) σ μ := by
  unfold f_J0_charAt_5068e oU at h
  obtain ⟨⟨hi, hj⟩, h⟩ := og_ h
  cases h
  refine th_ofW (by decide +kernel) (Nat.le_of_ble_eq_true rfl) ?_
  intro p e s m args below meth c ls Q hQ C hr hk hnm T hl
  have hx := C.1
  have hb := C.2.1
  have C : CallFix p m c cJ0_charAt_5068e 2 s args th_ws RJ0 := C
  have hl : lv_has ls 2 [(0, .ref (G.2.2.2.1 t)), (1, .int x1)] := hl
  refine lv_aload_n hx hb dJ0_charAt_5068e_0 rfl (lv_at hl 0 rfl) ?_
  refine th_callT (As := []) (rest := []) C T (c_J0_isLatin1 hi) hi k_RJ0_492 rfl rfl hl.1 rfl (st1 := [.int 1]) rfl (cells1 := 0) rfl (slots1 := 0) rfl (Nat.le_of_ble_eq_true rfl) ⟨Nat.le_of_ble_eq_true rfl, Nat.le_of_ble_eq_true rfl⟩ ⟨Nat.le_of_ble_eq_true rfl, Nat.le_of_ble_eq_true rfl⟩ dJ0_charAt_5068e_1 (fun H locs T => ?_)
  refine lv_if_eq (tgt := 16) hx hb dJ0_charAt_5068e_4 (by decide) (fun c1 => ?_) (fun c1 => ?_)
  · exact absurd c1 (by decide)
  refine lv_aload_n hx hb dJ0_charAt_5068e_7 rfl (lv_at hl 0 rfl) ?_
  refine vk_getf hx hb (T.2.1.1 t hi).2.2.1 T.2.2.1 C.2.2.2.1 (C.2.2.2.2 _ w_1242) (fun _ h => h) dJ0_charAt_5068e_8 ?_
  refine lv_iload_n hx hb dJ0_charAt_5068e_11 rfl (lv_at hl 1 rfl) ?_
  refine th_callS (As := [.ref (G.2.2.2.2.1 t), .int x1]) (rest := []) C T (c_J1_charAt hi hj) k_RJ0_495 rfl hl.1 rfl (st1 := [.int ((th_byt.getD t []).getD x1.toNatClampNeg 0)]) rfl (cells1 := 0) rfl (slots1 := 0) rfl (Nat.le_of_ble_eq_true rfl) ⟨Nat.le_of_ble_eq_true rfl, Nat.le_of_ble_eq_true rfl⟩ ⟨Nat.le_of_ble_eq_true rfl, Nat.le_of_ble_eq_true rfl⟩ dJ0_charAt_5068e_12 (fun H locs T => ?_)
  have hj' : x1.toNatClampNeg < 46 := by
    have h2 : x1.toNatClampNeg < th_len.getD t 0 := Nat.not_le.mp fun q => hj (Or.inr q)
    have := th_lenC t hi
    omega
  exact th_zret hQ C hr hk T (Nat.le_of_ble_eq_true rfl) (Nat.le_of_ble_eq_true rfl) dJ0_charAt_5068e_15 (th_bytB t hi _ hj').2
theorem th_shr0 (x : Int32) : x >>> ((0 : Int32) &&& 31) = x := by
  apply Int32.toBitVec_inj.mp
  rw [show ((0 : Int32) &&& 31) = 0 from by decide]
  simp
set_option maxHeartbeats 4000000 in
theorem c_J0_length_8abf5 {l : Launch} {G : th_G} {σ : th_S} {μ : th_M} {t : Nat} {r : Int32} (h : f_J0_length_8abf5 t = some r) : th_Met l G yJ0_length_8abf5 cJ0_length_8abf5 1 (some .int) { frames := 1, cells := 0, slots := 0, locals := 60 } [.ref (G.2.2.2.1 t)] σ μ (some (.int r)) σ μ := by
  unfold f_J0_length_8abf5 oT at h
  obtain ⟨hi, h⟩ := og_ h
  cases h
  refine th_ofW (by decide +kernel) (Nat.le_of_ble_eq_true rfl) ?_
  intro p e s m args below meth c ls Q hQ C hr hk hnm T hl
  have hx := C.1
  have hb := C.2.1
  have C : CallFix p m c cJ0_length_8abf5 1 s args th_ws RJ0 := C
  have hl : lv_has ls 1 [(0, .ref (G.2.2.2.1 t))] := hl
  refine lv_aload_n hx hb dJ0_length_8abf5_0 rfl (lv_at hl 0 rfl) ?_
  refine vk_getf hx hb (T.2.1.1 t hi).2.2.1 T.2.2.1 C.2.2.2.1 (C.2.2.2.2 _ w_1242) (fun _ h => h) dJ0_length_8abf5_1 ?_
  refine va_tlen hx hb (T.2.1.1 t hi).2.2.2 T.2.2.1 rfl dJ0_length_8abf5_4 ?_
  refine lv_aload_n hx hb dJ0_length_8abf5_5 rfl (lv_at hl 0 rfl) ?_
  refine th_callT (As := []) (rest := [.int (Int32.ofNat (th_len.getD t 0))]) C T (c_J0_coder hi) hi k_RJ0_335 rfl rfl hl.1 rfl (st1 := [.int 0, .int (Int32.ofNat (th_len.getD t 0))]) rfl (cells1 := 0) rfl (slots1 := 0) rfl (Nat.le_of_ble_eq_true rfl) ⟨Nat.le_of_ble_eq_true rfl, Nat.le_of_ble_eq_true rfl⟩ ⟨Nat.le_of_ble_eq_true rfl, Nat.le_of_ble_eq_true rfl⟩ dJ0_length_8abf5_6 (fun H locs T => ?_)
  refine lv_ishr hx hb dJ0_length_8abf5_9 ?_
  rw [th_shr0]
  exact th_iret hQ C hr hk T (Nat.le_of_ble_eq_true rfl) (Nat.le_of_ble_eq_true rfl) dJ0_length_8abf5_10
/-- contents beyond a row's length don't matter -/
theorem th_P.congr {G : th_G} {σ : th_S} {μ μ' : th_M} {H : Heap} (h : th_P G σ μ H) (h1 : ∀ q, σ.1 q < 12 → μ' q = μ q) (h2 : ∀ q, σ.1 q = 12 → ∀ j, j < σ.2.1 q → μ' q j = μ q j) : th_P G σ μ' H := by
  refine ⟨h.1, h.2.1, fun q hq => ⟨(h.2.2 q hq).1, ?_⟩⟩
  have h3 := (h.2.2 q hq).2
  by_cases hc : σ.1 q < 12
  · rw [th_eO rfl hc] at h3 ⊢
    simpa only [th_f, h1 q hc] using h3
  · by_cases he : σ.1 q = 12
    · rw [th_eI he] at h3 ⊢
      have h3 : H[q]? = some (vp_cell _ _) := h3
      show H[q]? = some (vp_cell _ _)
      rw [h3, vp_cell_i, vp_cell_i]
      congr 1
      unfold arrV
      congr 1
      congr 1
      funext j
      show Value.int (μ q j.val) = Value.int (μ' q j.val)
      rw [h2 q he j.val j.isLt]
    · rw [th_eR rfl (by omega)] at h3 ⊢
      exact h3
theorem th_R.congr {G : th_G} {s : State} {H : Heap} {locs : List Loc} {σ : th_S} {μ μ' : th_M} (T : th_R G s H locs σ μ) (h1 : ∀ q, σ.1 q < 12 → μ' q = μ q) (h2 : ∀ q, σ.1 q = 12 → ∀ j, j < σ.2.1 q → μ' q j = μ q j) : th_R G s H locs σ μ' := ⟨T.1, T.2.1, T.2.2.1, T.2.2.2.congr h1 h2⟩
section TK
variable {p : Program} {l : Launch} {e : Env} {R : Room} {s : State} {m : MethodId} {args : Array Value} {below : List Frame} {meth : Method} {c : Code} {H : Heap} {locs : List Loc} {cells slots : Nat} {Q : State → Prop}
variable {cc : ByteArray} {pc nL : Nat} {ls : Array Slot} {rest : List Value} {G : th_G} {σ : th_S} {μ : th_M} {own : String} {index a : Nat}
theorem th_lt (T : th_R G s H locs σ μ) (h : σ.1 a < 16) : a < σ.2.2.2 := by
  rw [← T.2.2.2.1]
  exact (T.2.2.2.2.2 a h).2.lt
theorem th_clone (C : CallFix p m c cc nL s args th_ws own) (T : th_R G s H locs σ μ) (hkd : σ.1 a = 12) (hls : ls.size = nL) (hlink : Cond.methodLink own index ⟨"[I", "clone", "()Ljava/lang/Object;"⟩ ∈ th_ws) (hsame : Cond.sameMethod "[I" "java/lang/Object" "clone" "()Ljava/lang/Object;" ∈ th_ws) (hnat : Cond.native ⟨"java/lang/Object", "clone", "()Ljava/lang/Object;"⟩ ∈ th_ws) (hinst : Cond.instanceMethod ⟨"java/lang/Object", "clone", "()Ljava/lang/Object;"⟩ ∈ th_ws) (hsel : Cond.selects "[I" ⟨"[I", "clone", "()Ljava/lang/Object;"⟩ ⟨"java/lang/Object", "clone", "()Ljava/lang/Object;"⟩ ∈ th_ws)
    (hframes : 1 ≤ R.frames) (hlocals : (rest.map fun v => v.category).sum + 14 ≤ R.locals) (hcells : cells + 1 ≤ R.cells) (hslots : slots + σ.2.1 a ≤ R.slots) (hdg : decode cc pc = .ok (.invokevirtual index, 3))
    (kk : ∀ (H : Heap), th_R G s H locs (th_nS σ 12 (σ.2.1 a)) (va_up μ σ.2.2.2 (μ a)) → W p l e R s m args below meth c H locs (cells + 1) (slots + σ.2.1 a) Q (F0 m (pc + 3) ls (.ref σ.2.2.2 :: rest))) : W p l e R s m args below meth c H locs cells slots Q (F0 m pc ls (.ref a :: rest)) := by
  have hcy : va_Nw (.castable "[I" "java/lang/Cloneable") s := T.1.2.2.2.1 _ (by decide +kernel)
  have halt := th_lt T (a := a) (by omega)
  obtain ⟨tK, tC, tS, tP⟩ := T
  have hN := tP.1
  have hnm : s.vm.findClass "[I" = some (G.2.1 12) := (tK.1.2 0 _ rfl).2
  obtain ⟨c0, t0', f1, f2, f3⟩ := Cond.castable_spec (va_Nw.use (A := args) rfl hcy)
  cases hnm.symm.trans f1
  have hc0 := (tP.2.2 a (by omega)).2
  rw [th_eI hkd] at hc0
  have hc0 : H[a]? = some (vp_cell (G.2.1 12) (σ.2.1 a, .inl (μ a))) := hc0
  have hsz : (vp_cell (G.2.1 12) (σ.2.1 a, .inl (μ a))).slots.size = σ.2.1 a := arrV_size _ _ _
  intro U hU X
  have hcellT : U.heap[a]? = some (vp_cell (G.2.1 12) (σ.2.1 a, .inl (μ a))) := by rw [hU]; exact hc0
  obtain ⟨-, kA, hkA, comp, hkind⟩ := State.isArrayOf_alike X.warmed.alike ((tK.1.2 0 _ rfl).1 0 (fun _ => .null))
  obtain ⟨-, kS, hkS, compS, hkindS⟩ := (tK.1.2 0 _ rfl).1 0 (fun _ => .null)
  obtain ⟨vm', X', st⟩ := X.cloneArray C.1 C.2.2.2.1 (C.2.2.2.2 _ hlink) (C.2.2.2.2 _ hsame) (C.2.2.2.2 _ hnat) (C.2.2.2.2 _ hinst) (C.2.2.2.2 _ hsel) (a := a) (cell := vp_cell (G.2.1 12) (σ.2.1 a, .inl (μ a))) hcellT (fun k h => by cases h) (fun h => by cases h) hnm f2 f3
    (fun i v hv => by
      have hk' : U.vm.classes[G.2.1 12]? = some kA := hkA
      have hfit : fits .int v = true := va_fit (F := fun j => Value.int (μ a j)) (fun i _ => rfl) i v hv
      have hcl0 : (vp_cell (G.2.1 12) (σ.2.1 a, .inl (μ a))).cls = G.2.1 12 := rfl
      rw [hcl0]
      simpa [State.fitsSlot, State.slotType?, hk', hkind] using hfit)
    (g := F0 m pc ls (.ref a :: rest)) rfl (by rw [C.2.2.1]; exact hls) rfl (by rw [C.2.1]; exact hdg) hframes (by show 2 * 0 + _ + 14 ≤ _; omega) hcells (by rw [hsz]; exact hslots) (hloader := Vm.clonesLoader_of_array hkS hkindS)
  have hcellE : ({ cls := (vp_cell (G.2.1 12) (σ.2.1 a, .inl (μ a))).cls, slots := (vp_cell (G.2.1 12) (σ.2.1 a, .inl (μ a))).slots } : Cell) = vp_cell (G.2.1 12) (σ.2.1 a, .inl (μ a)) := rfl
  rw [hcellE, hsz] at X'
  generalize hH1 : H.push (vp_cell (G.2.1 12) (σ.2.1 a, .inl (μ a))) = H1
  have z1 : H1.size = H.size + 1 := by rw [← hH1, Array.size_push]
  have e1 : H1[H.size]? = some (vp_cell (G.2.1 12) (σ.2.1 a, .inl (μ a))) := by rw [← hH1, Array.getElem?_push_size]
  have o1 : ∀ q : Nat, q < H.size → H1[q]? = H[q]? := fun q hq => by rw [← hH1, Array.getElem?_push, if_neg (Nat.ne_of_lt hq)]
  have hT' : th_P G (th_nS σ 12 (σ.2.1 a)) (va_up μ σ.2.2.2 (μ a)) H1 := by
    refine ⟨by rw [z1, hN]; rfl, by rw [z1]; exact Nat.le_succ_of_le tP.2.1, fun q hq => ?_⟩
    by_cases e : q = σ.2.2.2
    · subst e
      refine ⟨by rw [← hN]; exact tP.2.1, ?_⟩
      rw [th_eI (by simp [th_nS, va_up])]
      show H1[_]? = some (vp_cell _ _)
      rw [show H1[σ.2.2.2]? = some (vp_cell (G.2.1 12) (σ.2.1 a, .inl (μ a))) from by rw [← hN]; exact e1]
      simp [th_nS, va_up]
    · have h1 : (th_nS σ 12 (σ.2.1 a)).1 q = σ.1 q := by simp [th_nS, va_up, e]
      rw [h1] at hq
      obtain ⟨g1, g2⟩ := tP.2.2 q hq
      refine ⟨g1, ?_⟩
      have h2 : th_e G.2.1 (th_nS σ 12 (σ.2.1 a)) (va_up μ σ.2.2.2 (μ a)) q = th_e G.2.1 σ μ q := by simp [th_e, th_f, th_nS, va_up, e]
      rw [h2]
      exact g2.kept (o1 q g2.lt)
  obtain ⟨t, b1, b2⟩ := kk H1 ⟨tK, tC, ⟨Nat.le_trans tS.1 (by omega), fun y h1 h2 => (o1 y (Nat.lt_of_lt_of_le h1 tS.1)).trans (tS.2.1 y h1 h2), tS.2.2⟩, hT'⟩
    ((U.setVm vm').pushCell (vp_cell (G.2.1 12) (σ.2.1 a, .inl (μ a)))) (by rw [← hH1, ← hU]; rfl) X'
  refine ⟨t, st t ?_, b2⟩
  rw [hcellE, hU, hN]
  exact b1
end TK
set_option maxHeartbeats 4000000 in
theorem c_J7_copyOf_59c91 {l : Launch} {G : th_G} {σ : th_S} {μ : th_M} {x0 : Nat} {x1 : Int32} {r : Nat} {σ' : th_S} {μ' : th_M} (h : f_J7_copyOf_59c91 σ μ x0 x1 = some (r, σ', μ')) : th_Met l G yJ7_copyOf_59c91 cJ7_copyOf_59c91 3 (some (.array .int)) { frames := 2, cells := 1, slots := 200, locals := 120 } [.ref x0, .int x1] σ μ (some (.ref r)) σ' μ' := by
  unfold f_J7_copyOf_59c91 oCp at h
  obtain ⟨⟨hkd, h0, hle, hM⟩, h⟩ := og_ h
  cases h
  refine th_ofW (by decide +kernel) (Nat.le_of_ble_eq_true rfl) ?_
  intro p e s m args below meth c ls Q hQ C hr hk hnm T hl
  have hx := C.1
  have hb := C.2.1
  have C : CallFix p m c cJ7_copyOf_59c91 3 s args th_ws RJ7 := C
  have hl : lv_has ls 3 [(0, .ref x0), (1, .int x1)] := hl
  have hlen : oL σ x0 = some (Int32.ofNat (σ.2.1 x0)) := by simp [oL, hkd]
  refine lv_iload_n hx hb dJ7_copyOf_59c91_0 rfl (lv_at hl 1 rfl) ?_
  refine lv_aload_n hx hb dJ7_copyOf_59c91_1 rfl (lv_at hl 0 rfl) ?_
  refine th_alen C T hlen dJ7_copyOf_59c91_2 ?_
  have hlt := th_lt T (a := x0) (by omega)
  refine lv_icmp_ne (tgt := 14) hx hb dJ7_copyOf_59c91_3 (by decide) (fun c1 => ?_) (fun c1 => ?_)
  · refine lv_iload_n hx hb dJ7_copyOf_59c91_14 rfl (lv_at hl 1 rfl) ?_
    refine th_newaG C T h0 rfl (by omega) w_66 (Nat.le_of_ble_eq_true rfl) (show 0 + x1.toNatClampNeg ≤ 200 by omega) dJ7_copyOf_59c91_15 (fun H T => ?_)
    refine lv_astore_n (lv' := [(2, .ref σ.2.2.2), (0, .ref x0), (1, .int x1)]) hx hb dJ7_copyOf_59c91_17 rfl hl (by decide) rfl (fun ls hl => ?_)
    refine lv_aload_n hx hb dJ7_copyOf_59c91_18 rfl (lv_at hl 1 rfl) ?_
    refine lv_iconst (v := 0) hx hb dJ7_copyOf_59c91_19 (by decide) ?_
    refine lv_aload_n hx hb dJ7_copyOf_59c91_20 rfl (lv_at hl 0 rfl) ?_
    refine lv_iconst (v := 0) hx hb dJ7_copyOf_59c91_21 (by decide) ?_
    refine lv_aload_n hx hb dJ7_copyOf_59c91_22 rfl (lv_at hl 1 rfl) ?_
    have hne : x0 ≠ σ.2.2.2 := Nat.ne_of_lt hlt
    have hkd1 : (th_nS σ 12 x1.toNatClampNeg).1 x0 = 12 := by simp [th_nS, va_up, hkd]
    have hln1 : (th_nS σ 12 x1.toNatClampNeg).2.1 x0 = σ.2.1 x0 := by simp [th_nS, va_up, hne]
    have hlen1 : oL (th_nS σ 12 x1.toNatClampNeg) x0 = some (Int32.ofNat (σ.2.1 x0)) := by simp [oL, hkd1, hln1]
    refine th_alen C T hlen1 dJ7_copyOf_59c91_23 ?_
    refine lv_iload_n hx hb dJ7_copyOf_59c91_24 rfl (lv_at hl 2 rfl) ?_
    refine th_min C hl.1 w_270 w_271 w_11 w_272 (Nat.le_of_ble_eq_true rfl) (Nat.le_of_ble_eq_true rfl) (Nat.le_of_ble_eq_true rfl) (show 0 + x1.toNatClampNeg ≤ 200 by omega) dJ7_copyOf_59c91_25 ?_
    have hx1 : x1 = Int32.ofNat x1.toNatClampNeg := by
      apply Int32.toInt_inj.mp
      rw [show (Int32.ofNat x1.toNatClampNeg).toInt = (x1.toNatClampNeg : Int) from nI_toInt (by omega)]
      have := Int32.not_lt.mp h0
      have h2 : (0 : Int) ≤ x1.toInt := by simpa using Int32.le_iff_toInt_le.mp this
      show x1.toInt = ((x1.toInt.toNat : Nat) : Int)
      omega
    have hmin : jmin (Int32.ofNat (σ.2.1 x0)) x1 = x1 := by
      unfold jmin
      split
      · rfl
      · rename_i hn
        rw [hx1, Int32.lt_iff_toInt_lt, show (Int32.ofNat (σ.2.1 x0)).toInt = (σ.2.1 x0 : Int) from nI_toInt (by omega), show (Int32.ofNat x1.toNatClampNeg).toInt = (x1.toNatClampNeg : Int) from nI_toInt (by omega)] at hn
        rw [show σ.2.1 x0 = x1.toNatClampNeg by omega, ← hx1]
    rw [hmin]
    have hX : oX (th_nS σ 12 x1.toNatClampNeg) (th_nM σ μ) x0 0 σ.2.2.2 0 x1 = some (va_up (th_nM σ μ) σ.2.2.2 (va_cpy (th_nM σ μ x0) (th_nM σ μ σ.2.2.2) 0 0 x1.toNatClampNeg)) := by
      unfold oX
      rw [if_pos]
      · rfl
      · refine ⟨hkd1, by simp [th_nS, va_up], by decide, by decide, h0, ?_, ?_⟩
        · rw [hln1]; show 0 + _ ≤ _; omega
        · simp [th_nS, va_up]
    refine th_copy C T hX hl.1 w_273 w_275 w_274 w_12 (Nat.le_of_ble_eq_true rfl) (Nat.le_of_ble_eq_true rfl) dJ7_copyOf_59c91_28 (fun H locs T => ?_)
    refine lv_aload_n hx hb dJ7_copyOf_59c91_31 rfl (lv_at hl 0 rfl) ?_
    have T2 : th_R G s H locs (th_nS σ 12 x1.toNatClampNeg) (va_up μ σ.2.2.2 (μ x0)) := by
      refine T.congr (fun q hq => ?_) (fun q hq j hj => ?_)
      · have : q ≠ σ.2.2.2 := fun e => by subst e; simp [th_nS, va_up] at hq
        simp [va_up, th_nM, this]
      · by_cases e : q = σ.2.2.2
        · subst e
          have hj : j < x1.toNatClampNeg := by simpa [th_nS, va_up] using hj
          simp [va_up, th_nM, va_cpy, hj, hne]
        · simp [va_up, th_nM, e]
    exact th_aret hQ C hr hk T2 (Nat.le_of_ble_eq_true rfl) (show 0 + x1.toNatClampNeg ≤ 200 by omega) dJ7_copyOf_59c91_32 (Or.inr ⟨_, rfl⟩)
  · have hn : x1.toNatClampNeg = σ.2.1 x0 := by
      rw [c1]; exact nI_clamp (by omega)
    refine lv_aload_n hx hb dJ7_copyOf_59c91_6 rfl (lv_at hl 0 rfl) ?_
    refine th_clone C T hkd hl.1 w_263 w_264 w_265 w_266 w_267 (Nat.le_of_ble_eq_true rfl) (Nat.le_of_ble_eq_true rfl) (Nat.le_of_ble_eq_true rfl) (show 0 + σ.2.1 x0 ≤ 200 by omega) dJ7_copyOf_59c91_7 (fun H T => ?_)
    have h1 := th_one T.2.2.2 (q := σ.2.2.2) (by simp [th_nS, va_up])
    rw [th_eI (by simp [th_nS, va_up])] at h1
    refine va_castA hx hb C.2.2.2.1 (C.2.2.2.2 _ w_269) h1 0 rfl (T.1.1.2 0 _ rfl).2 dJ7_copyOf_59c91_10 ?_
    rw [hn] at hQ
    exact th_aret hQ C hr hk T (Nat.le_of_ble_eq_true rfl) (show 0 + σ.2.1 x0 ≤ 200 by omega) dJ7_copyOf_59c91_13 (Or.inr ⟨_, rfl⟩)
section TX
variable {p : Program} {l : Launch} {e : Env} {R : Room} {s : State} {m : MethodId} {args : Array Value} {below : List Frame} {meth : Method} {c : Code} {H : Heap} {locs : List Loc} {cells slots : Nat} {Q : State → Prop}
variable {cc : ByteArray} {pc nL : Nat} {ls : Array Slot} {rest : List Value} {G : th_G} {σ : th_S} {μ : th_M} {own : String}
theorem th_sld (C : CallFix p m c cc nL s args th_ws own) (T : th_R G s H locs σ μ) {b L : Nat} {xs : Nat → Int32} (hX : va_X b L xs s s.heap) (hbl : b < s.heap.size) (hbA : ¬ th_A G b) {i v : Int32} (h : oXs L xs i = some v) (hdg : decode cc pc = .ok (.iaload, 1))
    (kk : W p l e R s m args below meth c H locs cells slots Q (F0 m (pc + 1) ls (.int v :: rest))) : W p l e R s m args below meth c H locs cells slots Q (F0 m pc ls (.int i :: .ref b :: rest)) := by
  unfold oXs at h
  obtain ⟨hi, h⟩ := og_ h
  cases h
  exact va_sld C.1 C.2.1 hX hbl hbA T.2.2.1 hi hdg kk
end TX
