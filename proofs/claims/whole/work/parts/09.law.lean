set_option maxRecDepth 100000 in
set_option maxHeartbeats 4000000 in
theorem law_walk {p : Program} {e : Env} {s : State} {m : MethodId} {below : List Frame} {meth : Method} {c : Code} {l : Launch} {b L : Nat} {xs : Nat → Int32} {G : th_G} {σ : th_S} {μ : th_M} (hr : meth.sig.returnType = ret) (hk : meth.locks = false) (C : CallFix p m c cL_law 4 s #[Value.ref b] th_ws RL) (hX : va_X b L xs s s.heap) (hbl : b < s.heap.size) (hbA : ¬ th_A G b) (hge : ∀ q, th_A G q → s.heap.size ≤ q) (T : th_R G s s.heap [] σ μ) {ls : Array Slot} (hl : lv_has ls 4 [(0, .ref b)]) (h : f_L_law L xs σ μ = some 1) : W p l e room_1 s m #[Value.ref b] below meth c s.heap [] 0 0 (lw_Z below #[Value.ref b] s) (F0 m 0 ls []) := by
  have hx := C.1
  have hb := C.2.1
  have J18 : ∀ (n : Nat) (cN sN : Nat), cN + n * 31 ≤ 15953 → sN + n * 561 ≤ 291496 → ∀ (σ : th_S) (μ : th_M) (x1 : Nat) (x2 : Nat) (x3 : Int32) (H : Heap) (locs : List Loc) (ls : Array Slot), th_R G s H locs σ μ → lv_has ls 4 [(1, .ref x1), (2, .ref x2), (3, .int x3), (0, .ref b)] → f_L_law_b18 L xs  n σ μ x1 x2 x3 = some 1 → W p l e room_1 s m #[Value.ref b] below meth c H locs cN sN (lw_Z below #[Value.ref b] s) (F0 m 18 ls []) := by
    intro n
    induction n with
    | zero => intro cN sN hcN hsN σ μ x1 x2 x3 H locs ls T hl h; unfold f_L_law_b18 at h; cases h
    | succ n18 ih18 =>
      intro cN sN hcN hsN σ μ x1 x2 x3 H locs ls T hl h
      unfold f_L_law_b18 at h
      refine lv_iload_n hx hb dL_law_18 rfl (lv_at hl 2 rfl) ?_
      refine lv_aload_n hx hb dL_law_19 rfl (lv_at hl 3 rfl) ?_
      refine va_slen hx hb hX hbl hbA T.2.2.1 dL_law_20 ?_
      refine lv_bipush (v := 6) hx hb dL_law_21 (by decide) ?_
      refine lv_isub hx hb dL_law_23 ?_
      refine lv_icmp_gt (tgt := 971) hx hb dL_law_24 (by decide) (fun c1 => ?_) (fun c1 => ?_)
      · replace h := ot_ c1 h
        refine lv_iconst (v := 1) hx hb dL_law_971 (by decide) ?_
        refine va_forget (fun q hq => hge _ (T.2.2.1.2.2 q hq)) ?_
        refine W.widen (k := 656867) (n := 7131647) (show cN ≤ 656867 by omega) (show sN ≤ 7131647 by omega) ?_
        exact lw_ret hx hb hr hk dL_law_972
      · replace h := of_ c1 h
        refine lv_aload_n hx hb dL_law_27 rfl (lv_at hl 3 rfl) ?_
        refine lv_iload_n hx hb dL_law_28 rfl (lv_at hl 2 rfl) ?_
        obtain ⟨v2, e3, h⟩ := ob_ h
        refine th_sld C T hX hbl hbA e3 dL_law_29 ?_
        refine lv_bipush (v := 31) hx hb dL_law_30 (by decide) ?_
        refine lv_iand hx hb dL_law_32 ?_
        by_cases c4 : (v2 &&& 31) = 0
        · replace h := ot_ c4 h
          refine th_tabIn (off := 127) (tgt := 160) C 0 c4 dL_law_33 (by decide) (by decide) (by decide) (by decide) ?_
          refine lv_aload_n hx hb dL_law_160 rfl (lv_at hl 0 rfl) ?_
          refine lv_aload_n hx hb dL_law_161 rfl (lv_at hl 3 rfl) ?_
          refine lv_iload_n hx hb dL_law_162 rfl (lv_at hl 2 rfl) ?_
          refine lv_iconst (v := 1) hx hb dL_law_163 (by decide) ?_
          refine lv_iadd hx hb dL_law_164 ?_
          obtain ⟨v5, e6, h⟩ := ob_ h
          refine th_sld C T hX hbl hbA e6 dL_law_165 ?_
          refine lv_aload_n hx hb dL_law_166 rfl (lv_at hl 3 rfl) ?_
          refine lv_iload_n hx hb dL_law_167 rfl (lv_at hl 2 rfl) ?_
          refine lv_iconst (v := 2) hx hb dL_law_168 (by decide) ?_
          refine lv_iadd hx hb dL_law_169 ?_
          obtain ⟨v7, e8, h⟩ := ob_ h
          refine th_sld C T hX hbl hbA e8 dL_law_170 ?_
          refine lv_aload_n hx hb dL_law_171 rfl (lv_at hl 3 rfl) ?_
          refine lv_iload_n hx hb dL_law_172 rfl (lv_at hl 2 rfl) ?_
          refine lv_iconst (v := 3) hx hb dL_law_173 (by decide) ?_
          refine lv_iadd hx hb dL_law_174 ?_
          obtain ⟨v9, e10, h⟩ := ob_ h
          refine th_sld C T hX hbl hbA e10 dL_law_175 ?_
          obtain ⟨k11, h⟩ := oc_ h
          obtain ⟨v12, σ13, μ14, e15, h⟩ := ob3 h
          refine th_callV (As := [.int v5, .int v7, .int v9]) (rest := []) C T (c_X10_boat e15) k_RL_13 10 rfl rfl (by decide) k11 rfl hl.1 rfl (st1 := [.int v12]) rfl (cells1 := cN + 3) rfl (slots1 := sN + 14) rfl (Nat.le_of_ble_eq_true rfl) ⟨Nat.le_of_ble_eq_true rfl, Nat.le_of_ble_eq_true rfl⟩ ⟨show cN + 3 ≤ 656867 by omega, show sN + 14 ≤ 7131647 by omega⟩ dL_law_176 (fun H locs T => ?_)
          refine lv_aload_n hx hb dL_law_179 rfl (lv_at hl 1 rfl) ?_
          refine lv_aload_n hx hb dL_law_180 rfl (lv_at hl 3 rfl) ?_
          refine lv_iload_n hx hb dL_law_181 rfl (lv_at hl 2 rfl) ?_
          refine lv_iconst (v := 1) hx hb dL_law_182 (by decide) ?_
          refine lv_iadd hx hb dL_law_183 ?_
          obtain ⟨v16, e17, h⟩ := ob_ h
          refine th_sld C T hX hbl hbA e17 dL_law_184 ?_
          refine lv_aload_n hx hb dL_law_185 rfl (lv_at hl 3 rfl) ?_
          refine lv_iload_n hx hb dL_law_186 rfl (lv_at hl 2 rfl) ?_
          refine lv_iconst (v := 2) hx hb dL_law_187 (by decide) ?_
          refine lv_iadd hx hb dL_law_188 ?_
          obtain ⟨v18, e19, h⟩ := ob_ h
          refine th_sld C T hX hbl hbA e19 dL_law_189 ?_
          refine lv_aload_n hx hb dL_law_190 rfl (lv_at hl 3 rfl) ?_
          refine lv_iload_n hx hb dL_law_191 rfl (lv_at hl 2 rfl) ?_
          refine lv_iconst (v := 3) hx hb dL_law_192 (by decide) ?_
          refine lv_iadd hx hb dL_law_193 ?_
          obtain ⟨v20, e21, h⟩ := ob_ h
          refine th_sld C T hX hbl hbA e21 dL_law_194 ?_
          obtain ⟨k22, h⟩ := oc_ h
          obtain ⟨v23, μ24, e25, h⟩ := ob2 h
          refine th_callV (As := [.int v16, .int v18, .int v20]) (rest := [.int v12]) C T (c_X11_boat e25) k_RL_17 11 rfl rfl (by decide) k22 rfl hl.1 rfl (st1 := [.int v23, .int v12]) rfl (cells1 := cN + 3) rfl (slots1 := sN + 14) rfl (Nat.le_of_ble_eq_true rfl) ⟨Nat.le_of_ble_eq_true rfl, Nat.le_of_ble_eq_true rfl⟩ ⟨show cN + 3 + 0 ≤ 656867 by omega, show sN + 14 + 0 ≤ 7131647 by omega⟩ dL_law_195 (fun H locs T => ?_)
          refine lv_icmp_eq (tgt := 965) hx hb dL_law_198 (by decide) (fun c26 => ?_) (fun c26 => ?_)
          · replace h := ot_ c26 h
            refine lv_iinc (v := x3 + 6) (lv' := [(3, .int (x3 + 6)), (1, .ref x1), (2, .ref x2), (0, .ref b)]) hx hb dL_law_965 hl (k := 2) rfl rfl (by decide) rfl (fun ls hl => ?_)
            refine lv_goto (tgt := 18) hx hb dL_law_968 (by decide) ?_
            exact ih18 (cN + 3) (sN + 14) (by omega) (by omega) _ _ _ _ _ _ _ _ T (lv_sub hl [1, 2, 0, 3] rfl) h
          · replace h := of_ c26 h
            refine lv_iconst (v := 0) hx hb dL_law_201 (by decide) ?_
            exact absurd (os1 h) (by decide)
        replace h := of_ c4 h
        by_cases c27 : (v2 &&& 31) = 1
        · replace h := ot_ c27 h
          refine th_tabIn (off := 170) (tgt := 203) C 1 c27 dL_law_33 (by decide) (by decide) (by decide) (by decide) ?_
          refine lv_aload_n hx hb dL_law_203 rfl (lv_at hl 0 rfl) ?_
          refine lv_aload_n hx hb dL_law_204 rfl (lv_at hl 3 rfl) ?_
          refine lv_iload_n hx hb dL_law_205 rfl (lv_at hl 2 rfl) ?_
          refine lv_iconst (v := 1) hx hb dL_law_206 (by decide) ?_
          refine lv_iadd hx hb dL_law_207 ?_
          obtain ⟨v28, e29, h⟩ := ob_ h
          refine th_sld C T hX hbl hbA e29 dL_law_208 ?_
          refine lv_aload_n hx hb dL_law_209 rfl (lv_at hl 3 rfl) ?_
          refine lv_iload_n hx hb dL_law_210 rfl (lv_at hl 2 rfl) ?_
          refine lv_iconst (v := 2) hx hb dL_law_211 (by decide) ?_
          refine lv_iadd hx hb dL_law_212 ?_
          obtain ⟨v30, e31, h⟩ := ob_ h
          refine th_sld C T hX hbl hbA e31 dL_law_213 ?_
          refine lv_aload_n hx hb dL_law_214 rfl (lv_at hl 3 rfl) ?_
          refine lv_iload_n hx hb dL_law_215 rfl (lv_at hl 2 rfl) ?_
          refine lv_iconst (v := 3) hx hb dL_law_216 (by decide) ?_
          refine lv_iadd hx hb dL_law_217 ?_
          obtain ⟨v32, e33, h⟩ := ob_ h
          refine th_sld C T hX hbl hbA e33 dL_law_218 ?_
          obtain ⟨k34, h⟩ := oc_ h
          obtain ⟨v35, μ36, e37, h⟩ := ob2 h
          refine th_callV (As := [.int v28, .int v30, .int v32]) (rest := []) C T (c_X10_set e37) k_RL_18 10 rfl rfl (by decide) k34 rfl hl.1 rfl (st1 := [.int v35]) rfl (cells1 := cN) rfl (slots1 := sN) rfl (Nat.le_of_ble_eq_true rfl) ⟨Nat.le_of_ble_eq_true rfl, Nat.le_of_ble_eq_true rfl⟩ ⟨show cN + 0 ≤ 656867 by omega, show sN + 0 ≤ 7131647 by omega⟩ dL_law_219 (fun H locs T => ?_)
          refine lv_aload_n hx hb dL_law_222 rfl (lv_at hl 1 rfl) ?_
          refine lv_aload_n hx hb dL_law_223 rfl (lv_at hl 3 rfl) ?_
          refine lv_iload_n hx hb dL_law_224 rfl (lv_at hl 2 rfl) ?_
          refine lv_iconst (v := 1) hx hb dL_law_225 (by decide) ?_
          refine lv_iadd hx hb dL_law_226 ?_
          obtain ⟨v38, e39, h⟩ := ob_ h
          refine th_sld C T hX hbl hbA e39 dL_law_227 ?_
          refine lv_aload_n hx hb dL_law_228 rfl (lv_at hl 3 rfl) ?_
          refine lv_iload_n hx hb dL_law_229 rfl (lv_at hl 2 rfl) ?_
          refine lv_iconst (v := 2) hx hb dL_law_230 (by decide) ?_
          refine lv_iadd hx hb dL_law_231 ?_
          obtain ⟨v40, e41, h⟩ := ob_ h
          refine th_sld C T hX hbl hbA e41 dL_law_232 ?_
          refine lv_aload_n hx hb dL_law_233 rfl (lv_at hl 3 rfl) ?_
          refine lv_iload_n hx hb dL_law_234 rfl (lv_at hl 2 rfl) ?_
          refine lv_iconst (v := 3) hx hb dL_law_235 (by decide) ?_
          refine lv_iadd hx hb dL_law_236 ?_
          obtain ⟨v42, e43, h⟩ := ob_ h
          refine th_sld C T hX hbl hbA e43 dL_law_237 ?_
          obtain ⟨k44, h⟩ := oc_ h
          obtain ⟨v45, μ46, e47, h⟩ := ob2 h
          refine th_callV (As := [.int v38, .int v40, .int v42]) (rest := [.int v35]) C T (c_X11_set e47) k_RL_21 11 rfl rfl (by decide) k44 rfl hl.1 rfl (st1 := [.int v45, .int v35]) rfl (cells1 := cN) rfl (slots1 := sN) rfl (Nat.le_of_ble_eq_true rfl) ⟨Nat.le_of_ble_eq_true rfl, Nat.le_of_ble_eq_true rfl⟩ ⟨show cN + 0 ≤ 656867 by omega, show sN + 0 ≤ 7131647 by omega⟩ dL_law_238 (fun H locs T => ?_)
          refine lv_icmp_eq (tgt := 965) hx hb dL_law_241 (by decide) (fun c48 => ?_) (fun c48 => ?_)
          · replace h := ot_ c48 h
            refine lv_iinc (v := x3 + 6) (lv' := [(3, .int (x3 + 6)), (1, .ref x1), (2, .ref x2), (0, .ref b)]) hx hb dL_law_965 hl (k := 2) rfl rfl (by decide) rfl (fun ls hl => ?_)
            refine lv_goto (tgt := 18) hx hb dL_law_968 (by decide) ?_
            exact ih18 cN sN (by omega) (by omega) _ _ _ _ _ _ _ _ T (lv_sub hl [1, 2, 0, 3] rfl) h
          · replace h := of_ c48 h
            refine lv_iconst (v := 0) hx hb dL_law_244 (by decide) ?_
            exact absurd (os1 h) (by decide)
        replace h := of_ c27 h
        by_cases c49 : (v2 &&& 31) = 2
        · replace h := ot_ c49 h
          refine th_tabIn (off := 213) (tgt := 246) C 2 c49 dL_law_33 (by decide) (by decide) (by decide) (by decide) ?_
          refine lv_aload_n hx hb dL_law_246 rfl (lv_at hl 0 rfl) ?_
          refine lv_aload_n hx hb dL_law_247 rfl (lv_at hl 3 rfl) ?_
          refine lv_iload_n hx hb dL_law_248 rfl (lv_at hl 2 rfl) ?_
          refine lv_iconst (v := 1) hx hb dL_law_249 (by decide) ?_
          refine lv_iadd hx hb dL_law_250 ?_
          obtain ⟨v50, e51, h⟩ := ob_ h
          refine th_sld C T hX hbl hbA e51 dL_law_251 ?_
          refine lv_aload_n hx hb dL_law_252 rfl (lv_at hl 3 rfl) ?_
          refine lv_iload_n hx hb dL_law_253 rfl (lv_at hl 2 rfl) ?_
          refine lv_iconst (v := 2) hx hb dL_law_254 (by decide) ?_
          refine lv_iadd hx hb dL_law_255 ?_
          obtain ⟨v52, e53, h⟩ := ob_ h
          refine th_sld C T hX hbl hbA e53 dL_law_256 ?_
          obtain ⟨k54, h⟩ := oc_ h
          obtain ⟨v55, μ56, e57, h⟩ := ob2 h
          refine th_callV (As := [.int v50, .int v52]) (rest := []) C T (c_X10_told e57) k_RL_22 10 rfl rfl (by decide) k54 rfl hl.1 rfl (st1 := [.int v55]) rfl (cells1 := cN) rfl (slots1 := sN) rfl (Nat.le_of_ble_eq_true rfl) ⟨Nat.le_of_ble_eq_true rfl, Nat.le_of_ble_eq_true rfl⟩ ⟨show cN + 0 ≤ 656867 by omega, show sN + 0 ≤ 7131647 by omega⟩ dL_law_257 (fun H locs T => ?_)
          refine lv_aload_n hx hb dL_law_260 rfl (lv_at hl 1 rfl) ?_
          refine lv_aload_n hx hb dL_law_261 rfl (lv_at hl 3 rfl) ?_
          refine lv_iload_n hx hb dL_law_262 rfl (lv_at hl 2 rfl) ?_
          refine lv_iconst (v := 1) hx hb dL_law_263 (by decide) ?_
          refine lv_iadd hx hb dL_law_264 ?_
          obtain ⟨v58, e59, h⟩ := ob_ h
          refine th_sld C T hX hbl hbA e59 dL_law_265 ?_
          refine lv_aload_n hx hb dL_law_266 rfl (lv_at hl 3 rfl) ?_
          refine lv_iload_n hx hb dL_law_267 rfl (lv_at hl 2 rfl) ?_
          refine lv_iconst (v := 2) hx hb dL_law_268 (by decide) ?_
          refine lv_iadd hx hb dL_law_269 ?_
          obtain ⟨v60, e61, h⟩ := ob_ h
          refine th_sld C T hX hbl hbA e61 dL_law_270 ?_
          obtain ⟨k62, h⟩ := oc_ h
          obtain ⟨v63, μ64, e65, h⟩ := ob2 h
          refine th_callV (As := [.int v58, .int v60]) (rest := [.int v55]) C T (c_X11_told e65) k_RL_26 11 rfl rfl (by decide) k62 rfl hl.1 rfl (st1 := [.int v63, .int v55]) rfl (cells1 := cN) rfl (slots1 := sN) rfl (Nat.le_of_ble_eq_true rfl) ⟨Nat.le_of_ble_eq_true rfl, Nat.le_of_ble_eq_true rfl⟩ ⟨show cN + 0 ≤ 656867 by omega, show sN + 0 ≤ 7131647 by omega⟩ dL_law_271 (fun H locs T => ?_)
          refine lv_icmp_eq (tgt := 965) hx hb dL_law_274 (by decide) (fun c66 => ?_) (fun c66 => ?_)
          · replace h := ot_ c66 h
            refine lv_iinc (v := x3 + 6) (lv' := [(3, .int (x3 + 6)), (1, .ref x1), (2, .ref x2), (0, .ref b)]) hx hb dL_law_965 hl (k := 2) rfl rfl (by decide) rfl (fun ls hl => ?_)
            refine lv_goto (tgt := 18) hx hb dL_law_968 (by decide) ?_
            exact ih18 cN sN (by omega) (by omega) _ _ _ _ _ _ _ _ T (lv_sub hl [1, 2, 0, 3] rfl) h
          · replace h := of_ c66 h
            refine lv_iconst (v := 0) hx hb dL_law_277 (by decide) ?_
            exact absurd (os1 h) (by decide)
        replace h := of_ c49 h
        by_cases c67 : (v2 &&& 31) = 3
        · replace h := ot_ c67 h
          refine th_tabIn (off := 246) (tgt := 279) C 3 c67 dL_law_33 (by decide) (by decide) (by decide) (by decide) ?_
          refine lv_aload_n hx hb dL_law_279 rfl (lv_at hl 0 rfl) ?_
          refine lv_aload_n hx hb dL_law_280 rfl (lv_at hl 3 rfl) ?_
          refine lv_iload_n hx hb dL_law_281 rfl (lv_at hl 2 rfl) ?_
          refine lv_iconst (v := 1) hx hb dL_law_282 (by decide) ?_
          refine lv_iadd hx hb dL_law_283 ?_
          obtain ⟨v68, e69, h⟩ := ob_ h
          refine th_sld C T hX hbl hbA e69 dL_law_284 ?_
          obtain ⟨k70, h⟩ := oc_ h
          obtain ⟨v71, μ72, e73, h⟩ := ob2 h
          refine th_callV (As := [.int v68]) (rest := []) C T (c_X10_feed e73) k_RL_27 10 rfl rfl (by decide) k70 rfl hl.1 rfl (st1 := [.int v71]) rfl (cells1 := cN) rfl (slots1 := sN) rfl (Nat.le_of_ble_eq_true rfl) ⟨Nat.le_of_ble_eq_true rfl, Nat.le_of_ble_eq_true rfl⟩ ⟨show cN + 0 ≤ 656867 by omega, show sN + 0 ≤ 7131647 by omega⟩ dL_law_285 (fun H locs T => ?_)
          refine lv_aload_n hx hb dL_law_288 rfl (lv_at hl 1 rfl) ?_
          refine lv_aload_n hx hb dL_law_289 rfl (lv_at hl 3 rfl) ?_
          refine lv_iload_n hx hb dL_law_290 rfl (lv_at hl 2 rfl) ?_
          refine lv_iconst (v := 1) hx hb dL_law_291 (by decide) ?_
          refine lv_iadd hx hb dL_law_292 ?_
          obtain ⟨v74, e75, h⟩ := ob_ h
          refine th_sld C T hX hbl hbA e75 dL_law_293 ?_
          obtain ⟨k76, h⟩ := oc_ h
          obtain ⟨v77, μ78, e79, h⟩ := ob2 h
          refine th_callV (As := [.int v74]) (rest := [.int v71]) C T (c_X11_feed e79) k_RL_31 11 rfl rfl (by decide) k76 rfl hl.1 rfl (st1 := [.int v77, .int v71]) rfl (cells1 := cN) rfl (slots1 := sN) rfl (Nat.le_of_ble_eq_true rfl) ⟨Nat.le_of_ble_eq_true rfl, Nat.le_of_ble_eq_true rfl⟩ ⟨show cN + 0 ≤ 656867 by omega, show sN + 0 ≤ 7131647 by omega⟩ dL_law_294 (fun H locs T => ?_)
          refine lv_icmp_eq (tgt := 965) hx hb dL_law_297 (by decide) (fun c80 => ?_) (fun c80 => ?_)
          · replace h := ot_ c80 h
            refine lv_iinc (v := x3 + 6) (lv' := [(3, .int (x3 + 6)), (1, .ref x1), (2, .ref x2), (0, .ref b)]) hx hb dL_law_965 hl (k := 2) rfl rfl (by decide) rfl (fun ls hl => ?_)
            refine lv_goto (tgt := 18) hx hb dL_law_968 (by decide) ?_
            exact ih18 cN sN (by omega) (by omega) _ _ _ _ _ _ _ _ T (lv_sub hl [1, 2, 0, 3] rfl) h
          · replace h := of_ c80 h
            refine lv_iconst (v := 0) hx hb dL_law_300 (by decide) ?_
            exact absurd (os1 h) (by decide)
        replace h := of_ c67 h
        by_cases c81 : (v2 &&& 31) = 4
        · replace h := ot_ c81 h
          refine th_tabIn (off := 269) (tgt := 302) C 4 c81 dL_law_33 (by decide) (by decide) (by decide) (by decide) ?_
          refine lv_aload_n hx hb dL_law_302 rfl (lv_at hl 0 rfl) ?_
          obtain ⟨k82, h⟩ := oc_ h
          obtain ⟨v83, σ84, μ85, e86, h⟩ := ob3 h
          refine th_callV (As := []) (rest := []) C T (c_X10_text e86) k_RL_32 10 rfl rfl (by decide) k82 rfl hl.1 rfl (st1 := [.int v83]) rfl (cells1 := cN + 4) rfl (slots1 := sN + 435) rfl (Nat.le_of_ble_eq_true rfl) ⟨Nat.le_of_ble_eq_true rfl, Nat.le_of_ble_eq_true rfl⟩ ⟨show cN + 4 ≤ 656867 by omega, show sN + 435 ≤ 7131647 by omega⟩ dL_law_303 (fun H locs T => ?_)
          refine lv_aload_n hx hb dL_law_306 rfl (lv_at hl 1 rfl) ?_
          obtain ⟨k87, h⟩ := oc_ h
          obtain ⟨v88, μ89, e90, h⟩ := ob2 h
          refine th_callV (As := []) (rest := [.int v83]) C T (c_X11_text e90) k_RL_36 11 rfl rfl (by decide) k87 rfl hl.1 rfl (st1 := [.int v88, .int v83]) rfl (cells1 := cN + 4) rfl (slots1 := sN + 435) rfl (Nat.le_of_ble_eq_true rfl) ⟨Nat.le_of_ble_eq_true rfl, Nat.le_of_ble_eq_true rfl⟩ ⟨show cN + 4 + 0 ≤ 656867 by omega, show sN + 435 + 0 ≤ 7131647 by omega⟩ dL_law_307 (fun H locs T => ?_)
          refine lv_icmp_eq (tgt := 965) hx hb dL_law_310 (by decide) (fun c91 => ?_) (fun c91 => ?_)
          · replace h := ot_ c91 h
            refine lv_iinc (v := x3 + 6) (lv' := [(3, .int (x3 + 6)), (1, .ref x1), (2, .ref x2), (0, .ref b)]) hx hb dL_law_965 hl (k := 2) rfl rfl (by decide) rfl (fun ls hl => ?_)
            refine lv_goto (tgt := 18) hx hb dL_law_968 (by decide) ?_
            exact ih18 (cN + 4) (sN + 435) (by omega) (by omega) _ _ _ _ _ _ _ _ T (lv_sub hl [1, 2, 0, 3] rfl) h
          · replace h := of_ c91 h
            refine lv_iconst (v := 0) hx hb dL_law_313 (by decide) ?_
            exact absurd (os1 h) (by decide)
        replace h := of_ c81 h
        by_cases c92 : (v2 &&& 31) = 5
        · replace h := ot_ c92 h
          refine th_tabIn (off := 282) (tgt := 315) C 5 c92 dL_law_33 (by decide) (by decide) (by decide) (by decide) ?_
          refine lv_aload_n hx hb dL_law_315 rfl (lv_at hl 0 rfl) ?_
          refine lv_aload_n hx hb dL_law_316 rfl (lv_at hl 3 rfl) ?_
          refine lv_iload_n hx hb dL_law_317 rfl (lv_at hl 2 rfl) ?_
          refine lv_iconst (v := 1) hx hb dL_law_318 (by decide) ?_
          refine lv_iadd hx hb dL_law_319 ?_
          obtain ⟨v93, e94, h⟩ := ob_ h
          refine th_sld C T hX hbl hbA e94 dL_law_320 ?_
          obtain ⟨k95, h⟩ := oc_ h
          obtain ⟨v96, μ97, e98, h⟩ := ob2 h
          refine th_callV (As := [.int v93]) (rest := []) C T (c_X10_force e98) k_RL_37 10 rfl rfl (by decide) k95 rfl hl.1 rfl (st1 := [.int v96]) rfl (cells1 := cN) rfl (slots1 := sN) rfl (Nat.le_of_ble_eq_true rfl) ⟨Nat.le_of_ble_eq_true rfl, Nat.le_of_ble_eq_true rfl⟩ ⟨show cN + 0 ≤ 656867 by omega, show sN + 0 ≤ 7131647 by omega⟩ dL_law_321 (fun H locs T => ?_)
          refine lv_aload_n hx hb dL_law_324 rfl (lv_at hl 1 rfl) ?_
          refine lv_aload_n hx hb dL_law_325 rfl (lv_at hl 3 rfl) ?_
          refine lv_iload_n hx hb dL_law_326 rfl (lv_at hl 2 rfl) ?_
          refine lv_iconst (v := 1) hx hb dL_law_327 (by decide) ?_
          refine lv_iadd hx hb dL_law_328 ?_
          obtain ⟨v99, e100, h⟩ := ob_ h
          refine th_sld C T hX hbl hbA e100 dL_law_329 ?_
          obtain ⟨k101, h⟩ := oc_ h
          obtain ⟨v102, μ103, e104, h⟩ := ob2 h
          refine th_callV (As := [.int v99]) (rest := [.int v96]) C T (c_X11_force e104) k_RL_40 11 rfl rfl (by decide) k101 rfl hl.1 rfl (st1 := [.int v102, .int v96]) rfl (cells1 := cN) rfl (slots1 := sN) rfl (Nat.le_of_ble_eq_true rfl) ⟨Nat.le_of_ble_eq_true rfl, Nat.le_of_ble_eq_true rfl⟩ ⟨show cN + 0 ≤ 656867 by omega, show sN + 0 ≤ 7131647 by omega⟩ dL_law_330 (fun H locs T => ?_)
          refine lv_icmp_eq (tgt := 965) hx hb dL_law_333 (by decide) (fun c105 => ?_) (fun c105 => ?_)
          · replace h := ot_ c105 h
            refine lv_iinc (v := x3 + 6) (lv' := [(3, .int (x3 + 6)), (1, .ref x1), (2, .ref x2), (0, .ref b)]) hx hb dL_law_965 hl (k := 2) rfl rfl (by decide) rfl (fun ls hl => ?_)
            refine lv_goto (tgt := 18) hx hb dL_law_968 (by decide) ?_
            exact ih18 cN sN (by omega) (by omega) _ _ _ _ _ _ _ _ T (lv_sub hl [1, 2, 0, 3] rfl) h
          · replace h := of_ c105 h
            refine lv_iconst (v := 0) hx hb dL_law_336 (by decide) ?_
            exact absurd (os1 h) (by decide)
        replace h := of_ c92 h
        by_cases c106 : (v2 &&& 31) = 6
        · replace h := ot_ c106 h
          refine th_tabIn (off := 305) (tgt := 338) C 6 c106 dL_law_33 (by decide) (by decide) (by decide) (by decide) ?_
          refine lv_aload_n hx hb dL_law_338 rfl (lv_at hl 0 rfl) ?_
          refine lv_aload_n hx hb dL_law_339 rfl (lv_at hl 3 rfl) ?_
          refine lv_iload_n hx hb dL_law_340 rfl (lv_at hl 2 rfl) ?_
          refine lv_iconst (v := 1) hx hb dL_law_341 (by decide) ?_
          refine lv_iadd hx hb dL_law_342 ?_
          obtain ⟨v107, e108, h⟩ := ob_ h
          refine th_sld C T hX hbl hbA e108 dL_law_343 ?_
          obtain ⟨k109, h⟩ := oc_ h
          obtain ⟨v110, μ111, e112, h⟩ := ob2 h
          refine th_callV (As := [.int v107]) (rest := []) C T (c_X10_call e112) k_RL_41 10 rfl rfl (by decide) k109 rfl hl.1 rfl (st1 := [.int v110]) rfl (cells1 := cN) rfl (slots1 := sN) rfl (Nat.le_of_ble_eq_true rfl) ⟨Nat.le_of_ble_eq_true rfl, Nat.le_of_ble_eq_true rfl⟩ ⟨show cN + 0 ≤ 656867 by omega, show sN + 0 ≤ 7131647 by omega⟩ dL_law_344 (fun H locs T => ?_)
          refine lv_aload_n hx hb dL_law_347 rfl (lv_at hl 1 rfl) ?_
          refine lv_aload_n hx hb dL_law_348 rfl (lv_at hl 3 rfl) ?_
          refine lv_iload_n hx hb dL_law_349 rfl (lv_at hl 2 rfl) ?_
          refine lv_iconst (v := 1) hx hb dL_law_350 (by decide) ?_
          refine lv_iadd hx hb dL_law_351 ?_
          obtain ⟨v113, e114, h⟩ := ob_ h
          refine th_sld C T hX hbl hbA e114 dL_law_352 ?_
          obtain ⟨k115, h⟩ := oc_ h
          obtain ⟨v116, μ117, e118, h⟩ := ob2 h
          refine th_callV (As := [.int v113]) (rest := [.int v110]) C T (c_X11_call e118) k_RL_44 11 rfl rfl (by decide) k115 rfl hl.1 rfl (st1 := [.int v116, .int v110]) rfl (cells1 := cN) rfl (slots1 := sN) rfl (Nat.le_of_ble_eq_true rfl) ⟨Nat.le_of_ble_eq_true rfl, Nat.le_of_ble_eq_true rfl⟩ ⟨show cN + 0 ≤ 656867 by omega, show sN + 0 ≤ 7131647 by omega⟩ dL_law_353 (fun H locs T => ?_)
          refine lv_icmp_eq (tgt := 965) hx hb dL_law_356 (by decide) (fun c119 => ?_) (fun c119 => ?_)
          · replace h := ot_ c119 h
            refine lv_iinc (v := x3 + 6) (lv' := [(3, .int (x3 + 6)), (1, .ref x1), (2, .ref x2), (0, .ref b)]) hx hb dL_law_965 hl (k := 2) rfl rfl (by decide) rfl (fun ls hl => ?_)
            refine lv_goto (tgt := 18) hx hb dL_law_968 (by decide) ?_
            exact ih18 cN sN (by omega) (by omega) _ _ _ _ _ _ _ _ T (lv_sub hl [1, 2, 0, 3] rfl) h
          · replace h := of_ c119 h
            refine lv_iconst (v := 0) hx hb dL_law_359 (by decide) ?_
            exact absurd (os1 h) (by decide)
        replace h := of_ c106 h
        by_cases c120 : (v2 &&& 31) = 7
        · replace h := ot_ c120 h
          refine th_tabIn (off := 328) (tgt := 361) C 7 c120 dL_law_33 (by decide) (by decide) (by decide) (by decide) ?_
          refine lv_aload_n hx hb dL_law_361 rfl (lv_at hl 0 rfl) ?_
          refine lv_aload_n hx hb dL_law_362 rfl (lv_at hl 3 rfl) ?_
          refine lv_iload_n hx hb dL_law_363 rfl (lv_at hl 2 rfl) ?_
          refine lv_iconst (v := 1) hx hb dL_law_364 (by decide) ?_
          refine lv_iadd hx hb dL_law_365 ?_
          obtain ⟨v121, e122, h⟩ := ob_ h
          refine th_sld C T hX hbl hbA e122 dL_law_366 ?_
          obtain ⟨k123, h⟩ := oc_ h
          obtain ⟨v124, μ125, e126, h⟩ := ob2 h
          refine th_callV (As := [.int v121]) (rest := []) C T (c_X10_time e126) k_RL_45 10 rfl rfl (by decide) k123 rfl hl.1 rfl (st1 := [.int v124]) rfl (cells1 := cN) rfl (slots1 := sN) rfl (Nat.le_of_ble_eq_true rfl) ⟨Nat.le_of_ble_eq_true rfl, Nat.le_of_ble_eq_true rfl⟩ ⟨show cN + 0 ≤ 656867 by omega, show sN + 0 ≤ 7131647 by omega⟩ dL_law_367 (fun H locs T => ?_)
          refine lv_aload_n hx hb dL_law_370 rfl (lv_at hl 1 rfl) ?_
          refine lv_aload_n hx hb dL_law_371 rfl (lv_at hl 3 rfl) ?_
          refine lv_iload_n hx hb dL_law_372 rfl (lv_at hl 2 rfl) ?_
          refine lv_iconst (v := 1) hx hb dL_law_373 (by decide) ?_
          refine lv_iadd hx hb dL_law_374 ?_
          obtain ⟨v127, e128, h⟩ := ob_ h
          refine th_sld C T hX hbl hbA e128 dL_law_375 ?_
          obtain ⟨k129, h⟩ := oc_ h
          obtain ⟨v130, μ131, e132, h⟩ := ob2 h
          refine th_callV (As := [.int v127]) (rest := [.int v124]) C T (c_X11_time e132) k_RL_48 11 rfl rfl (by decide) k129 rfl hl.1 rfl (st1 := [.int v130, .int v124]) rfl (cells1 := cN) rfl (slots1 := sN) rfl (Nat.le_of_ble_eq_true rfl) ⟨Nat.le_of_ble_eq_true rfl, Nat.le_of_ble_eq_true rfl⟩ ⟨show cN + 0 ≤ 656867 by omega, show sN + 0 ≤ 7131647 by omega⟩ dL_law_376 (fun H locs T => ?_)
          refine lv_icmp_eq (tgt := 965) hx hb dL_law_379 (by decide) (fun c133 => ?_) (fun c133 => ?_)
          · replace h := ot_ c133 h
            refine lv_iinc (v := x3 + 6) (lv' := [(3, .int (x3 + 6)), (1, .ref x1), (2, .ref x2), (0, .ref b)]) hx hb dL_law_965 hl (k := 2) rfl rfl (by decide) rfl (fun ls hl => ?_)
            refine lv_goto (tgt := 18) hx hb dL_law_968 (by decide) ?_
            exact ih18 cN sN (by omega) (by omega) _ _ _ _ _ _ _ _ T (lv_sub hl [1, 2, 0, 3] rfl) h
          · replace h := of_ c133 h
            refine lv_iconst (v := 0) hx hb dL_law_382 (by decide) ?_
            exact absurd (os1 h) (by decide)
        replace h := of_ c120 h
        by_cases c134 : (v2 &&& 31) = 8
        · replace h := ot_ c134 h
          refine th_tabIn (off := 351) (tgt := 384) C 8 c134 dL_law_33 (by decide) (by decide) (by decide) (by decide) ?_
          refine lv_aload_n hx hb dL_law_384 rfl (lv_at hl 0 rfl) ?_
          obtain ⟨k135, h⟩ := oc_ h
          obtain ⟨v136, μ137, e138, h⟩ := ob2 h
          refine th_callV (As := []) (rest := []) C T (c_X10_nobody e138) k_RL_49 10 rfl rfl (by decide) k135 rfl hl.1 rfl (st1 := [.int v136]) rfl (cells1 := cN) rfl (slots1 := sN) rfl (Nat.le_of_ble_eq_true rfl) ⟨Nat.le_of_ble_eq_true rfl, Nat.le_of_ble_eq_true rfl⟩ ⟨show cN + 0 ≤ 656867 by omega, show sN + 0 ≤ 7131647 by omega⟩ dL_law_385 (fun H locs T => ?_)
          refine lv_aload_n hx hb dL_law_388 rfl (lv_at hl 1 rfl) ?_
          obtain ⟨k139, h⟩ := oc_ h
          obtain ⟨v140, μ141, e142, h⟩ := ob2 h
          refine th_callV (As := []) (rest := [.int v136]) C T (c_X11_nobody e142) k_RL_52 11 rfl rfl (by decide) k139 rfl hl.1 rfl (st1 := [.int v140, .int v136]) rfl (cells1 := cN) rfl (slots1 := sN) rfl (Nat.le_of_ble_eq_true rfl) ⟨Nat.le_of_ble_eq_true rfl, Nat.le_of_ble_eq_true rfl⟩ ⟨show cN + 0 ≤ 656867 by omega, show sN + 0 ≤ 7131647 by omega⟩ dL_law_389 (fun H locs T => ?_)
          refine lv_icmp_eq (tgt := 965) hx hb dL_law_392 (by decide) (fun c143 => ?_) (fun c143 => ?_)
          · replace h := ot_ c143 h
            refine lv_iinc (v := x3 + 6) (lv' := [(3, .int (x3 + 6)), (1, .ref x1), (2, .ref x2), (0, .ref b)]) hx hb dL_law_965 hl (k := 2) rfl rfl (by decide) rfl (fun ls hl => ?_)
            refine lv_goto (tgt := 18) hx hb dL_law_968 (by decide) ?_
            exact ih18 cN sN (by omega) (by omega) _ _ _ _ _ _ _ _ T (lv_sub hl [1, 2, 0, 3] rfl) h
          · replace h := of_ c143 h
            refine lv_iconst (v := 0) hx hb dL_law_395 (by decide) ?_
            exact absurd (os1 h) (by decide)
        replace h := of_ c134 h
        by_cases c144 : (v2 &&& 31) = 9
        · replace h := ot_ c144 h
          refine th_tabIn (off := 364) (tgt := 397) C 9 c144 dL_law_33 (by decide) (by decide) (by decide) (by decide) ?_
          refine lv_aload_n hx hb dL_law_397 rfl (lv_at hl 0 rfl) ?_
          refine lv_aload_n hx hb dL_law_398 rfl (lv_at hl 3 rfl) ?_
          refine lv_iload_n hx hb dL_law_399 rfl (lv_at hl 2 rfl) ?_
          refine lv_iconst (v := 1) hx hb dL_law_400 (by decide) ?_
          refine lv_iadd hx hb dL_law_401 ?_
          obtain ⟨v145, e146, h⟩ := ob_ h
          refine th_sld C T hX hbl hbA e146 dL_law_402 ?_
          obtain ⟨k147, h⟩ := oc_ h
          obtain ⟨v148, μ149, e150, h⟩ := ob2 h
          refine th_callV (As := [.int v145]) (rest := []) C T (c_X10_callAt e150) k_RL_53 10 rfl rfl (by decide) k147 rfl hl.1 rfl (st1 := [.int v148]) rfl (cells1 := cN) rfl (slots1 := sN) rfl (Nat.le_of_ble_eq_true rfl) ⟨Nat.le_of_ble_eq_true rfl, Nat.le_of_ble_eq_true rfl⟩ ⟨show cN + 0 ≤ 656867 by omega, show sN + 0 ≤ 7131647 by omega⟩ dL_law_403 (fun H locs T => ?_)
          refine lv_aload_n hx hb dL_law_406 rfl (lv_at hl 1 rfl) ?_
          refine lv_aload_n hx hb dL_law_407 rfl (lv_at hl 3 rfl) ?_
          refine lv_iload_n hx hb dL_law_408 rfl (lv_at hl 2 rfl) ?_
          refine lv_iconst (v := 1) hx hb dL_law_409 (by decide) ?_
          refine lv_iadd hx hb dL_law_410 ?_
          obtain ⟨v151, e152, h⟩ := ob_ h
          refine th_sld C T hX hbl hbA e152 dL_law_411 ?_
          obtain ⟨k153, h⟩ := oc_ h
          obtain ⟨v154, μ155, e156, h⟩ := ob2 h
          refine th_callV (As := [.int v151]) (rest := [.int v148]) C T (c_X11_callAt e156) k_RL_56 11 rfl rfl (by decide) k153 rfl hl.1 rfl (st1 := [.int v154, .int v148]) rfl (cells1 := cN) rfl (slots1 := sN) rfl (Nat.le_of_ble_eq_true rfl) ⟨Nat.le_of_ble_eq_true rfl, Nat.le_of_ble_eq_true rfl⟩ ⟨show cN + 0 ≤ 656867 by omega, show sN + 0 ≤ 7131647 by omega⟩ dL_law_412 (fun H locs T => ?_)
          refine lv_icmp_eq (tgt := 965) hx hb dL_law_415 (by decide) (fun c157 => ?_) (fun c157 => ?_)
          · replace h := ot_ c157 h
            refine lv_iinc (v := x3 + 6) (lv' := [(3, .int (x3 + 6)), (1, .ref x1), (2, .ref x2), (0, .ref b)]) hx hb dL_law_965 hl (k := 2) rfl rfl (by decide) rfl (fun ls hl => ?_)
            refine lv_goto (tgt := 18) hx hb dL_law_968 (by decide) ?_
            exact ih18 cN sN (by omega) (by omega) _ _ _ _ _ _ _ _ T (lv_sub hl [1, 2, 0, 3] rfl) h
          · replace h := of_ c157 h
            refine lv_iconst (v := 0) hx hb dL_law_418 (by decide) ?_
            exact absurd (os1 h) (by decide)
        replace h := of_ c144 h
        by_cases c158 : (v2 &&& 31) = 10
        · replace h := ot_ c158 h
          refine th_tabIn (off := 387) (tgt := 420) C 10 c158 dL_law_33 (by decide) (by decide) (by decide) (by decide) ?_
          refine lv_aload_n hx hb dL_law_420 rfl (lv_at hl 0 rfl) ?_
          obtain ⟨k159, h⟩ := oc_ h
          obtain ⟨v160, μ161, e162, h⟩ := ob2 h
          refine th_callV (As := []) (rest := []) C T (c_X10_allIn e162) k_RL_57 10 rfl rfl (by decide) k159 rfl hl.1 rfl (st1 := [.int v160]) rfl (cells1 := cN) rfl (slots1 := sN) rfl (Nat.le_of_ble_eq_true rfl) ⟨Nat.le_of_ble_eq_true rfl, Nat.le_of_ble_eq_true rfl⟩ ⟨show cN + 0 ≤ 656867 by omega, show sN + 0 ≤ 7131647 by omega⟩ dL_law_421 (fun H locs T => ?_)
          refine lv_aload_n hx hb dL_law_424 rfl (lv_at hl 1 rfl) ?_
          obtain ⟨k163, h⟩ := oc_ h
          obtain ⟨v164, μ165, e166, h⟩ := ob2 h
          refine th_callV (As := []) (rest := [.int v160]) C T (c_X11_allIn e166) k_RL_60 11 rfl rfl (by decide) k163 rfl hl.1 rfl (st1 := [.int v164, .int v160]) rfl (cells1 := cN) rfl (slots1 := sN) rfl (Nat.le_of_ble_eq_true rfl) ⟨Nat.le_of_ble_eq_true rfl, Nat.le_of_ble_eq_true rfl⟩ ⟨show cN + 0 ≤ 656867 by omega, show sN + 0 ≤ 7131647 by omega⟩ dL_law_425 (fun H locs T => ?_)
          refine lv_icmp_eq (tgt := 965) hx hb dL_law_428 (by decide) (fun c167 => ?_) (fun c167 => ?_)
          · replace h := ot_ c167 h
            refine lv_iinc (v := x3 + 6) (lv' := [(3, .int (x3 + 6)), (1, .ref x1), (2, .ref x2), (0, .ref b)]) hx hb dL_law_965 hl (k := 2) rfl rfl (by decide) rfl (fun ls hl => ?_)
            refine lv_goto (tgt := 18) hx hb dL_law_968 (by decide) ?_
            exact ih18 cN sN (by omega) (by omega) _ _ _ _ _ _ _ _ T (lv_sub hl [1, 2, 0, 3] rfl) h
          · replace h := of_ c167 h
            refine lv_iconst (v := 0) hx hb dL_law_431 (by decide) ?_
            exact absurd (os1 h) (by decide)
        replace h := of_ c158 h
        by_cases c168 : (v2 &&& 31) = 11
        · replace h := ot_ c168 h
          refine th_tabIn (off := 400) (tgt := 433) C 11 c168 dL_law_33 (by decide) (by decide) (by decide) (by decide) ?_
          refine lv_aload_n hx hb dL_law_433 rfl (lv_at hl 0 rfl) ?_
          refine lv_aload_n hx hb dL_law_434 rfl (lv_at hl 3 rfl) ?_
          refine lv_iload_n hx hb dL_law_435 rfl (lv_at hl 2 rfl) ?_
          refine lv_iconst (v := 1) hx hb dL_law_436 (by decide) ?_
          refine lv_iadd hx hb dL_law_437 ?_
          obtain ⟨v169, e170, h⟩ := ob_ h
          refine th_sld C T hX hbl hbA e170 dL_law_438 ?_
          refine lv_aload_n hx hb dL_law_439 rfl (lv_at hl 3 rfl) ?_
          refine lv_iload_n hx hb dL_law_440 rfl (lv_at hl 2 rfl) ?_
          refine lv_iconst (v := 2) hx hb dL_law_441 (by decide) ?_
          refine lv_iadd hx hb dL_law_442 ?_
          obtain ⟨v171, e172, h⟩ := ob_ h
          refine th_sld C T hX hbl hbA e172 dL_law_443 ?_
          obtain ⟨k173, h⟩ := oc_ h
          obtain ⟨v174, μ175, e176, h⟩ := ob2 h
          refine th_callV (As := [.int v169, .int v171]) (rest := []) C T (c_X10_fetch e176) k_RL_61 10 rfl rfl (by decide) k173 rfl hl.1 rfl (st1 := [.int v174]) rfl (cells1 := cN) rfl (slots1 := sN) rfl (Nat.le_of_ble_eq_true rfl) ⟨Nat.le_of_ble_eq_true rfl, Nat.le_of_ble_eq_true rfl⟩ ⟨show cN + 0 ≤ 656867 by omega, show sN + 0 ≤ 7131647 by omega⟩ dL_law_444 (fun H locs T => ?_)
          refine lv_aload_n hx hb dL_law_447 rfl (lv_at hl 1 rfl) ?_
          refine lv_aload_n hx hb dL_law_448 rfl (lv_at hl 3 rfl) ?_
          refine lv_iload_n hx hb dL_law_449 rfl (lv_at hl 2 rfl) ?_
          refine lv_iconst (v := 1) hx hb dL_law_450 (by decide) ?_
          refine lv_iadd hx hb dL_law_451 ?_
          obtain ⟨v177, e178, h⟩ := ob_ h
          refine th_sld C T hX hbl hbA e178 dL_law_452 ?_
          refine lv_aload_n hx hb dL_law_453 rfl (lv_at hl 3 rfl) ?_
          refine lv_iload_n hx hb dL_law_454 rfl (lv_at hl 2 rfl) ?_
          refine lv_iconst (v := 2) hx hb dL_law_455 (by decide) ?_
          refine lv_iadd hx hb dL_law_456 ?_
          obtain ⟨v179, e180, h⟩ := ob_ h
          refine th_sld C T hX hbl hbA e180 dL_law_457 ?_
          obtain ⟨k181, h⟩ := oc_ h
          obtain ⟨v182, μ183, e184, h⟩ := ob2 h
          refine th_callV (As := [.int v177, .int v179]) (rest := [.int v174]) C T (c_X11_fetch e184) k_RL_64 11 rfl rfl (by decide) k181 rfl hl.1 rfl (st1 := [.int v182, .int v174]) rfl (cells1 := cN) rfl (slots1 := sN) rfl (Nat.le_of_ble_eq_true rfl) ⟨Nat.le_of_ble_eq_true rfl, Nat.le_of_ble_eq_true rfl⟩ ⟨show cN + 0 ≤ 656867 by omega, show sN + 0 ≤ 7131647 by omega⟩ dL_law_458 (fun H locs T => ?_)
          refine lv_icmp_eq (tgt := 965) hx hb dL_law_461 (by decide) (fun c185 => ?_) (fun c185 => ?_)
          · replace h := ot_ c185 h
            refine lv_iinc (v := x3 + 6) (lv' := [(3, .int (x3 + 6)), (1, .ref x1), (2, .ref x2), (0, .ref b)]) hx hb dL_law_965 hl (k := 2) rfl rfl (by decide) rfl (fun ls hl => ?_)
            refine lv_goto (tgt := 18) hx hb dL_law_968 (by decide) ?_
            exact ih18 cN sN (by omega) (by omega) _ _ _ _ _ _ _ _ T (lv_sub hl [1, 2, 0, 3] rfl) h
          · replace h := of_ c185 h
            refine lv_iconst (v := 0) hx hb dL_law_464 (by decide) ?_
            exact absurd (os1 h) (by decide)
        replace h := of_ c168 h
        by_cases c186 : (v2 &&& 31) = 12
        · replace h := ot_ c186 h
          refine th_tabIn (off := 433) (tgt := 466) C 12 c186 dL_law_33 (by decide) (by decide) (by decide) (by decide) ?_
          refine lv_aload_n hx hb dL_law_466 rfl (lv_at hl 0 rfl) ?_
          refine lv_aload_n hx hb dL_law_467 rfl (lv_at hl 3 rfl) ?_
          refine lv_iload_n hx hb dL_law_468 rfl (lv_at hl 2 rfl) ?_
          refine lv_iconst (v := 1) hx hb dL_law_469 (by decide) ?_
          refine lv_iadd hx hb dL_law_470 ?_
          obtain ⟨v187, e188, h⟩ := ob_ h
          refine th_sld C T hX hbl hbA e188 dL_law_471 ?_
          obtain ⟨k189, h⟩ := oc_ h
          obtain ⟨v190, μ191, e192, h⟩ := ob2 h
          refine th_callV (As := [.int v187]) (rest := []) C T (c_X10_launch e192) k_RL_65 10 rfl rfl (by decide) k189 rfl hl.1 rfl (st1 := [.int v190]) rfl (cells1 := cN) rfl (slots1 := sN) rfl (Nat.le_of_ble_eq_true rfl) ⟨Nat.le_of_ble_eq_true rfl, Nat.le_of_ble_eq_true rfl⟩ ⟨show cN + 0 ≤ 656867 by omega, show sN + 0 ≤ 7131647 by omega⟩ dL_law_472 (fun H locs T => ?_)
          refine lv_aload_n hx hb dL_law_475 rfl (lv_at hl 1 rfl) ?_
          refine lv_aload_n hx hb dL_law_476 rfl (lv_at hl 3 rfl) ?_
          refine lv_iload_n hx hb dL_law_477 rfl (lv_at hl 2 rfl) ?_
          refine lv_iconst (v := 1) hx hb dL_law_478 (by decide) ?_
          refine lv_iadd hx hb dL_law_479 ?_
          obtain ⟨v193, e194, h⟩ := ob_ h
          refine th_sld C T hX hbl hbA e194 dL_law_480 ?_
          obtain ⟨k195, h⟩ := oc_ h
          obtain ⟨v196, μ197, e198, h⟩ := ob2 h
          refine th_callV (As := [.int v193]) (rest := [.int v190]) C T (c_X11_launch e198) k_RL_68 11 rfl rfl (by decide) k195 rfl hl.1 rfl (st1 := [.int v196, .int v190]) rfl (cells1 := cN) rfl (slots1 := sN) rfl (Nat.le_of_ble_eq_true rfl) ⟨Nat.le_of_ble_eq_true rfl, Nat.le_of_ble_eq_true rfl⟩ ⟨show cN + 0 ≤ 656867 by omega, show sN + 0 ≤ 7131647 by omega⟩ dL_law_481 (fun H locs T => ?_)
          refine lv_icmp_eq (tgt := 965) hx hb dL_law_484 (by decide) (fun c199 => ?_) (fun c199 => ?_)
          · replace h := ot_ c199 h
            refine lv_iinc (v := x3 + 6) (lv' := [(3, .int (x3 + 6)), (1, .ref x1), (2, .ref x2), (0, .ref b)]) hx hb dL_law_965 hl (k := 2) rfl rfl (by decide) rfl (fun ls hl => ?_)
            refine lv_goto (tgt := 18) hx hb dL_law_968 (by decide) ?_
            exact ih18 cN sN (by omega) (by omega) _ _ _ _ _ _ _ _ T (lv_sub hl [1, 2, 0, 3] rfl) h
          · replace h := of_ c199 h
            refine lv_iconst (v := 0) hx hb dL_law_487 (by decide) ?_
            exact absurd (os1 h) (by decide)
        replace h := of_ c186 h
        by_cases c200 : (v2 &&& 31) = 13
        · replace h := ot_ c200 h
          refine th_tabIn (off := 456) (tgt := 489) C 13 c200 dL_law_33 (by decide) (by decide) (by decide) (by decide) ?_
          refine lv_aload_n hx hb dL_law_489 rfl (lv_at hl 0 rfl) ?_
          refine lv_aload_n hx hb dL_law_490 rfl (lv_at hl 3 rfl) ?_
          refine lv_iload_n hx hb dL_law_491 rfl (lv_at hl 2 rfl) ?_
          refine lv_iconst (v := 1) hx hb dL_law_492 (by decide) ?_
          refine lv_iadd hx hb dL_law_493 ?_
          obtain ⟨v201, e202, h⟩ := ob_ h
          refine th_sld C T hX hbl hbA e202 dL_law_494 ?_
          obtain ⟨k203, h⟩ := oc_ h
          obtain ⟨v204, μ205, e206, h⟩ := ob2 h
          refine th_callV (As := [.int v201]) (rest := []) C T (c_X10_one e206) k_RL_69 10 rfl rfl (by decide) k203 rfl hl.1 rfl (st1 := [.int v204]) rfl (cells1 := cN) rfl (slots1 := sN) rfl (Nat.le_of_ble_eq_true rfl) ⟨Nat.le_of_ble_eq_true rfl, Nat.le_of_ble_eq_true rfl⟩ ⟨show cN + 0 ≤ 656867 by omega, show sN + 0 ≤ 7131647 by omega⟩ dL_law_495 (fun H locs T => ?_)
          refine lv_aload_n hx hb dL_law_498 rfl (lv_at hl 1 rfl) ?_
          refine lv_aload_n hx hb dL_law_499 rfl (lv_at hl 3 rfl) ?_
          refine lv_iload_n hx hb dL_law_500 rfl (lv_at hl 2 rfl) ?_
          refine lv_iconst (v := 1) hx hb dL_law_501 (by decide) ?_
          refine lv_iadd hx hb dL_law_502 ?_
          obtain ⟨v207, e208, h⟩ := ob_ h
          refine th_sld C T hX hbl hbA e208 dL_law_503 ?_
          obtain ⟨k209, h⟩ := oc_ h
          obtain ⟨v210, μ211, e212, h⟩ := ob2 h
          refine th_callV (As := [.int v207]) (rest := [.int v204]) C T (c_X11_one_ e212) k_RL_72 11 rfl rfl (by decide) k209 rfl hl.1 rfl (st1 := [.int v210, .int v204]) rfl (cells1 := cN) rfl (slots1 := sN) rfl (Nat.le_of_ble_eq_true rfl) ⟨Nat.le_of_ble_eq_true rfl, Nat.le_of_ble_eq_true rfl⟩ ⟨show cN + 0 ≤ 656867 by omega, show sN + 0 ≤ 7131647 by omega⟩ dL_law_504 (fun H locs T => ?_)
          refine lv_icmp_eq (tgt := 965) hx hb dL_law_507 (by decide) (fun c213 => ?_) (fun c213 => ?_)
          · replace h := ot_ c213 h
            refine lv_iinc (v := x3 + 6) (lv' := [(3, .int (x3 + 6)), (1, .ref x1), (2, .ref x2), (0, .ref b)]) hx hb dL_law_965 hl (k := 2) rfl rfl (by decide) rfl (fun ls hl => ?_)
            refine lv_goto (tgt := 18) hx hb dL_law_968 (by decide) ?_
            exact ih18 cN sN (by omega) (by omega) _ _ _ _ _ _ _ _ T (lv_sub hl [1, 2, 0, 3] rfl) h
          · replace h := of_ c213 h
            refine lv_iconst (v := 0) hx hb dL_law_510 (by decide) ?_
            exact absurd (os1 h) (by decide)
        replace h := of_ c200 h
        by_cases c214 : (v2 &&& 31) = 14
        · replace h := ot_ c214 h
          refine th_tabIn (off := 479) (tgt := 512) C 14 c214 dL_law_33 (by decide) (by decide) (by decide) (by decide) ?_
          refine lv_aload_n hx hb dL_law_512 rfl (lv_at hl 0 rfl) ?_
          refine lv_aload_n hx hb dL_law_513 rfl (lv_at hl 3 rfl) ?_
          refine lv_iload_n hx hb dL_law_514 rfl (lv_at hl 2 rfl) ?_
          refine lv_iconst (v := 1) hx hb dL_law_515 (by decide) ?_
          refine lv_iadd hx hb dL_law_516 ?_
          obtain ⟨v215, e216, h⟩ := ob_ h
          refine th_sld C T hX hbl hbA e216 dL_law_517 ?_
          refine lv_aload_n hx hb dL_law_518 rfl (lv_at hl 3 rfl) ?_
          refine lv_iload_n hx hb dL_law_519 rfl (lv_at hl 2 rfl) ?_
          refine lv_iconst (v := 2) hx hb dL_law_520 (by decide) ?_
          refine lv_iadd hx hb dL_law_521 ?_
          obtain ⟨v217, e218, h⟩ := ob_ h
          refine th_sld C T hX hbl hbA e218 dL_law_522 ?_
          obtain ⟨k219, h⟩ := oc_ h
          obtain ⟨v220, μ221, e222, h⟩ := ob2 h
          refine th_callV (As := [.int v215, .int v217]) (rest := []) C T (c_X10_thunder e222) k_RL_73 10 rfl rfl (by decide) k219 rfl hl.1 rfl (st1 := [.int v220]) rfl (cells1 := cN) rfl (slots1 := sN) rfl (Nat.le_of_ble_eq_true rfl) ⟨Nat.le_of_ble_eq_true rfl, Nat.le_of_ble_eq_true rfl⟩ ⟨show cN + 0 ≤ 656867 by omega, show sN + 0 ≤ 7131647 by omega⟩ dL_law_523 (fun H locs T => ?_)
          refine lv_aload_n hx hb dL_law_526 rfl (lv_at hl 1 rfl) ?_
          refine lv_aload_n hx hb dL_law_527 rfl (lv_at hl 3 rfl) ?_
          refine lv_iload_n hx hb dL_law_528 rfl (lv_at hl 2 rfl) ?_
          refine lv_iconst (v := 1) hx hb dL_law_529 (by decide) ?_
          refine lv_iadd hx hb dL_law_530 ?_
          obtain ⟨v223, e224, h⟩ := ob_ h
          refine th_sld C T hX hbl hbA e224 dL_law_531 ?_
          refine lv_aload_n hx hb dL_law_532 rfl (lv_at hl 3 rfl) ?_
          refine lv_iload_n hx hb dL_law_533 rfl (lv_at hl 2 rfl) ?_
          refine lv_iconst (v := 2) hx hb dL_law_534 (by decide) ?_
          refine lv_iadd hx hb dL_law_535 ?_
          obtain ⟨v225, e226, h⟩ := ob_ h
          refine th_sld C T hX hbl hbA e226 dL_law_536 ?_
          obtain ⟨k227, h⟩ := oc_ h
          obtain ⟨v228, μ229, e230, h⟩ := ob2 h
          refine th_callV (As := [.int v223, .int v225]) (rest := [.int v220]) C T (c_X11_thunder e230) k_RL_76 11 rfl rfl (by decide) k227 rfl hl.1 rfl (st1 := [.int v228, .int v220]) rfl (cells1 := cN) rfl (slots1 := sN) rfl (Nat.le_of_ble_eq_true rfl) ⟨Nat.le_of_ble_eq_true rfl, Nat.le_of_ble_eq_true rfl⟩ ⟨show cN + 0 ≤ 656867 by omega, show sN + 0 ≤ 7131647 by omega⟩ dL_law_537 (fun H locs T => ?_)
          refine lv_icmp_eq (tgt := 965) hx hb dL_law_540 (by decide) (fun c231 => ?_) (fun c231 => ?_)
          · replace h := ot_ c231 h
            refine lv_iinc (v := x3 + 6) (lv' := [(3, .int (x3 + 6)), (1, .ref x1), (2, .ref x2), (0, .ref b)]) hx hb dL_law_965 hl (k := 2) rfl rfl (by decide) rfl (fun ls hl => ?_)
            refine lv_goto (tgt := 18) hx hb dL_law_968 (by decide) ?_
            exact ih18 cN sN (by omega) (by omega) _ _ _ _ _ _ _ _ T (lv_sub hl [1, 2, 0, 3] rfl) h
          · replace h := of_ c231 h
            refine lv_iconst (v := 0) hx hb dL_law_543 (by decide) ?_
            exact absurd (os1 h) (by decide)
        replace h := of_ c214 h
        by_cases c232 : (v2 &&& 31) = 15
        · replace h := ot_ c232 h
          refine th_tabIn (off := 512) (tgt := 545) C 15 c232 dL_law_33 (by decide) (by decide) (by decide) (by decide) ?_
          refine lv_aload_n hx hb dL_law_545 rfl (lv_at hl 0 rfl) ?_
          obtain ⟨k233, h⟩ := oc_ h
          obtain ⟨v234, μ235, e236, h⟩ := ob2 h
          refine th_callV (As := []) (rest := []) C T (c_X10_stand e236) k_RL_77 10 rfl rfl (by decide) k233 rfl hl.1 rfl (st1 := [.int v234]) rfl (cells1 := cN) rfl (slots1 := sN) rfl (Nat.le_of_ble_eq_true rfl) ⟨Nat.le_of_ble_eq_true rfl, Nat.le_of_ble_eq_true rfl⟩ ⟨show cN + 0 ≤ 656867 by omega, show sN + 0 ≤ 7131647 by omega⟩ dL_law_546 (fun H locs T => ?_)
          refine lv_aload_n hx hb dL_law_549 rfl (lv_at hl 1 rfl) ?_
          obtain ⟨k237, h⟩ := oc_ h
          obtain ⟨v238, μ239, e240, h⟩ := ob2 h
          refine th_callV (As := []) (rest := [.int v234]) C T (c_X11_stand e240) k_RL_80 11 rfl rfl (by decide) k237 rfl hl.1 rfl (st1 := [.int v238, .int v234]) rfl (cells1 := cN) rfl (slots1 := sN) rfl (Nat.le_of_ble_eq_true rfl) ⟨Nat.le_of_ble_eq_true rfl, Nat.le_of_ble_eq_true rfl⟩ ⟨show cN + 0 ≤ 656867 by omega, show sN + 0 ≤ 7131647 by omega⟩ dL_law_550 (fun H locs T => ?_)
          refine lv_icmp_eq (tgt := 965) hx hb dL_law_553 (by decide) (fun c241 => ?_) (fun c241 => ?_)
          · replace h := ot_ c241 h
            refine lv_iinc (v := x3 + 6) (lv' := [(3, .int (x3 + 6)), (1, .ref x1), (2, .ref x2), (0, .ref b)]) hx hb dL_law_965 hl (k := 2) rfl rfl (by decide) rfl (fun ls hl => ?_)
            refine lv_goto (tgt := 18) hx hb dL_law_968 (by decide) ?_
            exact ih18 cN sN (by omega) (by omega) _ _ _ _ _ _ _ _ T (lv_sub hl [1, 2, 0, 3] rfl) h
          · replace h := of_ c241 h
            refine lv_iconst (v := 0) hx hb dL_law_556 (by decide) ?_
            exact absurd (os1 h) (by decide)
        replace h := of_ c232 h
        by_cases c242 : (v2 &&& 31) = 16
        · replace h := ot_ c242 h
          refine th_tabIn (off := 525) (tgt := 558) C 16 c242 dL_law_33 (by decide) (by decide) (by decide) (by decide) ?_
          refine lv_aload_n hx hb dL_law_558 rfl (lv_at hl 0 rfl) ?_
          refine lv_aload_n hx hb dL_law_559 rfl (lv_at hl 3 rfl) ?_
          refine lv_iload_n hx hb dL_law_560 rfl (lv_at hl 2 rfl) ?_
          refine lv_iconst (v := 1) hx hb dL_law_561 (by decide) ?_
          refine lv_iadd hx hb dL_law_562 ?_
          obtain ⟨v243, e244, h⟩ := ob_ h
          refine th_sld C T hX hbl hbA e244 dL_law_563 ?_
          obtain ⟨k245, h⟩ := oc_ h
          obtain ⟨v246, μ247, e248, h⟩ := ob2 h
          refine th_callV (As := [.int v243]) (rest := []) C T (c_X10_heard e248) k_RL_81 10 rfl rfl (by decide) k245 rfl hl.1 rfl (st1 := [.int v246]) rfl (cells1 := cN) rfl (slots1 := sN) rfl (Nat.le_of_ble_eq_true rfl) ⟨Nat.le_of_ble_eq_true rfl, Nat.le_of_ble_eq_true rfl⟩ ⟨show cN + 0 ≤ 656867 by omega, show sN + 0 ≤ 7131647 by omega⟩ dL_law_564 (fun H locs T => ?_)
          refine lv_aload_n hx hb dL_law_567 rfl (lv_at hl 1 rfl) ?_
          refine lv_aload_n hx hb dL_law_568 rfl (lv_at hl 3 rfl) ?_
          refine lv_iload_n hx hb dL_law_569 rfl (lv_at hl 2 rfl) ?_
          refine lv_iconst (v := 1) hx hb dL_law_570 (by decide) ?_
          refine lv_iadd hx hb dL_law_571 ?_
          obtain ⟨v249, e250, h⟩ := ob_ h
          refine th_sld C T hX hbl hbA e250 dL_law_572 ?_
          obtain ⟨k251, h⟩ := oc_ h
          obtain ⟨v252, μ253, e254, h⟩ := ob2 h
          refine th_callV (As := [.int v249]) (rest := [.int v246]) C T (c_X11_heard e254) k_RL_84 11 rfl rfl (by decide) k251 rfl hl.1 rfl (st1 := [.int v252, .int v246]) rfl (cells1 := cN) rfl (slots1 := sN) rfl (Nat.le_of_ble_eq_true rfl) ⟨Nat.le_of_ble_eq_true rfl, Nat.le_of_ble_eq_true rfl⟩ ⟨show cN + 0 ≤ 656867 by omega, show sN + 0 ≤ 7131647 by omega⟩ dL_law_573 (fun H locs T => ?_)
          refine lv_icmp_eq (tgt := 965) hx hb dL_law_576 (by decide) (fun c255 => ?_) (fun c255 => ?_)
          · replace h := ot_ c255 h
            refine lv_iinc (v := x3 + 6) (lv' := [(3, .int (x3 + 6)), (1, .ref x1), (2, .ref x2), (0, .ref b)]) hx hb dL_law_965 hl (k := 2) rfl rfl (by decide) rfl (fun ls hl => ?_)
            refine lv_goto (tgt := 18) hx hb dL_law_968 (by decide) ?_
            exact ih18 cN sN (by omega) (by omega) _ _ _ _ _ _ _ _ T (lv_sub hl [1, 2, 0, 3] rfl) h
          · replace h := of_ c255 h
            refine lv_iconst (v := 0) hx hb dL_law_579 (by decide) ?_
            exact absurd (os1 h) (by decide)
        replace h := of_ c242 h
        by_cases c256 : (v2 &&& 31) = 17
        · replace h := ot_ c256 h
          refine th_tabIn (off := 548) (tgt := 581) C 17 c256 dL_law_33 (by decide) (by decide) (by decide) (by decide) ?_
          refine lv_aload_n hx hb dL_law_581 rfl (lv_at hl 0 rfl) ?_
          refine lv_aload_n hx hb dL_law_582 rfl (lv_at hl 3 rfl) ?_
          refine lv_iload_n hx hb dL_law_583 rfl (lv_at hl 2 rfl) ?_
          refine lv_iconst (v := 1) hx hb dL_law_584 (by decide) ?_
          refine lv_iadd hx hb dL_law_585 ?_
          obtain ⟨v257, e258, h⟩ := ob_ h
          refine th_sld C T hX hbl hbA e258 dL_law_586 ?_
          refine lv_aload_n hx hb dL_law_587 rfl (lv_at hl 3 rfl) ?_
          refine lv_iload_n hx hb dL_law_588 rfl (lv_at hl 2 rfl) ?_
          refine lv_iconst (v := 2) hx hb dL_law_589 (by decide) ?_
          refine lv_iadd hx hb dL_law_590 ?_
          obtain ⟨v259, e260, h⟩ := ob_ h
          refine th_sld C T hX hbl hbA e260 dL_law_591 ?_
          obtain ⟨k261, h⟩ := oc_ h
          obtain ⟨v262, μ263, e264, h⟩ := ob2 h
          refine th_callV (As := [.int v257, .int v259]) (rest := []) C T (c_X10_where e264) k_RL_85 10 rfl rfl (by decide) k261 rfl hl.1 rfl (st1 := [.int v262]) rfl (cells1 := cN) rfl (slots1 := sN) rfl (Nat.le_of_ble_eq_true rfl) ⟨Nat.le_of_ble_eq_true rfl, Nat.le_of_ble_eq_true rfl⟩ ⟨show cN + 0 ≤ 656867 by omega, show sN + 0 ≤ 7131647 by omega⟩ dL_law_592 (fun H locs T => ?_)
          refine lv_aload_n hx hb dL_law_595 rfl (lv_at hl 1 rfl) ?_
          refine lv_aload_n hx hb dL_law_596 rfl (lv_at hl 3 rfl) ?_
          refine lv_iload_n hx hb dL_law_597 rfl (lv_at hl 2 rfl) ?_
          refine lv_iconst (v := 1) hx hb dL_law_598 (by decide) ?_
          refine lv_iadd hx hb dL_law_599 ?_
          obtain ⟨v265, e266, h⟩ := ob_ h
          refine th_sld C T hX hbl hbA e266 dL_law_600 ?_
          refine lv_aload_n hx hb dL_law_601 rfl (lv_at hl 3 rfl) ?_
          refine lv_iload_n hx hb dL_law_602 rfl (lv_at hl 2 rfl) ?_
          refine lv_iconst (v := 2) hx hb dL_law_603 (by decide) ?_
          refine lv_iadd hx hb dL_law_604 ?_
          obtain ⟨v267, e268, h⟩ := ob_ h
          refine th_sld C T hX hbl hbA e268 dL_law_605 ?_
          obtain ⟨k269, h⟩ := oc_ h
          obtain ⟨v270, μ271, e272, h⟩ := ob2 h
          refine th_callV (As := [.int v265, .int v267]) (rest := [.int v262]) C T (c_X11_where e272) k_RL_88 11 rfl rfl (by decide) k269 rfl hl.1 rfl (st1 := [.int v270, .int v262]) rfl (cells1 := cN) rfl (slots1 := sN) rfl (Nat.le_of_ble_eq_true rfl) ⟨Nat.le_of_ble_eq_true rfl, Nat.le_of_ble_eq_true rfl⟩ ⟨show cN + 0 ≤ 656867 by omega, show sN + 0 ≤ 7131647 by omega⟩ dL_law_606 (fun H locs T => ?_)
          refine lv_icmp_eq (tgt := 965) hx hb dL_law_609 (by decide) (fun c273 => ?_) (fun c273 => ?_)
          · replace h := ot_ c273 h
            refine lv_iinc (v := x3 + 6) (lv' := [(3, .int (x3 + 6)), (1, .ref x1), (2, .ref x2), (0, .ref b)]) hx hb dL_law_965 hl (k := 2) rfl rfl (by decide) rfl (fun ls hl => ?_)
            refine lv_goto (tgt := 18) hx hb dL_law_968 (by decide) ?_
            exact ih18 cN sN (by omega) (by omega) _ _ _ _ _ _ _ _ T (lv_sub hl [1, 2, 0, 3] rfl) h
          · replace h := of_ c273 h
            refine lv_iconst (v := 0) hx hb dL_law_612 (by decide) ?_
            exact absurd (os1 h) (by decide)
        replace h := of_ c256 h
        by_cases c274 : (v2 &&& 31) = 18
        · replace h := ot_ c274 h
          refine th_tabIn (off := 581) (tgt := 614) C 18 c274 dL_law_33 (by decide) (by decide) (by decide) (by decide) ?_
          refine lv_aload_n hx hb dL_law_614 rfl (lv_at hl 0 rfl) ?_
          refine lv_aload_n hx hb dL_law_615 rfl (lv_at hl 3 rfl) ?_
          refine lv_iload_n hx hb dL_law_616 rfl (lv_at hl 2 rfl) ?_
          refine lv_iconst (v := 1) hx hb dL_law_617 (by decide) ?_
          refine lv_iadd hx hb dL_law_618 ?_
          obtain ⟨v275, e276, h⟩ := ob_ h
          refine th_sld C T hX hbl hbA e276 dL_law_619 ?_
          obtain ⟨k277, h⟩ := oc_ h
          obtain ⟨v278, μ279, e280, h⟩ := ob2 h
          refine th_callV (As := [.int v275]) (rest := []) C T (c_X10_drawn e280) k_RL_89 10 rfl rfl (by decide) k277 rfl hl.1 rfl (st1 := [.int v278]) rfl (cells1 := cN) rfl (slots1 := sN) rfl (Nat.le_of_ble_eq_true rfl) ⟨Nat.le_of_ble_eq_true rfl, Nat.le_of_ble_eq_true rfl⟩ ⟨show cN + 0 ≤ 656867 by omega, show sN + 0 ≤ 7131647 by omega⟩ dL_law_620 (fun H locs T => ?_)
          refine lv_aload_n hx hb dL_law_623 rfl (lv_at hl 1 rfl) ?_
          refine lv_aload_n hx hb dL_law_624 rfl (lv_at hl 3 rfl) ?_
          refine lv_iload_n hx hb dL_law_625 rfl (lv_at hl 2 rfl) ?_
          refine lv_iconst (v := 1) hx hb dL_law_626 (by decide) ?_
          refine lv_iadd hx hb dL_law_627 ?_
          obtain ⟨v281, e282, h⟩ := ob_ h
          refine th_sld C T hX hbl hbA e282 dL_law_628 ?_
          obtain ⟨k283, h⟩ := oc_ h
          obtain ⟨v284, μ285, e286, h⟩ := ob2 h
          refine th_callV (As := [.int v281]) (rest := [.int v278]) C T (c_X11_drawn e286) k_RL_92 11 rfl rfl (by decide) k283 rfl hl.1 rfl (st1 := [.int v284, .int v278]) rfl (cells1 := cN) rfl (slots1 := sN) rfl (Nat.le_of_ble_eq_true rfl) ⟨Nat.le_of_ble_eq_true rfl, Nat.le_of_ble_eq_true rfl⟩ ⟨show cN + 0 ≤ 656867 by omega, show sN + 0 ≤ 7131647 by omega⟩ dL_law_629 (fun H locs T => ?_)
          refine lv_icmp_eq (tgt := 965) hx hb dL_law_632 (by decide) (fun c287 => ?_) (fun c287 => ?_)
          · replace h := ot_ c287 h
            refine lv_iinc (v := x3 + 6) (lv' := [(3, .int (x3 + 6)), (1, .ref x1), (2, .ref x2), (0, .ref b)]) hx hb dL_law_965 hl (k := 2) rfl rfl (by decide) rfl (fun ls hl => ?_)
            refine lv_goto (tgt := 18) hx hb dL_law_968 (by decide) ?_
            exact ih18 cN sN (by omega) (by omega) _ _ _ _ _ _ _ _ T (lv_sub hl [1, 2, 0, 3] rfl) h
          · replace h := of_ c287 h
            refine lv_iconst (v := 0) hx hb dL_law_635 (by decide) ?_
            exact absurd (os1 h) (by decide)
        replace h := of_ c274 h
        by_cases c288 : (v2 &&& 31) = 19
        · replace h := ot_ c288 h
          refine th_tabIn (off := 604) (tgt := 637) C 19 c288 dL_law_33 (by decide) (by decide) (by decide) (by decide) ?_
          refine lv_aload_n hx hb dL_law_637 rfl (lv_at hl 0 rfl) ?_
          refine lv_aload_n hx hb dL_law_638 rfl (lv_at hl 3 rfl) ?_
          refine lv_iload_n hx hb dL_law_639 rfl (lv_at hl 2 rfl) ?_
          refine lv_iconst (v := 1) hx hb dL_law_640 (by decide) ?_
          refine lv_iadd hx hb dL_law_641 ?_
          obtain ⟨v289, e290, h⟩ := ob_ h
          refine th_sld C T hX hbl hbA e290 dL_law_642 ?_
          refine lv_aload_n hx hb dL_law_643 rfl (lv_at hl 3 rfl) ?_
          refine lv_iload_n hx hb dL_law_644 rfl (lv_at hl 2 rfl) ?_
          refine lv_iconst (v := 2) hx hb dL_law_645 (by decide) ?_
          refine lv_iadd hx hb dL_law_646 ?_
          obtain ⟨v291, e292, h⟩ := ob_ h
          refine th_sld C T hX hbl hbA e292 dL_law_647 ?_
          refine lv_aload_n hx hb dL_law_648 rfl (lv_at hl 3 rfl) ?_
          refine lv_iload_n hx hb dL_law_649 rfl (lv_at hl 2 rfl) ?_
          refine lv_iconst (v := 3) hx hb dL_law_650 (by decide) ?_
          refine lv_iadd hx hb dL_law_651 ?_
          obtain ⟨v293, e294, h⟩ := ob_ h
          refine th_sld C T hX hbl hbA e294 dL_law_652 ?_
          obtain ⟨k295, h⟩ := oc_ h
          obtain ⟨v296, μ297, e298, h⟩ := ob2 h
          refine th_callV (As := [.int v289, .int v291, .int v293]) (rest := []) C T (c_X10_chance e298) k_RL_93 10 rfl rfl (by decide) k295 rfl hl.1 rfl (st1 := [.long v296]) rfl (cells1 := cN) rfl (slots1 := sN) rfl (Nat.le_of_ble_eq_true rfl) ⟨Nat.le_of_ble_eq_true rfl, Nat.le_of_ble_eq_true rfl⟩ ⟨show cN + 0 ≤ 656867 by omega, show sN + 0 ≤ 7131647 by omega⟩ dL_law_653 (fun H locs T => ?_)
          refine lv_aload_n hx hb dL_law_656 rfl (lv_at hl 1 rfl) ?_
          refine lv_aload_n hx hb dL_law_657 rfl (lv_at hl 3 rfl) ?_
          refine lv_iload_n hx hb dL_law_658 rfl (lv_at hl 2 rfl) ?_
          refine lv_iconst (v := 1) hx hb dL_law_659 (by decide) ?_
          refine lv_iadd hx hb dL_law_660 ?_
          obtain ⟨v299, e300, h⟩ := ob_ h
          refine th_sld C T hX hbl hbA e300 dL_law_661 ?_
          refine lv_aload_n hx hb dL_law_662 rfl (lv_at hl 3 rfl) ?_
          refine lv_iload_n hx hb dL_law_663 rfl (lv_at hl 2 rfl) ?_
          refine lv_iconst (v := 2) hx hb dL_law_664 (by decide) ?_
          refine lv_iadd hx hb dL_law_665 ?_
          obtain ⟨v301, e302, h⟩ := ob_ h
          refine th_sld C T hX hbl hbA e302 dL_law_666 ?_
          refine lv_aload_n hx hb dL_law_667 rfl (lv_at hl 3 rfl) ?_
          refine lv_iload_n hx hb dL_law_668 rfl (lv_at hl 2 rfl) ?_
          refine lv_iconst (v := 3) hx hb dL_law_669 (by decide) ?_
          refine lv_iadd hx hb dL_law_670 ?_
          obtain ⟨v303, e304, h⟩ := ob_ h
          refine th_sld C T hX hbl hbA e304 dL_law_671 ?_
          obtain ⟨k305, h⟩ := oc_ h
          obtain ⟨v306, μ307, e308, h⟩ := ob2 h
          refine th_callV (As := [.int v299, .int v301, .int v303]) (rest := [.long v296]) C T (c_X11_chance e308) k_RL_97 11 rfl rfl (by decide) k305 rfl hl.1 rfl (st1 := [.long v306, .long v296]) rfl (cells1 := cN) rfl (slots1 := sN) rfl (Nat.le_of_ble_eq_true rfl) ⟨Nat.le_of_ble_eq_true rfl, Nat.le_of_ble_eq_true rfl⟩ ⟨show cN + 0 ≤ 656867 by omega, show sN + 0 ≤ 7131647 by omega⟩ dL_law_672 (fun H locs T => ?_)
          refine W.lcmp hx hb dL_law_675 ?_
          refine lv_if_eq (tgt := 965) hx hb dL_law_676 (by decide) (fun c309 => ?_) (fun c309 => ?_)
          · replace h := ot_ c309 h
            refine lv_iinc (v := x3 + 6) (lv' := [(3, .int (x3 + 6)), (1, .ref x1), (2, .ref x2), (0, .ref b)]) hx hb dL_law_965 hl (k := 2) rfl rfl (by decide) rfl (fun ls hl => ?_)
            refine lv_goto (tgt := 18) hx hb dL_law_968 (by decide) ?_
            exact ih18 cN sN (by omega) (by omega) _ _ _ _ _ _ _ _ T (lv_sub hl [1, 2, 0, 3] rfl) h
          · replace h := of_ c309 h
            refine lv_iconst (v := 0) hx hb dL_law_679 (by decide) ?_
            exact absurd (os1 h) (by decide)
        replace h := of_ c288 h
        by_cases c310 : (v2 &&& 31) = 20
        · replace h := ot_ c310 h
          refine th_tabIn (off := 648) (tgt := 681) C 20 c310 dL_law_33 (by decide) (by decide) (by decide) (by decide) ?_
          refine lv_aload_n hx hb dL_law_681 rfl (lv_at hl 0 rfl) ?_
          obtain ⟨k311, h⟩ := oc_ h
          obtain ⟨v312, μ313, e314, h⟩ := ob2 h
          refine th_callV (As := []) (rest := []) C T (c_X10_image e314) k_RL_98 10 rfl rfl (by decide) k311 rfl hl.1 rfl (st1 := [.int v312]) rfl (cells1 := cN) rfl (slots1 := sN) rfl (Nat.le_of_ble_eq_true rfl) ⟨Nat.le_of_ble_eq_true rfl, Nat.le_of_ble_eq_true rfl⟩ ⟨show cN + 0 ≤ 656867 by omega, show sN + 0 ≤ 7131647 by omega⟩ dL_law_682 (fun H locs T => ?_)
          refine lv_aload_n hx hb dL_law_685 rfl (lv_at hl 1 rfl) ?_
          obtain ⟨k315, h⟩ := oc_ h
          obtain ⟨v316, μ317, e318, h⟩ := ob2 h
          refine th_callV (As := []) (rest := [.int v312]) C T (c_X11_image e318) k_RL_101 11 rfl rfl (by decide) k315 rfl hl.1 rfl (st1 := [.int v316, .int v312]) rfl (cells1 := cN) rfl (slots1 := sN) rfl (Nat.le_of_ble_eq_true rfl) ⟨Nat.le_of_ble_eq_true rfl, Nat.le_of_ble_eq_true rfl⟩ ⟨show cN + 0 ≤ 656867 by omega, show sN + 0 ≤ 7131647 by omega⟩ dL_law_686 (fun H locs T => ?_)
          refine lv_icmp_eq (tgt := 965) hx hb dL_law_689 (by decide) (fun c319 => ?_) (fun c319 => ?_)
          · replace h := ot_ c319 h
            refine lv_iinc (v := x3 + 6) (lv' := [(3, .int (x3 + 6)), (1, .ref x1), (2, .ref x2), (0, .ref b)]) hx hb dL_law_965 hl (k := 2) rfl rfl (by decide) rfl (fun ls hl => ?_)
            refine lv_goto (tgt := 18) hx hb dL_law_968 (by decide) ?_
            exact ih18 cN sN (by omega) (by omega) _ _ _ _ _ _ _ _ T (lv_sub hl [1, 2, 0, 3] rfl) h
          · replace h := of_ c319 h
            refine lv_iconst (v := 0) hx hb dL_law_692 (by decide) ?_
            exact absurd (os1 h) (by decide)
        replace h := of_ c310 h
        by_cases c320 : (v2 &&& 31) = 21
        · replace h := ot_ c320 h
          refine th_tabIn (off := 661) (tgt := 694) C 21 c320 dL_law_33 (by decide) (by decide) (by decide) (by decide) ?_
          refine lv_aload_n hx hb dL_law_694 rfl (lv_at hl 0 rfl) ?_
          obtain ⟨k321, h⟩ := oc_ h
          obtain ⟨v322, μ323, e324, h⟩ := ob2 h
          refine th_callV (As := []) (rest := []) C T (c_X10_back e324) k_RL_102 10 rfl rfl (by decide) k321 rfl hl.1 rfl (st1 := [.int v322]) rfl (cells1 := cN) rfl (slots1 := sN) rfl (Nat.le_of_ble_eq_true rfl) ⟨Nat.le_of_ble_eq_true rfl, Nat.le_of_ble_eq_true rfl⟩ ⟨show cN + 0 ≤ 656867 by omega, show sN + 0 ≤ 7131647 by omega⟩ dL_law_695 (fun H locs T => ?_)
          refine lv_aload_n hx hb dL_law_698 rfl (lv_at hl 1 rfl) ?_
          obtain ⟨k325, h⟩ := oc_ h
          obtain ⟨v326, μ327, e328, h⟩ := ob2 h
          refine th_callV (As := []) (rest := [.int v322]) C T (c_X11_back e328) k_RL_105 11 rfl rfl (by decide) k325 rfl hl.1 rfl (st1 := [.int v326, .int v322]) rfl (cells1 := cN) rfl (slots1 := sN) rfl (Nat.le_of_ble_eq_true rfl) ⟨Nat.le_of_ble_eq_true rfl, Nat.le_of_ble_eq_true rfl⟩ ⟨show cN + 0 ≤ 656867 by omega, show sN + 0 ≤ 7131647 by omega⟩ dL_law_699 (fun H locs T => ?_)
          refine lv_icmp_eq (tgt := 965) hx hb dL_law_702 (by decide) (fun c329 => ?_) (fun c329 => ?_)
          · replace h := ot_ c329 h
            refine lv_iinc (v := x3 + 6) (lv' := [(3, .int (x3 + 6)), (1, .ref x1), (2, .ref x2), (0, .ref b)]) hx hb dL_law_965 hl (k := 2) rfl rfl (by decide) rfl (fun ls hl => ?_)
            refine lv_goto (tgt := 18) hx hb dL_law_968 (by decide) ?_
            exact ih18 cN sN (by omega) (by omega) _ _ _ _ _ _ _ _ T (lv_sub hl [1, 2, 0, 3] rfl) h
          · replace h := of_ c329 h
            refine lv_iconst (v := 0) hx hb dL_law_705 (by decide) ?_
            exact absurd (os1 h) (by decide)
        replace h := of_ c320 h
        by_cases c330 : (v2 &&& 31) = 22
        · replace h := ot_ c330 h
          refine th_tabIn (off := 674) (tgt := 707) C 22 c330 dL_law_33 (by decide) (by decide) (by decide) (by decide) ?_
          refine lv_aload_n hx hb dL_law_707 rfl (lv_at hl 0 rfl) ?_
          refine lv_aload_n hx hb dL_law_708 rfl (lv_at hl 3 rfl) ?_
          refine lv_iload_n hx hb dL_law_709 rfl (lv_at hl 2 rfl) ?_
          refine lv_iconst (v := 1) hx hb dL_law_710 (by decide) ?_
          refine lv_iadd hx hb dL_law_711 ?_
          obtain ⟨v331, e332, h⟩ := ob_ h
          refine th_sld C T hX hbl hbA e332 dL_law_712 ?_
          obtain ⟨k333, h⟩ := oc_ h
          obtain ⟨v334, e335, h⟩ := ob_ h
          refine th_callV (As := [.int v331]) (rest := []) C T (c_X10_count e335) k_RL_106 10 rfl rfl (by decide) k333 rfl hl.1 rfl (st1 := [.int v334]) rfl (cells1 := cN) rfl (slots1 := sN) rfl (Nat.le_of_ble_eq_true rfl) ⟨Nat.le_of_ble_eq_true rfl, Nat.le_of_ble_eq_true rfl⟩ ⟨show cN + 0 ≤ 656867 by omega, show sN + 0 ≤ 7131647 by omega⟩ dL_law_713 (fun H locs T => ?_)
          refine lv_aload_n hx hb dL_law_716 rfl (lv_at hl 1 rfl) ?_
          refine lv_aload_n hx hb dL_law_717 rfl (lv_at hl 3 rfl) ?_
          refine lv_iload_n hx hb dL_law_718 rfl (lv_at hl 2 rfl) ?_
          refine lv_iconst (v := 1) hx hb dL_law_719 (by decide) ?_
          refine lv_iadd hx hb dL_law_720 ?_
          obtain ⟨v336, e337, h⟩ := ob_ h
          refine th_sld C T hX hbl hbA e337 dL_law_721 ?_
          obtain ⟨k338, h⟩ := oc_ h
          obtain ⟨v339, e340, h⟩ := ob_ h
          refine th_callV (As := [.int v336]) (rest := [.int v334]) C T (c_X11_count e340) k_RL_109 11 rfl rfl (by decide) k338 rfl hl.1 rfl (st1 := [.int v339, .int v334]) rfl (cells1 := cN) rfl (slots1 := sN) rfl (Nat.le_of_ble_eq_true rfl) ⟨Nat.le_of_ble_eq_true rfl, Nat.le_of_ble_eq_true rfl⟩ ⟨show cN + 0 ≤ 656867 by omega, show sN + 0 ≤ 7131647 by omega⟩ dL_law_722 (fun H locs T => ?_)
          refine lv_icmp_eq (tgt := 965) hx hb dL_law_725 (by decide) (fun c341 => ?_) (fun c341 => ?_)
          · replace h := ot_ c341 h
            refine lv_iinc (v := x3 + 6) (lv' := [(3, .int (x3 + 6)), (1, .ref x1), (2, .ref x2), (0, .ref b)]) hx hb dL_law_965 hl (k := 2) rfl rfl (by decide) rfl (fun ls hl => ?_)
            refine lv_goto (tgt := 18) hx hb dL_law_968 (by decide) ?_
            exact ih18 cN sN (by omega) (by omega) _ _ _ _ _ _ _ _ T (lv_sub hl [1, 2, 0, 3] rfl) h
          · replace h := of_ c341 h
            refine lv_iconst (v := 0) hx hb dL_law_728 (by decide) ?_
            exact absurd (os1 h) (by decide)
        replace h := of_ c330 h
        by_cases c342 : (v2 &&& 31) = 23
        · replace h := ot_ c342 h
          refine th_tabIn (off := 697) (tgt := 730) C 23 c342 dL_law_33 (by decide) (by decide) (by decide) (by decide) ?_
          refine lv_aload_n hx hb dL_law_730 rfl (lv_at hl 0 rfl) ?_
          refine lv_aload_n hx hb dL_law_731 rfl (lv_at hl 3 rfl) ?_
          refine lv_iload_n hx hb dL_law_732 rfl (lv_at hl 2 rfl) ?_
          refine lv_iconst (v := 1) hx hb dL_law_733 (by decide) ?_
          refine lv_iadd hx hb dL_law_734 ?_
          obtain ⟨v343, e344, h⟩ := ob_ h
          refine th_sld C T hX hbl hbA e344 dL_law_735 ?_
          refine lv_aload_n hx hb dL_law_736 rfl (lv_at hl 3 rfl) ?_
          refine lv_iload_n hx hb dL_law_737 rfl (lv_at hl 2 rfl) ?_
          refine lv_iconst (v := 2) hx hb dL_law_738 (by decide) ?_
          refine lv_iadd hx hb dL_law_739 ?_
          obtain ⟨v345, e346, h⟩ := ob_ h
          refine th_sld C T hX hbl hbA e346 dL_law_740 ?_
          refine lv_aload_n hx hb dL_law_741 rfl (lv_at hl 3 rfl) ?_
          refine lv_iload_n hx hb dL_law_742 rfl (lv_at hl 2 rfl) ?_
          refine lv_iconst (v := 3) hx hb dL_law_743 (by decide) ?_
          refine lv_iadd hx hb dL_law_744 ?_
          obtain ⟨v347, e348, h⟩ := ob_ h
          refine th_sld C T hX hbl hbA e348 dL_law_745 ?_
          obtain ⟨k349, h⟩ := oc_ h
          obtain ⟨v350, μ351, e352, h⟩ := ob2 h
          refine th_callV (As := [.int v343, .int v345, .int v347]) (rest := []) C T (c_X10_sheet e352) k_RL_110 10 rfl rfl (by decide) k349 rfl hl.1 rfl (st1 := [.int v350]) rfl (cells1 := cN) rfl (slots1 := sN) rfl (Nat.le_of_ble_eq_true rfl) ⟨Nat.le_of_ble_eq_true rfl, Nat.le_of_ble_eq_true rfl⟩ ⟨show cN + 0 ≤ 656867 by omega, show sN + 0 ≤ 7131647 by omega⟩ dL_law_746 (fun H locs T => ?_)
          refine lv_aload_n hx hb dL_law_749 rfl (lv_at hl 1 rfl) ?_
          refine lv_aload_n hx hb dL_law_750 rfl (lv_at hl 3 rfl) ?_
          refine lv_iload_n hx hb dL_law_751 rfl (lv_at hl 2 rfl) ?_
          refine lv_iconst (v := 1) hx hb dL_law_752 (by decide) ?_
          refine lv_iadd hx hb dL_law_753 ?_
          obtain ⟨v353, e354, h⟩ := ob_ h
          refine th_sld C T hX hbl hbA e354 dL_law_754 ?_
          refine lv_aload_n hx hb dL_law_755 rfl (lv_at hl 3 rfl) ?_
          refine lv_iload_n hx hb dL_law_756 rfl (lv_at hl 2 rfl) ?_
          refine lv_iconst (v := 2) hx hb dL_law_757 (by decide) ?_
          refine lv_iadd hx hb dL_law_758 ?_
          obtain ⟨v355, e356, h⟩ := ob_ h
          refine th_sld C T hX hbl hbA e356 dL_law_759 ?_
          refine lv_aload_n hx hb dL_law_760 rfl (lv_at hl 3 rfl) ?_
          refine lv_iload_n hx hb dL_law_761 rfl (lv_at hl 2 rfl) ?_
          refine lv_iconst (v := 3) hx hb dL_law_762 (by decide) ?_
          refine lv_iadd hx hb dL_law_763 ?_
          obtain ⟨v357, e358, h⟩ := ob_ h
          refine th_sld C T hX hbl hbA e358 dL_law_764 ?_
          obtain ⟨k359, h⟩ := oc_ h
          obtain ⟨v360, μ361, e362, h⟩ := ob2 h
          refine th_callV (As := [.int v353, .int v355, .int v357]) (rest := [.int v350]) C T (c_X11_sheet e362) k_RL_113 11 rfl rfl (by decide) k359 rfl hl.1 rfl (st1 := [.int v360, .int v350]) rfl (cells1 := cN) rfl (slots1 := sN) rfl (Nat.le_of_ble_eq_true rfl) ⟨Nat.le_of_ble_eq_true rfl, Nat.le_of_ble_eq_true rfl⟩ ⟨show cN + 0 ≤ 656867 by omega, show sN + 0 ≤ 7131647 by omega⟩ dL_law_765 (fun H locs T => ?_)
          refine lv_icmp_eq (tgt := 965) hx hb dL_law_768 (by decide) (fun c363 => ?_) (fun c363 => ?_)
          · replace h := ot_ c363 h
            refine lv_iinc (v := x3 + 6) (lv' := [(3, .int (x3 + 6)), (1, .ref x1), (2, .ref x2), (0, .ref b)]) hx hb dL_law_965 hl (k := 2) rfl rfl (by decide) rfl (fun ls hl => ?_)
            refine lv_goto (tgt := 18) hx hb dL_law_968 (by decide) ?_
            exact ih18 cN sN (by omega) (by omega) _ _ _ _ _ _ _ _ T (lv_sub hl [1, 2, 0, 3] rfl) h
          · replace h := of_ c363 h
            refine lv_iconst (v := 0) hx hb dL_law_771 (by decide) ?_
            exact absurd (os1 h) (by decide)
        replace h := of_ c342 h
        by_cases c364 : (v2 &&& 31) = 24
        · replace h := ot_ c364 h
          refine th_tabIn (off := 740) (tgt := 773) C 24 c364 dL_law_33 (by decide) (by decide) (by decide) (by decide) ?_
          refine lv_aload_n hx hb dL_law_773 rfl (lv_at hl 0 rfl) ?_
          refine lv_aload_n hx hb dL_law_774 rfl (lv_at hl 3 rfl) ?_
          refine lv_iload_n hx hb dL_law_775 rfl (lv_at hl 2 rfl) ?_
          refine lv_iconst (v := 1) hx hb dL_law_776 (by decide) ?_
          refine lv_iadd hx hb dL_law_777 ?_
          obtain ⟨v365, e366, h⟩ := ob_ h
          refine th_sld C T hX hbl hbA e366 dL_law_778 ?_
          refine lv_aload_n hx hb dL_law_779 rfl (lv_at hl 3 rfl) ?_
          refine lv_iload_n hx hb dL_law_780 rfl (lv_at hl 2 rfl) ?_
          refine lv_iconst (v := 2) hx hb dL_law_781 (by decide) ?_
          refine lv_iadd hx hb dL_law_782 ?_
          obtain ⟨v367, e368, h⟩ := ob_ h
          refine th_sld C T hX hbl hbA e368 dL_law_783 ?_
          refine lv_aload_n hx hb dL_law_784 rfl (lv_at hl 3 rfl) ?_
          refine lv_iload_n hx hb dL_law_785 rfl (lv_at hl 2 rfl) ?_
          refine lv_iconst (v := 3) hx hb dL_law_786 (by decide) ?_
          refine lv_iadd hx hb dL_law_787 ?_
          obtain ⟨v369, e370, h⟩ := ob_ h
          refine th_sld C T hX hbl hbA e370 dL_law_788 ?_
          obtain ⟨k371, h⟩ := oc_ h
          obtain ⟨v372, μ373, e374, h⟩ := ob2 h
          refine th_callV (As := [.int v365, .int v367, .int v369]) (rest := []) C T (c_X10_cell e374) k_RL_114 10 rfl rfl (by decide) k371 rfl hl.1 rfl (st1 := [.int v372]) rfl (cells1 := cN) rfl (slots1 := sN) rfl (Nat.le_of_ble_eq_true rfl) ⟨Nat.le_of_ble_eq_true rfl, Nat.le_of_ble_eq_true rfl⟩ ⟨show cN + 0 ≤ 656867 by omega, show sN + 0 ≤ 7131647 by omega⟩ dL_law_789 (fun H locs T => ?_)
          refine lv_aload_n hx hb dL_law_792 rfl (lv_at hl 1 rfl) ?_
          refine lv_aload_n hx hb dL_law_793 rfl (lv_at hl 3 rfl) ?_
          refine lv_iload_n hx hb dL_law_794 rfl (lv_at hl 2 rfl) ?_
          refine lv_iconst (v := 1) hx hb dL_law_795 (by decide) ?_
          refine lv_iadd hx hb dL_law_796 ?_
          obtain ⟨v375, e376, h⟩ := ob_ h
          refine th_sld C T hX hbl hbA e376 dL_law_797 ?_
          refine lv_aload_n hx hb dL_law_798 rfl (lv_at hl 3 rfl) ?_
          refine lv_iload_n hx hb dL_law_799 rfl (lv_at hl 2 rfl) ?_
          refine lv_iconst (v := 2) hx hb dL_law_800 (by decide) ?_
          refine lv_iadd hx hb dL_law_801 ?_
          obtain ⟨v377, e378, h⟩ := ob_ h
          refine th_sld C T hX hbl hbA e378 dL_law_802 ?_
          refine lv_aload_n hx hb dL_law_803 rfl (lv_at hl 3 rfl) ?_
          refine lv_iload_n hx hb dL_law_804 rfl (lv_at hl 2 rfl) ?_
          refine lv_iconst (v := 3) hx hb dL_law_805 (by decide) ?_
          refine lv_iadd hx hb dL_law_806 ?_
          obtain ⟨v379, e380, h⟩ := ob_ h
          refine th_sld C T hX hbl hbA e380 dL_law_807 ?_
          obtain ⟨k381, h⟩ := oc_ h
          obtain ⟨v382, μ383, e384, h⟩ := ob2 h
          refine th_callV (As := [.int v375, .int v377, .int v379]) (rest := [.int v372]) C T (c_X11_cell e384) k_RL_117 11 rfl rfl (by decide) k381 rfl hl.1 rfl (st1 := [.int v382, .int v372]) rfl (cells1 := cN) rfl (slots1 := sN) rfl (Nat.le_of_ble_eq_true rfl) ⟨Nat.le_of_ble_eq_true rfl, Nat.le_of_ble_eq_true rfl⟩ ⟨show cN + 0 ≤ 656867 by omega, show sN + 0 ≤ 7131647 by omega⟩ dL_law_808 (fun H locs T => ?_)
          refine lv_icmp_eq (tgt := 965) hx hb dL_law_811 (by decide) (fun c385 => ?_) (fun c385 => ?_)
          · replace h := ot_ c385 h
            refine lv_iinc (v := x3 + 6) (lv' := [(3, .int (x3 + 6)), (1, .ref x1), (2, .ref x2), (0, .ref b)]) hx hb dL_law_965 hl (k := 2) rfl rfl (by decide) rfl (fun ls hl => ?_)
            refine lv_goto (tgt := 18) hx hb dL_law_968 (by decide) ?_
            exact ih18 cN sN (by omega) (by omega) _ _ _ _ _ _ _ _ T (lv_sub hl [1, 2, 0, 3] rfl) h
          · replace h := of_ c385 h
            refine lv_iconst (v := 0) hx hb dL_law_814 (by decide) ?_
            exact absurd (os1 h) (by decide)
        replace h := of_ c364 h
        by_cases c386 : (v2 &&& 31) = 25
        · replace h := ot_ c386 h
          refine th_tabIn (off := 783) (tgt := 816) C 25 c386 dL_law_33 (by decide) (by decide) (by decide) (by decide) ?_
          refine lv_aload_n hx hb dL_law_816 rfl (lv_at hl 0 rfl) ?_
          refine lv_aload_n hx hb dL_law_817 rfl (lv_at hl 3 rfl) ?_
          refine lv_iload_n hx hb dL_law_818 rfl (lv_at hl 2 rfl) ?_
          refine lv_iconst (v := 1) hx hb dL_law_819 (by decide) ?_
          refine lv_iadd hx hb dL_law_820 ?_
          obtain ⟨v387, e388, h⟩ := ob_ h
          refine th_sld C T hX hbl hbA e388 dL_law_821 ?_
          refine lv_aload_n hx hb dL_law_822 rfl (lv_at hl 3 rfl) ?_
          refine lv_iload_n hx hb dL_law_823 rfl (lv_at hl 2 rfl) ?_
          refine lv_iconst (v := 2) hx hb dL_law_824 (by decide) ?_
          refine lv_iadd hx hb dL_law_825 ?_
          obtain ⟨v389, e390, h⟩ := ob_ h
          refine th_sld C T hX hbl hbA e390 dL_law_826 ?_
          refine lv_aload_n hx hb dL_law_827 rfl (lv_at hl 3 rfl) ?_
          refine lv_iload_n hx hb dL_law_828 rfl (lv_at hl 2 rfl) ?_
          refine lv_iconst (v := 3) hx hb dL_law_829 (by decide) ?_
          refine lv_iadd hx hb dL_law_830 ?_
          obtain ⟨v391, e392, h⟩ := ob_ h
          refine th_sld C T hX hbl hbA e392 dL_law_831 ?_
          refine lv_aload_n hx hb dL_law_832 rfl (lv_at hl 3 rfl) ?_
          refine lv_iload_n hx hb dL_law_833 rfl (lv_at hl 2 rfl) ?_
          refine lv_iconst (v := 4) hx hb dL_law_834 (by decide) ?_
          refine lv_iadd hx hb dL_law_835 ?_
          obtain ⟨v393, e394, h⟩ := ob_ h
          refine th_sld C T hX hbl hbA e394 dL_law_836 ?_
          refine lv_aload_n hx hb dL_law_837 rfl (lv_at hl 3 rfl) ?_
          refine lv_iload_n hx hb dL_law_838 rfl (lv_at hl 2 rfl) ?_
          refine lv_iconst (v := 5) hx hb dL_law_839 (by decide) ?_
          refine lv_iadd hx hb dL_law_840 ?_
          obtain ⟨v395, e396, h⟩ := ob_ h
          refine th_sld C T hX hbl hbA e396 dL_law_841 ?_
          obtain ⟨k397, h⟩ := oc_ h
          obtain ⟨v398, μ399, e400, h⟩ := ob2 h
          refine th_callV (As := [.int v387, .int v389, .int v391, .int v393, .int v395]) (rest := []) C T (c_X10_copy e400) k_RL_118 10 rfl rfl (by decide) k397 rfl hl.1 rfl (st1 := [.int v398]) rfl (cells1 := cN) rfl (slots1 := sN) rfl (Nat.le_of_ble_eq_true rfl) ⟨Nat.le_of_ble_eq_true rfl, Nat.le_of_ble_eq_true rfl⟩ ⟨show cN + 0 ≤ 656867 by omega, show sN + 0 ≤ 7131647 by omega⟩ dL_law_842 (fun H locs T => ?_)
          refine lv_aload_n hx hb dL_law_845 rfl (lv_at hl 1 rfl) ?_
          refine lv_aload_n hx hb dL_law_846 rfl (lv_at hl 3 rfl) ?_
          refine lv_iload_n hx hb dL_law_847 rfl (lv_at hl 2 rfl) ?_
          refine lv_iconst (v := 1) hx hb dL_law_848 (by decide) ?_
          refine lv_iadd hx hb dL_law_849 ?_
          obtain ⟨v401, e402, h⟩ := ob_ h
          refine th_sld C T hX hbl hbA e402 dL_law_850 ?_
          refine lv_aload_n hx hb dL_law_851 rfl (lv_at hl 3 rfl) ?_
          refine lv_iload_n hx hb dL_law_852 rfl (lv_at hl 2 rfl) ?_
          refine lv_iconst (v := 2) hx hb dL_law_853 (by decide) ?_
          refine lv_iadd hx hb dL_law_854 ?_
          obtain ⟨v403, e404, h⟩ := ob_ h
          refine th_sld C T hX hbl hbA e404 dL_law_855 ?_
          refine lv_aload_n hx hb dL_law_856 rfl (lv_at hl 3 rfl) ?_
          refine lv_iload_n hx hb dL_law_857 rfl (lv_at hl 2 rfl) ?_
          refine lv_iconst (v := 3) hx hb dL_law_858 (by decide) ?_
          refine lv_iadd hx hb dL_law_859 ?_
          obtain ⟨v405, e406, h⟩ := ob_ h
          refine th_sld C T hX hbl hbA e406 dL_law_860 ?_
          refine lv_aload_n hx hb dL_law_861 rfl (lv_at hl 3 rfl) ?_
          refine lv_iload_n hx hb dL_law_862 rfl (lv_at hl 2 rfl) ?_
          refine lv_iconst (v := 4) hx hb dL_law_863 (by decide) ?_
          refine lv_iadd hx hb dL_law_864 ?_
          obtain ⟨v407, e408, h⟩ := ob_ h
          refine th_sld C T hX hbl hbA e408 dL_law_865 ?_
          refine lv_aload_n hx hb dL_law_866 rfl (lv_at hl 3 rfl) ?_
          refine lv_iload_n hx hb dL_law_867 rfl (lv_at hl 2 rfl) ?_
          refine lv_iconst (v := 5) hx hb dL_law_868 (by decide) ?_
          refine lv_iadd hx hb dL_law_869 ?_
          obtain ⟨v409, e410, h⟩ := ob_ h
          refine th_sld C T hX hbl hbA e410 dL_law_870 ?_
          obtain ⟨k411, h⟩ := oc_ h
          obtain ⟨v412, μ413, e414, h⟩ := ob2 h
          refine th_callV (As := [.int v401, .int v403, .int v405, .int v407, .int v409]) (rest := [.int v398]) C T (c_X11_copy e414) k_RL_122 11 rfl rfl (by decide) k411 rfl hl.1 rfl (st1 := [.int v412, .int v398]) rfl (cells1 := cN) rfl (slots1 := sN) rfl (Nat.le_of_ble_eq_true rfl) ⟨Nat.le_of_ble_eq_true rfl, Nat.le_of_ble_eq_true rfl⟩ ⟨show cN + 0 ≤ 656867 by omega, show sN + 0 ≤ 7131647 by omega⟩ dL_law_871 (fun H locs T => ?_)
          refine lv_icmp_eq (tgt := 965) hx hb dL_law_874 (by decide) (fun c415 => ?_) (fun c415 => ?_)
          · replace h := ot_ c415 h
            refine lv_iinc (v := x3 + 6) (lv' := [(3, .int (x3 + 6)), (1, .ref x1), (2, .ref x2), (0, .ref b)]) hx hb dL_law_965 hl (k := 2) rfl rfl (by decide) rfl (fun ls hl => ?_)
            refine lv_goto (tgt := 18) hx hb dL_law_968 (by decide) ?_
            exact ih18 cN sN (by omega) (by omega) _ _ _ _ _ _ _ _ T (lv_sub hl [1, 2, 0, 3] rfl) h
          · replace h := of_ c415 h
            refine lv_iconst (v := 0) hx hb dL_law_877 (by decide) ?_
            exact absurd (os1 h) (by decide)
        replace h := of_ c386 h
        by_cases c416 : (v2 &&& 31) = 26
        · replace h := ot_ c416 h
          refine th_tabIn (off := 846) (tgt := 879) C 26 c416 dL_law_33 (by decide) (by decide) (by decide) (by decide) ?_
          refine lv_aload_n hx hb dL_law_879 rfl (lv_at hl 0 rfl) ?_
          refine lv_aload_n hx hb dL_law_880 rfl (lv_at hl 3 rfl) ?_
          refine lv_iload_n hx hb dL_law_881 rfl (lv_at hl 2 rfl) ?_
          refine lv_iconst (v := 1) hx hb dL_law_882 (by decide) ?_
          refine lv_iadd hx hb dL_law_883 ?_
          obtain ⟨v417, e418, h⟩ := ob_ h
          refine th_sld C T hX hbl hbA e418 dL_law_884 ?_
          refine lv_aload_n hx hb dL_law_885 rfl (lv_at hl 3 rfl) ?_
          refine lv_iload_n hx hb dL_law_886 rfl (lv_at hl 2 rfl) ?_
          refine lv_iconst (v := 2) hx hb dL_law_887 (by decide) ?_
          refine lv_iadd hx hb dL_law_888 ?_
          obtain ⟨v419, e420, h⟩ := ob_ h
          refine th_sld C T hX hbl hbA e420 dL_law_889 ?_
          refine lv_aload_n hx hb dL_law_890 rfl (lv_at hl 3 rfl) ?_
          refine lv_iload_n hx hb dL_law_891 rfl (lv_at hl 2 rfl) ?_
          refine lv_iconst (v := 3) hx hb dL_law_892 (by decide) ?_
          refine lv_iadd hx hb dL_law_893 ?_
          obtain ⟨v421, e422, h⟩ := ob_ h
          refine th_sld C T hX hbl hbA e422 dL_law_894 ?_
          refine lv_aload_n hx hb dL_law_895 rfl (lv_at hl 3 rfl) ?_
          refine lv_iload_n hx hb dL_law_896 rfl (lv_at hl 2 rfl) ?_
          refine lv_iconst (v := 4) hx hb dL_law_897 (by decide) ?_
          refine lv_iadd hx hb dL_law_898 ?_
          obtain ⟨v423, e424, h⟩ := ob_ h
          refine th_sld C T hX hbl hbA e424 dL_law_899 ?_
          obtain ⟨k425, h⟩ := oc_ h
          obtain ⟨v426, σ427, μ428, e429, h⟩ := ob3 h
          refine th_callV (As := [.int v417, .int v419, .int v421, .int v423]) (rest := []) C T (c_X10_boats e429) k_RL_123 10 rfl rfl (by decide) k425 rfl hl.1 rfl (st1 := [.int v426]) rfl (cells1 := cN + 24) rfl (slots1 := sN + 112) rfl (Nat.le_of_ble_eq_true rfl) ⟨Nat.le_of_ble_eq_true rfl, Nat.le_of_ble_eq_true rfl⟩ ⟨show cN + 24 ≤ 656867 by omega, show sN + 112 ≤ 7131647 by omega⟩ dL_law_900 (fun H locs T => ?_)
          refine lv_aload_n hx hb dL_law_903 rfl (lv_at hl 1 rfl) ?_
          refine lv_aload_n hx hb dL_law_904 rfl (lv_at hl 3 rfl) ?_
          refine lv_iload_n hx hb dL_law_905 rfl (lv_at hl 2 rfl) ?_
          refine lv_iconst (v := 1) hx hb dL_law_906 (by decide) ?_
          refine lv_iadd hx hb dL_law_907 ?_
          obtain ⟨v430, e431, h⟩ := ob_ h
          refine th_sld C T hX hbl hbA e431 dL_law_908 ?_
          refine lv_aload_n hx hb dL_law_909 rfl (lv_at hl 3 rfl) ?_
          refine lv_iload_n hx hb dL_law_910 rfl (lv_at hl 2 rfl) ?_
          refine lv_iconst (v := 2) hx hb dL_law_911 (by decide) ?_
          refine lv_iadd hx hb dL_law_912 ?_
          obtain ⟨v432, e433, h⟩ := ob_ h
          refine th_sld C T hX hbl hbA e433 dL_law_913 ?_
          refine lv_aload_n hx hb dL_law_914 rfl (lv_at hl 3 rfl) ?_
          refine lv_iload_n hx hb dL_law_915 rfl (lv_at hl 2 rfl) ?_
          refine lv_iconst (v := 3) hx hb dL_law_916 (by decide) ?_
          refine lv_iadd hx hb dL_law_917 ?_
          obtain ⟨v434, e435, h⟩ := ob_ h
          refine th_sld C T hX hbl hbA e435 dL_law_918 ?_
          refine lv_aload_n hx hb dL_law_919 rfl (lv_at hl 3 rfl) ?_
          refine lv_iload_n hx hb dL_law_920 rfl (lv_at hl 2 rfl) ?_
          refine lv_iconst (v := 4) hx hb dL_law_921 (by decide) ?_
          refine lv_iadd hx hb dL_law_922 ?_
          obtain ⟨v436, e437, h⟩ := ob_ h
          refine th_sld C T hX hbl hbA e437 dL_law_923 ?_
          obtain ⟨k438, h⟩ := oc_ h
          obtain ⟨v439, μ440, e441, h⟩ := ob2 h
          refine th_callV (As := [.int v430, .int v432, .int v434, .int v436]) (rest := [.int v426]) C T (c_X11_boats e441) k_RL_127 11 rfl rfl (by decide) k438 rfl hl.1 rfl (st1 := [.int v439, .int v426]) rfl (cells1 := cN + 24) rfl (slots1 := sN + 112) rfl (Nat.le_of_ble_eq_true rfl) ⟨Nat.le_of_ble_eq_true rfl, Nat.le_of_ble_eq_true rfl⟩ ⟨show cN + 24 + 0 ≤ 656867 by omega, show sN + 112 + 0 ≤ 7131647 by omega⟩ dL_law_924 (fun H locs T => ?_)
          refine lv_icmp_eq (tgt := 965) hx hb dL_law_927 (by decide) (fun c442 => ?_) (fun c442 => ?_)
          · replace h := ot_ c442 h
            refine lv_iinc (v := x3 + 6) (lv' := [(3, .int (x3 + 6)), (1, .ref x1), (2, .ref x2), (0, .ref b)]) hx hb dL_law_965 hl (k := 2) rfl rfl (by decide) rfl (fun ls hl => ?_)
            refine lv_goto (tgt := 18) hx hb dL_law_968 (by decide) ?_
            exact ih18 (cN + 24) (sN + 112) (by omega) (by omega) _ _ _ _ _ _ _ _ T (lv_sub hl [1, 2, 0, 3] rfl) h
          · replace h := of_ c442 h
            refine lv_iconst (v := 0) hx hb dL_law_930 (by decide) ?_
            exact absurd (os1 h) (by decide)
        replace h := of_ c416 h
        by_cases c443 : (v2 &&& 31) = 27
        · replace h := ot_ c443 h
          refine th_tabIn (off := 899) (tgt := 932) C 27 c443 dL_law_33 (by decide) (by decide) (by decide) (by decide) ?_
          refine lv_aload_n hx hb dL_law_932 rfl (lv_at hl 0 rfl) ?_
          refine lv_aload_n hx hb dL_law_933 rfl (lv_at hl 3 rfl) ?_
          refine lv_iload_n hx hb dL_law_934 rfl (lv_at hl 2 rfl) ?_
          refine lv_iconst (v := 1) hx hb dL_law_935 (by decide) ?_
          refine lv_iadd hx hb dL_law_936 ?_
          obtain ⟨v444, e445, h⟩ := ob_ h
          refine th_sld C T hX hbl hbA e445 dL_law_937 ?_
          refine lv_aload_n hx hb dL_law_938 rfl (lv_at hl 3 rfl) ?_
          refine lv_iload_n hx hb dL_law_939 rfl (lv_at hl 2 rfl) ?_
          refine lv_iconst (v := 2) hx hb dL_law_940 (by decide) ?_
          refine lv_iadd hx hb dL_law_941 ?_
          obtain ⟨v446, e447, h⟩ := ob_ h
          refine th_sld C T hX hbl hbA e447 dL_law_942 ?_
          obtain ⟨k448, h⟩ := oc_ h
          obtain ⟨v449, e450, h⟩ := ob_ h
          refine th_callV (As := [.int v444, .int v446]) (rest := []) C T (c_X10_taken e450) k_RL_128 10 rfl rfl (by decide) k448 rfl hl.1 rfl (st1 := [.int v449]) rfl (cells1 := cN) rfl (slots1 := sN) rfl (Nat.le_of_ble_eq_true rfl) ⟨Nat.le_of_ble_eq_true rfl, Nat.le_of_ble_eq_true rfl⟩ ⟨show cN + 0 ≤ 656867 by omega, show sN + 0 ≤ 7131647 by omega⟩ dL_law_943 (fun H locs T => ?_)
          refine lv_aload_n hx hb dL_law_946 rfl (lv_at hl 1 rfl) ?_
          refine lv_aload_n hx hb dL_law_947 rfl (lv_at hl 3 rfl) ?_
          refine lv_iload_n hx hb dL_law_948 rfl (lv_at hl 2 rfl) ?_
          refine lv_iconst (v := 1) hx hb dL_law_949 (by decide) ?_
          refine lv_iadd hx hb dL_law_950 ?_
          obtain ⟨v451, e452, h⟩ := ob_ h
          refine th_sld C T hX hbl hbA e452 dL_law_951 ?_
          refine lv_aload_n hx hb dL_law_952 rfl (lv_at hl 3 rfl) ?_
          refine lv_iload_n hx hb dL_law_953 rfl (lv_at hl 2 rfl) ?_
          refine lv_iconst (v := 2) hx hb dL_law_954 (by decide) ?_
          refine lv_iadd hx hb dL_law_955 ?_
          obtain ⟨v453, e454, h⟩ := ob_ h
          refine th_sld C T hX hbl hbA e454 dL_law_956 ?_
          obtain ⟨k455, h⟩ := oc_ h
          obtain ⟨v456, e457, h⟩ := ob_ h
          refine th_callV (As := [.int v451, .int v453]) (rest := [.int v449]) C T (c_X11_taken e457) k_RL_131 11 rfl rfl (by decide) k455 rfl hl.1 rfl (st1 := [.int v456, .int v449]) rfl (cells1 := cN) rfl (slots1 := sN) rfl (Nat.le_of_ble_eq_true rfl) ⟨Nat.le_of_ble_eq_true rfl, Nat.le_of_ble_eq_true rfl⟩ ⟨show cN + 0 ≤ 656867 by omega, show sN + 0 ≤ 7131647 by omega⟩ dL_law_957 (fun H locs T => ?_)
          refine lv_icmp_eq (tgt := 965) hx hb dL_law_960 (by decide) (fun c458 => ?_) (fun c458 => ?_)
          · replace h := ot_ c458 h
            refine lv_iinc (v := x3 + 6) (lv' := [(3, .int (x3 + 6)), (1, .ref x1), (2, .ref x2), (0, .ref b)]) hx hb dL_law_965 hl (k := 2) rfl rfl (by decide) rfl (fun ls hl => ?_)
            refine lv_goto (tgt := 18) hx hb dL_law_968 (by decide) ?_
            exact ih18 cN sN (by omega) (by omega) _ _ _ _ _ _ _ _ T (lv_sub hl [1, 2, 0, 3] rfl) h
          · replace h := of_ c458 h
            refine lv_iconst (v := 0) hx hb dL_law_963 (by decide) ?_
            exact absurd (os1 h) (by decide)
        replace h := of_ c443 h
        have n459 := th_ne (n := 0) c4 (by decide)
        have n460 := th_ne (n := 1) c27 (by decide)
        have n461 := th_ne (n := 2) c49 (by decide)
        have n462 := th_ne (n := 3) c67 (by decide)
        have n463 := th_ne (n := 4) c81 (by decide)
        have n464 := th_ne (n := 5) c92 (by decide)
        have n465 := th_ne (n := 6) c106 (by decide)
        have n466 := th_ne (n := 7) c120 (by decide)
        have n467 := th_ne (n := 8) c134 (by decide)
        have n468 := th_ne (n := 9) c144 (by decide)
        have n469 := th_ne (n := 10) c158 (by decide)
        have n470 := th_ne (n := 11) c168 (by decide)
        have n471 := th_ne (n := 12) c186 (by decide)
        have n472 := th_ne (n := 13) c200 (by decide)
        have n473 := th_ne (n := 14) c214 (by decide)
        have n474 := th_ne (n := 15) c232 (by decide)
        have n475 := th_ne (n := 16) c242 (by decide)
        have n476 := th_ne (n := 17) c256 (by decide)
        have n477 := th_ne (n := 18) c274 (by decide)
        have n478 := th_ne (n := 19) c288 (by decide)
        have n479 := th_ne (n := 20) c310 (by decide)
        have n480 := th_ne (n := 21) c320 (by decide)
        have n481 := th_ne (n := 22) c330 (by decide)
        have n482 := th_ne (n := 23) c342 (by decide)
        have n483 := th_ne (n := 24) c364 (by decide)
        have n484 := th_ne (n := 25) c386 (by decide)
        have n485 := th_ne (n := 26) c416 (by decide)
        have n486 := th_ne (n := 27) c443 (by decide)
        refine lv_tableOut (tgt := 965) hx hb dL_law_33 (by omega) (by decide) ?_
        refine lv_iinc (v := x3 + 6) (lv' := [(3, .int (x3 + 6)), (1, .ref x1), (2, .ref x2), (0, .ref b)]) hx hb dL_law_965 hl (k := 2) rfl rfl (by decide) rfl (fun ls hl => ?_)
        refine lv_goto (tgt := 18) hx hb dL_law_968 (by decide) ?_
        exact ih18 cN sN (by omega) (by omega) _ _ _ _ _ _ _ _ T (lv_sub hl [1, 2, 0, 3] rfl) h
  unfold f_L_law at h
  obtain ⟨a1, σ2, μ3, e4, h⟩ := ob3 h
  refine n_RL_7 C T e4 (Nat.le_of_ble_eq_true rfl) (Nat.le_of_ble_eq_true rfl) dL_law_0 (fun H T => ?_)
  refine W.eqc (c1 := 1) (s1 := 12) rfl rfl ?_
  refine lv_dup hx hb dL_law_3 rfl ?_
  obtain ⟨σ5, μ6, e7, h⟩ := ob2 h
  refine th_callI (As := []) (rest := [.ref a1]) C T (c_X10_init e7) k_RL_9 rfl hl.1 rfl (st1 := [.ref a1]) rfl (cells1 := 29) rfl (slots1 := 1955) rfl (Nat.le_of_ble_eq_true rfl) ⟨Nat.le_of_ble_eq_true rfl, Nat.le_of_ble_eq_true rfl⟩ ⟨Nat.le_of_ble_eq_true rfl, Nat.le_of_ble_eq_true rfl⟩ dL_law_4 (fun H locs T => ?_)
  refine lv_astore_n (lv' := [(1, .ref a1), (0, .ref b)]) hx hb dL_law_7 rfl hl (by decide) rfl (fun ls hl => ?_)
  obtain ⟨a8, σ9, μ10, e11, h⟩ := ob3 h
  refine n_RL_10 C T e11 (Nat.le_of_ble_eq_true rfl) (Nat.le_of_ble_eq_true rfl) dL_law_8 (fun H T => ?_)
  refine W.eqc (c1 := 30) (s1 := 1995) rfl rfl ?_
  refine lv_dup hx hb dL_law_11 rfl ?_
  obtain ⟨σ12, μ13, e14, h⟩ := ob2 h
  refine th_callI (As := []) (rest := [.ref a8]) C T (c_X11_init e14) k_RL_12 rfl hl.1 rfl (st1 := [.ref a8]) rfl (cells1 := 50) rfl (slots1 := 3703) rfl (Nat.le_of_ble_eq_true rfl) ⟨Nat.le_of_ble_eq_true rfl, Nat.le_of_ble_eq_true rfl⟩ ⟨Nat.le_of_ble_eq_true rfl, Nat.le_of_ble_eq_true rfl⟩ dL_law_12 (fun H locs T => ?_)
  refine lv_astore_n (lv' := [(2, .ref a8), (1, .ref a1), (0, .ref b)]) hx hb dL_law_15 rfl hl (by decide) rfl (fun ls hl => ?_)
  refine lv_iconst (v := 0) hx hb dL_law_16 (by decide) ?_
  refine lv_istore_n (lv' := [(3, .int 0), (2, .ref a8), (1, .ref a1), (0, .ref b)]) hx hb dL_law_17 rfl hl (by decide) rfl (fun ls hl => ?_)
  exact J18 513 50 3703 (by omega) (by omega) _ _ _ _ _ _ _ _ T (lv_sub hl [2, 1, 0, 3] rfl) h
