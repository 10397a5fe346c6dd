/-! THE FIXED CELLS: their kinds, lengths and references, and what the rows of ops are there -/
def sxK : List Nat := [10, 13, 12, 12, 8, 12, 12, 12, 14, 12, 9, 12, 12, 12, 15, 6, 12, 6, 12, 6, 12, 6, 12, 5, 12, 12, 12, 11, 12, 12, 12, 12, 12, 12, 12, 12, 12, 12, 12, 12, 12, 12, 12, 12, 12, 12, 12, 12]
def sxL : List (Nat × Nat) := [(0, 12), (1, 7), (2, 12), (3, 12), (4, 9), (5, 160), (6, 160), (7, 3), (8, 6), (9, 6), (10, 4), (11, 7), (12, 896), (13, 7), (14, 4), (15, 3), (16, 40), (17, 3), (18, 40), (19, 3), (20, 40), (21, 3), (22, 40), (23, 4), (25, 3), (26, 31), (27, 40), (28, 7), (29, 7), (30, 7), (31, 7), (32, 7), (33, 7), (34, 7), (35, 160), (36, 1020), (37, 24), (38, 170), (39, 6), (40, 7), (41, 7), (42, 7), (43, 50), (44, 4), (45, 4), (46, 160), (47, 40)]
def sxR : List (Nat × Nat × Nat) := [(0, 0, 1), (0, 2, 2), (0, 3, 3), (0, 5, 4), (0, 6, 8), (0, 8, 9), (0, 9, 10), (0, 10, 13), (0, 11, 14), (4, 0, 5), (4, 2, 6), (4, 4, 7), (10, 0, 11), (10, 3, 12), (14, 0, 15), (14, 1, 17), (14, 2, 19), (14, 3, 21), (15, 0, 16), (17, 0, 18), (19, 0, 20), (21, 0, 22), (27, 1, 28), (27, 2, 29), (27, 3, 30), (27, 4, 31), (27, 5, 32), (27, 6, 33), (27, 7, 34), (27, 16, 35), (27, 19, 36), (27, 20, 37), (27, 27, 38), (27, 28, 39), (27, 30, 40), (27, 31, 41), (27, 32, 42), (27, 35, 43), (27, 36, 44), (27, 37, 45), (27, 38, 46), (27, 39, 47)]
def SX (σ : th_S) (z : Nat) : Prop := (∀ k, k < 48 → σ.1 (z + k) = sxK.getD k 0) ∧ (∀ q ∈ sxL, σ.2.1 (z + q.1) = q.2) ∧ (∀ q ∈ sxR, σ.2.2.1 (z + q.1) q.2.1 = some (z + q.2.2)) ∧ z + 48 ≤ σ.2.2.2
theorem oA_nI {σ : th_S} {μ : th_M} {a b n : Nat} (h : σ.1 a = 12) (hl : σ.2.1 a = n) (hn : n ≤ 100000) (hb : b < n) : oA σ μ a (nI b) = some (μ a b) := by
  unfold oA
  rw [if_pos ⟨h, by rw [hl]; exact nI_in hb (by omega)⟩, nI_clamp (by omega)]
theorem oS_nI {σ : th_S} {μ : th_M} {a b n : Nat} {v : Int32} (h : σ.1 a = 12) (hl : σ.2.1 a = n) (hn : n ≤ 100000) (hb : b < n) : oS σ μ a (nI b) v = some (th_w μ a b v) := by
  unfold oS
  rw [if_pos ⟨h, by rw [hl]; exact nI_in hb (by omega)⟩, nI_clamp (by omega)]
theorem oQ_nI {σ : th_S} {c a b n d : Nat} (h : σ.1 a = c) (hl : σ.2.1 a = n) (hn : n ≤ 100000) (hb : b < n) (hr : σ.2.2.1 a b = some d) : oQ σ c a (nI b) = some d := by
  unfold oQ
  rw [if_pos ⟨h, by rw [hl]; exact nI_in hb (by omega)⟩, nI_clamp (by omega)]
  exact hr
theorem sk_0 {σ : th_S} {z : Nat} (h : SX σ z) : σ.1 z = 10 := h.1 0 (by decide)
theorem sl_0 {σ : th_S} {z : Nat} (h : SX σ z) : σ.2.1 z = 12 := h.2.1 (0, 12) (by decide)
theorem sk_1 {σ : th_S} {z : Nat} (h : SX σ z) : σ.1 (z + 1) = 13 := h.1 1 (by decide)
theorem sl_1 {σ : th_S} {z : Nat} (h : SX σ z) : σ.2.1 (z + 1) = 7 := h.2.1 (1, 7) (by decide)
theorem sk_2 {σ : th_S} {z : Nat} (h : SX σ z) : σ.1 (z + 2) = 12 := h.1 2 (by decide)
theorem sl_2 {σ : th_S} {z : Nat} (h : SX σ z) : σ.2.1 (z + 2) = 12 := h.2.1 (2, 12) (by decide)
theorem sk_3 {σ : th_S} {z : Nat} (h : SX σ z) : σ.1 (z + 3) = 12 := h.1 3 (by decide)
theorem sl_3 {σ : th_S} {z : Nat} (h : SX σ z) : σ.2.1 (z + 3) = 12 := h.2.1 (3, 12) (by decide)
theorem sk_4 {σ : th_S} {z : Nat} (h : SX σ z) : σ.1 (z + 4) = 8 := h.1 4 (by decide)
theorem sl_4 {σ : th_S} {z : Nat} (h : SX σ z) : σ.2.1 (z + 4) = 9 := h.2.1 (4, 9) (by decide)
theorem sk_5 {σ : th_S} {z : Nat} (h : SX σ z) : σ.1 (z + 5) = 12 := h.1 5 (by decide)
theorem sl_5 {σ : th_S} {z : Nat} (h : SX σ z) : σ.2.1 (z + 5) = 160 := h.2.1 (5, 160) (by decide)
theorem sk_6 {σ : th_S} {z : Nat} (h : SX σ z) : σ.1 (z + 6) = 12 := h.1 6 (by decide)
theorem sl_6 {σ : th_S} {z : Nat} (h : SX σ z) : σ.2.1 (z + 6) = 160 := h.2.1 (6, 160) (by decide)
theorem sk_7 {σ : th_S} {z : Nat} (h : SX σ z) : σ.1 (z + 7) = 12 := h.1 7 (by decide)
theorem sl_7 {σ : th_S} {z : Nat} (h : SX σ z) : σ.2.1 (z + 7) = 3 := h.2.1 (7, 3) (by decide)
theorem sk_8 {σ : th_S} {z : Nat} (h : SX σ z) : σ.1 (z + 8) = 14 := h.1 8 (by decide)
theorem sl_8 {σ : th_S} {z : Nat} (h : SX σ z) : σ.2.1 (z + 8) = 6 := h.2.1 (8, 6) (by decide)
theorem sk_9 {σ : th_S} {z : Nat} (h : SX σ z) : σ.1 (z + 9) = 12 := h.1 9 (by decide)
theorem sl_9 {σ : th_S} {z : Nat} (h : SX σ z) : σ.2.1 (z + 9) = 6 := h.2.1 (9, 6) (by decide)
theorem sk_10 {σ : th_S} {z : Nat} (h : SX σ z) : σ.1 (z + 10) = 9 := h.1 10 (by decide)
theorem sl_10 {σ : th_S} {z : Nat} (h : SX σ z) : σ.2.1 (z + 10) = 4 := h.2.1 (10, 4) (by decide)
theorem sk_11 {σ : th_S} {z : Nat} (h : SX σ z) : σ.1 (z + 11) = 12 := h.1 11 (by decide)
theorem sl_11 {σ : th_S} {z : Nat} (h : SX σ z) : σ.2.1 (z + 11) = 7 := h.2.1 (11, 7) (by decide)
theorem sk_12 {σ : th_S} {z : Nat} (h : SX σ z) : σ.1 (z + 12) = 12 := h.1 12 (by decide)
theorem sl_12 {σ : th_S} {z : Nat} (h : SX σ z) : σ.2.1 (z + 12) = 896 := h.2.1 (12, 896) (by decide)
theorem sk_13 {σ : th_S} {z : Nat} (h : SX σ z) : σ.1 (z + 13) = 12 := h.1 13 (by decide)
theorem sl_13 {σ : th_S} {z : Nat} (h : SX σ z) : σ.2.1 (z + 13) = 7 := h.2.1 (13, 7) (by decide)
theorem sk_14 {σ : th_S} {z : Nat} (h : SX σ z) : σ.1 (z + 14) = 15 := h.1 14 (by decide)
theorem sl_14 {σ : th_S} {z : Nat} (h : SX σ z) : σ.2.1 (z + 14) = 4 := h.2.1 (14, 4) (by decide)
theorem sk_15 {σ : th_S} {z : Nat} (h : SX σ z) : σ.1 (z + 15) = 6 := h.1 15 (by decide)
theorem sl_15 {σ : th_S} {z : Nat} (h : SX σ z) : σ.2.1 (z + 15) = 3 := h.2.1 (15, 3) (by decide)
theorem sk_16 {σ : th_S} {z : Nat} (h : SX σ z) : σ.1 (z + 16) = 12 := h.1 16 (by decide)
theorem sl_16 {σ : th_S} {z : Nat} (h : SX σ z) : σ.2.1 (z + 16) = 40 := h.2.1 (16, 40) (by decide)
theorem sk_17 {σ : th_S} {z : Nat} (h : SX σ z) : σ.1 (z + 17) = 6 := h.1 17 (by decide)
theorem sl_17 {σ : th_S} {z : Nat} (h : SX σ z) : σ.2.1 (z + 17) = 3 := h.2.1 (17, 3) (by decide)
theorem sk_18 {σ : th_S} {z : Nat} (h : SX σ z) : σ.1 (z + 18) = 12 := h.1 18 (by decide)
theorem sl_18 {σ : th_S} {z : Nat} (h : SX σ z) : σ.2.1 (z + 18) = 40 := h.2.1 (18, 40) (by decide)
theorem sk_19 {σ : th_S} {z : Nat} (h : SX σ z) : σ.1 (z + 19) = 6 := h.1 19 (by decide)
theorem sl_19 {σ : th_S} {z : Nat} (h : SX σ z) : σ.2.1 (z + 19) = 3 := h.2.1 (19, 3) (by decide)
theorem sk_20 {σ : th_S} {z : Nat} (h : SX σ z) : σ.1 (z + 20) = 12 := h.1 20 (by decide)
theorem sl_20 {σ : th_S} {z : Nat} (h : SX σ z) : σ.2.1 (z + 20) = 40 := h.2.1 (20, 40) (by decide)
theorem sk_21 {σ : th_S} {z : Nat} (h : SX σ z) : σ.1 (z + 21) = 6 := h.1 21 (by decide)
theorem sl_21 {σ : th_S} {z : Nat} (h : SX σ z) : σ.2.1 (z + 21) = 3 := h.2.1 (21, 3) (by decide)
theorem sk_22 {σ : th_S} {z : Nat} (h : SX σ z) : σ.1 (z + 22) = 12 := h.1 22 (by decide)
theorem sl_22 {σ : th_S} {z : Nat} (h : SX σ z) : σ.2.1 (z + 22) = 40 := h.2.1 (22, 40) (by decide)
theorem sk_23 {σ : th_S} {z : Nat} (h : SX σ z) : σ.1 (z + 23) = 5 := h.1 23 (by decide)
theorem sl_23 {σ : th_S} {z : Nat} (h : SX σ z) : σ.2.1 (z + 23) = 4 := h.2.1 (23, 4) (by decide)
theorem sk_24 {σ : th_S} {z : Nat} (h : SX σ z) : σ.1 (z + 24) = 12 := h.1 24 (by decide)
theorem sk_25 {σ : th_S} {z : Nat} (h : SX σ z) : σ.1 (z + 25) = 12 := h.1 25 (by decide)
theorem sl_25 {σ : th_S} {z : Nat} (h : SX σ z) : σ.2.1 (z + 25) = 3 := h.2.1 (25, 3) (by decide)
theorem sk_26 {σ : th_S} {z : Nat} (h : SX σ z) : σ.1 (z + 26) = 12 := h.1 26 (by decide)
theorem sl_26 {σ : th_S} {z : Nat} (h : SX σ z) : σ.2.1 (z + 26) = 31 := h.2.1 (26, 31) (by decide)
theorem sk_27 {σ : th_S} {z : Nat} (h : SX σ z) : σ.1 (z + 27) = 11 := h.1 27 (by decide)
theorem sl_27 {σ : th_S} {z : Nat} (h : SX σ z) : σ.2.1 (z + 27) = 40 := h.2.1 (27, 40) (by decide)
theorem sk_28 {σ : th_S} {z : Nat} (h : SX σ z) : σ.1 (z + 28) = 12 := h.1 28 (by decide)
theorem sl_28 {σ : th_S} {z : Nat} (h : SX σ z) : σ.2.1 (z + 28) = 7 := h.2.1 (28, 7) (by decide)
theorem sk_29 {σ : th_S} {z : Nat} (h : SX σ z) : σ.1 (z + 29) = 12 := h.1 29 (by decide)
theorem sl_29 {σ : th_S} {z : Nat} (h : SX σ z) : σ.2.1 (z + 29) = 7 := h.2.1 (29, 7) (by decide)
theorem sk_30 {σ : th_S} {z : Nat} (h : SX σ z) : σ.1 (z + 30) = 12 := h.1 30 (by decide)
theorem sl_30 {σ : th_S} {z : Nat} (h : SX σ z) : σ.2.1 (z + 30) = 7 := h.2.1 (30, 7) (by decide)
theorem sk_31 {σ : th_S} {z : Nat} (h : SX σ z) : σ.1 (z + 31) = 12 := h.1 31 (by decide)
theorem sl_31 {σ : th_S} {z : Nat} (h : SX σ z) : σ.2.1 (z + 31) = 7 := h.2.1 (31, 7) (by decide)
theorem sk_32 {σ : th_S} {z : Nat} (h : SX σ z) : σ.1 (z + 32) = 12 := h.1 32 (by decide)
theorem sl_32 {σ : th_S} {z : Nat} (h : SX σ z) : σ.2.1 (z + 32) = 7 := h.2.1 (32, 7) (by decide)
theorem sk_33 {σ : th_S} {z : Nat} (h : SX σ z) : σ.1 (z + 33) = 12 := h.1 33 (by decide)
theorem sl_33 {σ : th_S} {z : Nat} (h : SX σ z) : σ.2.1 (z + 33) = 7 := h.2.1 (33, 7) (by decide)
theorem sk_34 {σ : th_S} {z : Nat} (h : SX σ z) : σ.1 (z + 34) = 12 := h.1 34 (by decide)
theorem sl_34 {σ : th_S} {z : Nat} (h : SX σ z) : σ.2.1 (z + 34) = 7 := h.2.1 (34, 7) (by decide)
theorem sk_35 {σ : th_S} {z : Nat} (h : SX σ z) : σ.1 (z + 35) = 12 := h.1 35 (by decide)
theorem sl_35 {σ : th_S} {z : Nat} (h : SX σ z) : σ.2.1 (z + 35) = 160 := h.2.1 (35, 160) (by decide)
theorem sk_36 {σ : th_S} {z : Nat} (h : SX σ z) : σ.1 (z + 36) = 12 := h.1 36 (by decide)
theorem sl_36 {σ : th_S} {z : Nat} (h : SX σ z) : σ.2.1 (z + 36) = 1020 := h.2.1 (36, 1020) (by decide)
theorem sk_37 {σ : th_S} {z : Nat} (h : SX σ z) : σ.1 (z + 37) = 12 := h.1 37 (by decide)
theorem sl_37 {σ : th_S} {z : Nat} (h : SX σ z) : σ.2.1 (z + 37) = 24 := h.2.1 (37, 24) (by decide)
theorem sk_38 {σ : th_S} {z : Nat} (h : SX σ z) : σ.1 (z + 38) = 12 := h.1 38 (by decide)
theorem sl_38 {σ : th_S} {z : Nat} (h : SX σ z) : σ.2.1 (z + 38) = 170 := h.2.1 (38, 170) (by decide)
theorem sk_39 {σ : th_S} {z : Nat} (h : SX σ z) : σ.1 (z + 39) = 12 := h.1 39 (by decide)
theorem sl_39 {σ : th_S} {z : Nat} (h : SX σ z) : σ.2.1 (z + 39) = 6 := h.2.1 (39, 6) (by decide)
theorem sk_40 {σ : th_S} {z : Nat} (h : SX σ z) : σ.1 (z + 40) = 12 := h.1 40 (by decide)
theorem sl_40 {σ : th_S} {z : Nat} (h : SX σ z) : σ.2.1 (z + 40) = 7 := h.2.1 (40, 7) (by decide)
theorem sk_41 {σ : th_S} {z : Nat} (h : SX σ z) : σ.1 (z + 41) = 12 := h.1 41 (by decide)
theorem sl_41 {σ : th_S} {z : Nat} (h : SX σ z) : σ.2.1 (z + 41) = 7 := h.2.1 (41, 7) (by decide)
theorem sk_42 {σ : th_S} {z : Nat} (h : SX σ z) : σ.1 (z + 42) = 12 := h.1 42 (by decide)
theorem sl_42 {σ : th_S} {z : Nat} (h : SX σ z) : σ.2.1 (z + 42) = 7 := h.2.1 (42, 7) (by decide)
theorem sk_43 {σ : th_S} {z : Nat} (h : SX σ z) : σ.1 (z + 43) = 12 := h.1 43 (by decide)
theorem sl_43 {σ : th_S} {z : Nat} (h : SX σ z) : σ.2.1 (z + 43) = 50 := h.2.1 (43, 50) (by decide)
theorem sk_44 {σ : th_S} {z : Nat} (h : SX σ z) : σ.1 (z + 44) = 12 := h.1 44 (by decide)
theorem sl_44 {σ : th_S} {z : Nat} (h : SX σ z) : σ.2.1 (z + 44) = 4 := h.2.1 (44, 4) (by decide)
theorem sk_45 {σ : th_S} {z : Nat} (h : SX σ z) : σ.1 (z + 45) = 12 := h.1 45 (by decide)
theorem sl_45 {σ : th_S} {z : Nat} (h : SX σ z) : σ.2.1 (z + 45) = 4 := h.2.1 (45, 4) (by decide)
theorem sk_46 {σ : th_S} {z : Nat} (h : SX σ z) : σ.1 (z + 46) = 12 := h.1 46 (by decide)
theorem sl_46 {σ : th_S} {z : Nat} (h : SX σ z) : σ.2.1 (z + 46) = 160 := h.2.1 (46, 160) (by decide)
theorem sk_47 {σ : th_S} {z : Nat} (h : SX σ z) : σ.1 (z + 47) = 12 := h.1 47 (by decide)
theorem sl_47 {σ : th_S} {z : Nat} (h : SX σ z) : σ.2.1 (z + 47) = 40 := h.2.1 (47, 40) (by decide)
theorem sr_0_0 {σ : th_S} {z : Nat} (h : SX σ z) : σ.2.2.1 z 0 = some (z + 1) := h.2.2.1 (0, 0, 1) (by decide)
theorem r_0_0 {σ : th_S} {z : Nat} (h : SX σ z) : oR σ 10 z 0 = some (z + 1) := by unfold oR; rw [if_pos (sk_0 h)]; exact sr_0_0 h
theorem sr_0_2 {σ : th_S} {z : Nat} (h : SX σ z) : σ.2.2.1 z 2 = some (z + 2) := h.2.2.1 (0, 2, 2) (by decide)
theorem r_0_2 {σ : th_S} {z : Nat} (h : SX σ z) : oR σ 10 z 2 = some (z + 2) := by unfold oR; rw [if_pos (sk_0 h)]; exact sr_0_2 h
theorem sr_0_3 {σ : th_S} {z : Nat} (h : SX σ z) : σ.2.2.1 z 3 = some (z + 3) := h.2.2.1 (0, 3, 3) (by decide)
theorem r_0_3 {σ : th_S} {z : Nat} (h : SX σ z) : oR σ 10 z 3 = some (z + 3) := by unfold oR; rw [if_pos (sk_0 h)]; exact sr_0_3 h
theorem sr_0_5 {σ : th_S} {z : Nat} (h : SX σ z) : σ.2.2.1 z 5 = some (z + 4) := h.2.2.1 (0, 5, 4) (by decide)
theorem r_0_5 {σ : th_S} {z : Nat} (h : SX σ z) : oR σ 10 z 5 = some (z + 4) := by unfold oR; rw [if_pos (sk_0 h)]; exact sr_0_5 h
theorem sr_0_6 {σ : th_S} {z : Nat} (h : SX σ z) : σ.2.2.1 z 6 = some (z + 8) := h.2.2.1 (0, 6, 8) (by decide)
theorem r_0_6 {σ : th_S} {z : Nat} (h : SX σ z) : oR σ 10 z 6 = some (z + 8) := by unfold oR; rw [if_pos (sk_0 h)]; exact sr_0_6 h
theorem sr_0_8 {σ : th_S} {z : Nat} (h : SX σ z) : σ.2.2.1 z 8 = some (z + 9) := h.2.2.1 (0, 8, 9) (by decide)
theorem r_0_8 {σ : th_S} {z : Nat} (h : SX σ z) : oR σ 10 z 8 = some (z + 9) := by unfold oR; rw [if_pos (sk_0 h)]; exact sr_0_8 h
theorem sr_0_9 {σ : th_S} {z : Nat} (h : SX σ z) : σ.2.2.1 z 9 = some (z + 10) := h.2.2.1 (0, 9, 10) (by decide)
theorem r_0_9 {σ : th_S} {z : Nat} (h : SX σ z) : oR σ 10 z 9 = some (z + 10) := by unfold oR; rw [if_pos (sk_0 h)]; exact sr_0_9 h
theorem sr_0_10 {σ : th_S} {z : Nat} (h : SX σ z) : σ.2.2.1 z 10 = some (z + 13) := h.2.2.1 (0, 10, 13) (by decide)
theorem r_0_10 {σ : th_S} {z : Nat} (h : SX σ z) : oR σ 10 z 10 = some (z + 13) := by unfold oR; rw [if_pos (sk_0 h)]; exact sr_0_10 h
theorem sr_0_11 {σ : th_S} {z : Nat} (h : SX σ z) : σ.2.2.1 z 11 = some (z + 14) := h.2.2.1 (0, 11, 14) (by decide)
theorem r_0_11 {σ : th_S} {z : Nat} (h : SX σ z) : oR σ 10 z 11 = some (z + 14) := by unfold oR; rw [if_pos (sk_0 h)]; exact sr_0_11 h
theorem sr_4_0 {σ : th_S} {z : Nat} (h : SX σ z) : σ.2.2.1 (z + 4) 0 = some (z + 5) := h.2.2.1 (4, 0, 5) (by decide)
theorem r_4_0 {σ : th_S} {z : Nat} (h : SX σ z) : oR σ 8 (z + 4) 0 = some (z + 5) := by unfold oR; rw [if_pos (sk_4 h)]; exact sr_4_0 h
theorem sr_4_2 {σ : th_S} {z : Nat} (h : SX σ z) : σ.2.2.1 (z + 4) 2 = some (z + 6) := h.2.2.1 (4, 2, 6) (by decide)
theorem r_4_2 {σ : th_S} {z : Nat} (h : SX σ z) : oR σ 8 (z + 4) 2 = some (z + 6) := by unfold oR; rw [if_pos (sk_4 h)]; exact sr_4_2 h
theorem sr_4_4 {σ : th_S} {z : Nat} (h : SX σ z) : σ.2.2.1 (z + 4) 4 = some (z + 7) := h.2.2.1 (4, 4, 7) (by decide)
theorem r_4_4 {σ : th_S} {z : Nat} (h : SX σ z) : oR σ 8 (z + 4) 4 = some (z + 7) := by unfold oR; rw [if_pos (sk_4 h)]; exact sr_4_4 h
theorem sr_10_0 {σ : th_S} {z : Nat} (h : SX σ z) : σ.2.2.1 (z + 10) 0 = some (z + 11) := h.2.2.1 (10, 0, 11) (by decide)
theorem r_10_0 {σ : th_S} {z : Nat} (h : SX σ z) : oR σ 9 (z + 10) 0 = some (z + 11) := by unfold oR; rw [if_pos (sk_10 h)]; exact sr_10_0 h
theorem sr_10_3 {σ : th_S} {z : Nat} (h : SX σ z) : σ.2.2.1 (z + 10) 3 = some (z + 12) := h.2.2.1 (10, 3, 12) (by decide)
theorem r_10_3 {σ : th_S} {z : Nat} (h : SX σ z) : oR σ 9 (z + 10) 3 = some (z + 12) := by unfold oR; rw [if_pos (sk_10 h)]; exact sr_10_3 h
theorem sr_14_0 {σ : th_S} {z : Nat} (h : SX σ z) : σ.2.2.1 (z + 14) 0 = some (z + 15) := h.2.2.1 (14, 0, 15) (by decide)
theorem sr_14_1 {σ : th_S} {z : Nat} (h : SX σ z) : σ.2.2.1 (z + 14) 1 = some (z + 17) := h.2.2.1 (14, 1, 17) (by decide)
theorem sr_14_2 {σ : th_S} {z : Nat} (h : SX σ z) : σ.2.2.1 (z + 14) 2 = some (z + 19) := h.2.2.1 (14, 2, 19) (by decide)
theorem sr_14_3 {σ : th_S} {z : Nat} (h : SX σ z) : σ.2.2.1 (z + 14) 3 = some (z + 21) := h.2.2.1 (14, 3, 21) (by decide)
theorem sr_15_0 {σ : th_S} {z : Nat} (h : SX σ z) : σ.2.2.1 (z + 15) 0 = some (z + 16) := h.2.2.1 (15, 0, 16) (by decide)
theorem r_15_0 {σ : th_S} {z : Nat} (h : SX σ z) : oR σ 6 (z + 15) 0 = some (z + 16) := by unfold oR; rw [if_pos (sk_15 h)]; exact sr_15_0 h
theorem sr_17_0 {σ : th_S} {z : Nat} (h : SX σ z) : σ.2.2.1 (z + 17) 0 = some (z + 18) := h.2.2.1 (17, 0, 18) (by decide)
theorem r_17_0 {σ : th_S} {z : Nat} (h : SX σ z) : oR σ 6 (z + 17) 0 = some (z + 18) := by unfold oR; rw [if_pos (sk_17 h)]; exact sr_17_0 h
theorem sr_19_0 {σ : th_S} {z : Nat} (h : SX σ z) : σ.2.2.1 (z + 19) 0 = some (z + 20) := h.2.2.1 (19, 0, 20) (by decide)
theorem r_19_0 {σ : th_S} {z : Nat} (h : SX σ z) : oR σ 6 (z + 19) 0 = some (z + 20) := by unfold oR; rw [if_pos (sk_19 h)]; exact sr_19_0 h
theorem sr_21_0 {σ : th_S} {z : Nat} (h : SX σ z) : σ.2.2.1 (z + 21) 0 = some (z + 22) := h.2.2.1 (21, 0, 22) (by decide)
theorem r_21_0 {σ : th_S} {z : Nat} (h : SX σ z) : oR σ 6 (z + 21) 0 = some (z + 22) := by unfold oR; rw [if_pos (sk_21 h)]; exact sr_21_0 h
theorem sr_27_1 {σ : th_S} {z : Nat} (h : SX σ z) : σ.2.2.1 (z + 27) 1 = some (z + 28) := h.2.2.1 (27, 1, 28) (by decide)
theorem r_27_1 {σ : th_S} {z : Nat} (h : SX σ z) : oR σ 11 (z + 27) 1 = some (z + 28) := by unfold oR; rw [if_pos (sk_27 h)]; exact sr_27_1 h
theorem sr_27_2 {σ : th_S} {z : Nat} (h : SX σ z) : σ.2.2.1 (z + 27) 2 = some (z + 29) := h.2.2.1 (27, 2, 29) (by decide)
theorem r_27_2 {σ : th_S} {z : Nat} (h : SX σ z) : oR σ 11 (z + 27) 2 = some (z + 29) := by unfold oR; rw [if_pos (sk_27 h)]; exact sr_27_2 h
theorem sr_27_3 {σ : th_S} {z : Nat} (h : SX σ z) : σ.2.2.1 (z + 27) 3 = some (z + 30) := h.2.2.1 (27, 3, 30) (by decide)
theorem r_27_3 {σ : th_S} {z : Nat} (h : SX σ z) : oR σ 11 (z + 27) 3 = some (z + 30) := by unfold oR; rw [if_pos (sk_27 h)]; exact sr_27_3 h
theorem sr_27_4 {σ : th_S} {z : Nat} (h : SX σ z) : σ.2.2.1 (z + 27) 4 = some (z + 31) := h.2.2.1 (27, 4, 31) (by decide)
theorem r_27_4 {σ : th_S} {z : Nat} (h : SX σ z) : oR σ 11 (z + 27) 4 = some (z + 31) := by unfold oR; rw [if_pos (sk_27 h)]; exact sr_27_4 h
theorem sr_27_5 {σ : th_S} {z : Nat} (h : SX σ z) : σ.2.2.1 (z + 27) 5 = some (z + 32) := h.2.2.1 (27, 5, 32) (by decide)
theorem r_27_5 {σ : th_S} {z : Nat} (h : SX σ z) : oR σ 11 (z + 27) 5 = some (z + 32) := by unfold oR; rw [if_pos (sk_27 h)]; exact sr_27_5 h
theorem sr_27_6 {σ : th_S} {z : Nat} (h : SX σ z) : σ.2.2.1 (z + 27) 6 = some (z + 33) := h.2.2.1 (27, 6, 33) (by decide)
theorem r_27_6 {σ : th_S} {z : Nat} (h : SX σ z) : oR σ 11 (z + 27) 6 = some (z + 33) := by unfold oR; rw [if_pos (sk_27 h)]; exact sr_27_6 h
theorem sr_27_7 {σ : th_S} {z : Nat} (h : SX σ z) : σ.2.2.1 (z + 27) 7 = some (z + 34) := h.2.2.1 (27, 7, 34) (by decide)
theorem r_27_7 {σ : th_S} {z : Nat} (h : SX σ z) : oR σ 11 (z + 27) 7 = some (z + 34) := by unfold oR; rw [if_pos (sk_27 h)]; exact sr_27_7 h
theorem sr_27_16 {σ : th_S} {z : Nat} (h : SX σ z) : σ.2.2.1 (z + 27) 16 = some (z + 35) := h.2.2.1 (27, 16, 35) (by decide)
theorem r_27_16 {σ : th_S} {z : Nat} (h : SX σ z) : oR σ 11 (z + 27) 16 = some (z + 35) := by unfold oR; rw [if_pos (sk_27 h)]; exact sr_27_16 h
theorem sr_27_19 {σ : th_S} {z : Nat} (h : SX σ z) : σ.2.2.1 (z + 27) 19 = some (z + 36) := h.2.2.1 (27, 19, 36) (by decide)
theorem r_27_19 {σ : th_S} {z : Nat} (h : SX σ z) : oR σ 11 (z + 27) 19 = some (z + 36) := by unfold oR; rw [if_pos (sk_27 h)]; exact sr_27_19 h
theorem sr_27_20 {σ : th_S} {z : Nat} (h : SX σ z) : σ.2.2.1 (z + 27) 20 = some (z + 37) := h.2.2.1 (27, 20, 37) (by decide)
theorem r_27_20 {σ : th_S} {z : Nat} (h : SX σ z) : oR σ 11 (z + 27) 20 = some (z + 37) := by unfold oR; rw [if_pos (sk_27 h)]; exact sr_27_20 h
theorem sr_27_27 {σ : th_S} {z : Nat} (h : SX σ z) : σ.2.2.1 (z + 27) 27 = some (z + 38) := h.2.2.1 (27, 27, 38) (by decide)
theorem r_27_27 {σ : th_S} {z : Nat} (h : SX σ z) : oR σ 11 (z + 27) 27 = some (z + 38) := by unfold oR; rw [if_pos (sk_27 h)]; exact sr_27_27 h
theorem sr_27_28 {σ : th_S} {z : Nat} (h : SX σ z) : σ.2.2.1 (z + 27) 28 = some (z + 39) := h.2.2.1 (27, 28, 39) (by decide)
theorem r_27_28 {σ : th_S} {z : Nat} (h : SX σ z) : oR σ 11 (z + 27) 28 = some (z + 39) := by unfold oR; rw [if_pos (sk_27 h)]; exact sr_27_28 h
theorem sr_27_30 {σ : th_S} {z : Nat} (h : SX σ z) : σ.2.2.1 (z + 27) 30 = some (z + 40) := h.2.2.1 (27, 30, 40) (by decide)
theorem r_27_30 {σ : th_S} {z : Nat} (h : SX σ z) : oR σ 11 (z + 27) 30 = some (z + 40) := by unfold oR; rw [if_pos (sk_27 h)]; exact sr_27_30 h
theorem sr_27_31 {σ : th_S} {z : Nat} (h : SX σ z) : σ.2.2.1 (z + 27) 31 = some (z + 41) := h.2.2.1 (27, 31, 41) (by decide)
theorem r_27_31 {σ : th_S} {z : Nat} (h : SX σ z) : oR σ 11 (z + 27) 31 = some (z + 41) := by unfold oR; rw [if_pos (sk_27 h)]; exact sr_27_31 h
theorem sr_27_32 {σ : th_S} {z : Nat} (h : SX σ z) : σ.2.2.1 (z + 27) 32 = some (z + 42) := h.2.2.1 (27, 32, 42) (by decide)
theorem r_27_32 {σ : th_S} {z : Nat} (h : SX σ z) : oR σ 11 (z + 27) 32 = some (z + 42) := by unfold oR; rw [if_pos (sk_27 h)]; exact sr_27_32 h
theorem sr_27_35 {σ : th_S} {z : Nat} (h : SX σ z) : σ.2.2.1 (z + 27) 35 = some (z + 43) := h.2.2.1 (27, 35, 43) (by decide)
theorem r_27_35 {σ : th_S} {z : Nat} (h : SX σ z) : oR σ 11 (z + 27) 35 = some (z + 43) := by unfold oR; rw [if_pos (sk_27 h)]; exact sr_27_35 h
theorem sr_27_36 {σ : th_S} {z : Nat} (h : SX σ z) : σ.2.2.1 (z + 27) 36 = some (z + 44) := h.2.2.1 (27, 36, 44) (by decide)
theorem r_27_36 {σ : th_S} {z : Nat} (h : SX σ z) : oR σ 11 (z + 27) 36 = some (z + 44) := by unfold oR; rw [if_pos (sk_27 h)]; exact sr_27_36 h
theorem sr_27_37 {σ : th_S} {z : Nat} (h : SX σ z) : σ.2.2.1 (z + 27) 37 = some (z + 45) := h.2.2.1 (27, 37, 45) (by decide)
theorem r_27_37 {σ : th_S} {z : Nat} (h : SX σ z) : oR σ 11 (z + 27) 37 = some (z + 45) := by unfold oR; rw [if_pos (sk_27 h)]; exact sr_27_37 h
theorem sr_27_38 {σ : th_S} {z : Nat} (h : SX σ z) : σ.2.2.1 (z + 27) 38 = some (z + 46) := h.2.2.1 (27, 38, 46) (by decide)
theorem r_27_38 {σ : th_S} {z : Nat} (h : SX σ z) : oR σ 11 (z + 27) 38 = some (z + 46) := by unfold oR; rw [if_pos (sk_27 h)]; exact sr_27_38 h
theorem sr_27_39 {σ : th_S} {z : Nat} (h : SX σ z) : σ.2.2.1 (z + 27) 39 = some (z + 47) := h.2.2.1 (27, 39, 47) (by decide)
theorem r_27_39 {σ : th_S} {z : Nat} (h : SX σ z) : oR σ 11 (z + 27) 39 = some (z + 47) := by unfold oR; rw [if_pos (sk_27 h)]; exact sr_27_39 h
theorem i_0 {σ : th_S} {μ : th_M} {z : Nat} (h : SX σ z) (j : Nat) : oI σ μ 10 z j = some (μ z j) := by unfold oI; rw [if_pos (sk_0 h)]
theorem p_0 {σ : th_S} {μ : th_M} {z : Nat} (h : SX σ z) (j : Nat) (v : Int32) : oPI σ μ 10 z j v = some (th_w μ z j v) := by unfold oPI; rw [if_pos (sk_0 h)]
theorem c_0 {σ : th_S} {z : Nat} (h : SX σ z) {α : Type} (x : Option α) : oC σ 10 z x = x := by unfold oC; rw [if_pos (sk_0 h)]
theorem i_4 {σ : th_S} {μ : th_M} {z : Nat} (h : SX σ z) (j : Nat) : oI σ μ 8 (z + 4) j = some (μ (z + 4) j) := by unfold oI; rw [if_pos (sk_4 h)]
theorem p_4 {σ : th_S} {μ : th_M} {z : Nat} (h : SX σ z) (j : Nat) (v : Int32) : oPI σ μ 8 (z + 4) j v = some (th_w μ (z + 4) j v) := by unfold oPI; rw [if_pos (sk_4 h)]
theorem c_4 {σ : th_S} {z : Nat} (h : SX σ z) {α : Type} (x : Option α) : oC σ 8 (z + 4) x = x := by unfold oC; rw [if_pos (sk_4 h)]
theorem i_10 {σ : th_S} {μ : th_M} {z : Nat} (h : SX σ z) (j : Nat) : oI σ μ 9 (z + 10) j = some (μ (z + 10) j) := by unfold oI; rw [if_pos (sk_10 h)]
theorem p_10 {σ : th_S} {μ : th_M} {z : Nat} (h : SX σ z) (j : Nat) (v : Int32) : oPI σ μ 9 (z + 10) j v = some (th_w μ (z + 10) j v) := by unfold oPI; rw [if_pos (sk_10 h)]
theorem c_10 {σ : th_S} {z : Nat} (h : SX σ z) {α : Type} (x : Option α) : oC σ 9 (z + 10) x = x := by unfold oC; rw [if_pos (sk_10 h)]
theorem i_15 {σ : th_S} {μ : th_M} {z : Nat} (h : SX σ z) (j : Nat) : oI σ μ 6 (z + 15) j = some (μ (z + 15) j) := by unfold oI; rw [if_pos (sk_15 h)]
theorem p_15 {σ : th_S} {μ : th_M} {z : Nat} (h : SX σ z) (j : Nat) (v : Int32) : oPI σ μ 6 (z + 15) j v = some (th_w μ (z + 15) j v) := by unfold oPI; rw [if_pos (sk_15 h)]
theorem c_15 {σ : th_S} {z : Nat} (h : SX σ z) {α : Type} (x : Option α) : oC σ 6 (z + 15) x = x := by unfold oC; rw [if_pos (sk_15 h)]
theorem i_17 {σ : th_S} {μ : th_M} {z : Nat} (h : SX σ z) (j : Nat) : oI σ μ 6 (z + 17) j = some (μ (z + 17) j) := by unfold oI; rw [if_pos (sk_17 h)]
theorem p_17 {σ : th_S} {μ : th_M} {z : Nat} (h : SX σ z) (j : Nat) (v : Int32) : oPI σ μ 6 (z + 17) j v = some (th_w μ (z + 17) j v) := by unfold oPI; rw [if_pos (sk_17 h)]
theorem c_17 {σ : th_S} {z : Nat} (h : SX σ z) {α : Type} (x : Option α) : oC σ 6 (z + 17) x = x := by unfold oC; rw [if_pos (sk_17 h)]
theorem i_19 {σ : th_S} {μ : th_M} {z : Nat} (h : SX σ z) (j : Nat) : oI σ μ 6 (z + 19) j = some (μ (z + 19) j) := by unfold oI; rw [if_pos (sk_19 h)]
theorem p_19 {σ : th_S} {μ : th_M} {z : Nat} (h : SX σ z) (j : Nat) (v : Int32) : oPI σ μ 6 (z + 19) j v = some (th_w μ (z + 19) j v) := by unfold oPI; rw [if_pos (sk_19 h)]
theorem c_19 {σ : th_S} {z : Nat} (h : SX σ z) {α : Type} (x : Option α) : oC σ 6 (z + 19) x = x := by unfold oC; rw [if_pos (sk_19 h)]
theorem i_21 {σ : th_S} {μ : th_M} {z : Nat} (h : SX σ z) (j : Nat) : oI σ μ 6 (z + 21) j = some (μ (z + 21) j) := by unfold oI; rw [if_pos (sk_21 h)]
theorem p_21 {σ : th_S} {μ : th_M} {z : Nat} (h : SX σ z) (j : Nat) (v : Int32) : oPI σ μ 6 (z + 21) j v = some (th_w μ (z + 21) j v) := by unfold oPI; rw [if_pos (sk_21 h)]
theorem c_21 {σ : th_S} {z : Nat} (h : SX σ z) {α : Type} (x : Option α) : oC σ 6 (z + 21) x = x := by unfold oC; rw [if_pos (sk_21 h)]
theorem i_23 {σ : th_S} {μ : th_M} {z : Nat} (h : SX σ z) (j : Nat) : oI σ μ 5 (z + 23) j = some (μ (z + 23) j) := by unfold oI; rw [if_pos (sk_23 h)]
theorem p_23 {σ : th_S} {μ : th_M} {z : Nat} (h : SX σ z) (j : Nat) (v : Int32) : oPI σ μ 5 (z + 23) j v = some (th_w μ (z + 23) j v) := by unfold oPI; rw [if_pos (sk_23 h)]
theorem c_23 {σ : th_S} {z : Nat} (h : SX σ z) {α : Type} (x : Option α) : oC σ 5 (z + 23) x = x := by unfold oC; rw [if_pos (sk_23 h)]
theorem i_27 {σ : th_S} {μ : th_M} {z : Nat} (h : SX σ z) (j : Nat) : oI σ μ 11 (z + 27) j = some (μ (z + 27) j) := by unfold oI; rw [if_pos (sk_27 h)]
theorem p_27 {σ : th_S} {μ : th_M} {z : Nat} (h : SX σ z) (j : Nat) (v : Int32) : oPI σ μ 11 (z + 27) j v = some (th_w μ (z + 27) j v) := by unfold oPI; rw [if_pos (sk_27 h)]
theorem c_27 {σ : th_S} {z : Nat} (h : SX σ z) {α : Type} (x : Option α) : oC σ 11 (z + 27) x = x := by unfold oC; rw [if_pos (sk_27 h)]
theorem a_2 {σ : th_S} {μ : th_M} {z : Nat} (h : SX σ z) {b : Nat} (hb : b < 12) : oA σ μ (z + 2) (nI b) = some (μ (z + 2) b) := oA_nI (sk_2 h) (sl_2 h) (by decide) hb
theorem s_2 {σ : th_S} {μ : th_M} {z : Nat} (h : SX σ z) {b : Nat} {v : Int32} (hb : b < 12) : oS σ μ (z + 2) (nI b) v = some (th_w μ (z + 2) b v) := oS_nI (sk_2 h) (sl_2 h) (by decide) hb
theorem an_2 {σ : th_S} {μ : th_M} {z : Nat} (h : SX σ z) {b : Nat} (hb : b < 12) : oAn σ μ (z + 2) b = some (μ (z + 2) b) := by unfold oAn; rw [if_pos ⟨sk_2 h, by rw [sl_2 h]; exact hb⟩]
theorem sn_2 {σ : th_S} {μ : th_M} {z : Nat} (h : SX σ z) {b : Nat} {v : Int32} (hb : b < 12) : oSn σ μ (z + 2) b v = some (th_w μ (z + 2) b v) := by unfold oSn; rw [if_pos ⟨sk_2 h, by rw [sl_2 h]; exact hb⟩]
theorem a_3 {σ : th_S} {μ : th_M} {z : Nat} (h : SX σ z) {b : Nat} (hb : b < 12) : oA σ μ (z + 3) (nI b) = some (μ (z + 3) b) := oA_nI (sk_3 h) (sl_3 h) (by decide) hb
theorem s_3 {σ : th_S} {μ : th_M} {z : Nat} (h : SX σ z) {b : Nat} {v : Int32} (hb : b < 12) : oS σ μ (z + 3) (nI b) v = some (th_w μ (z + 3) b v) := oS_nI (sk_3 h) (sl_3 h) (by decide) hb
theorem an_3 {σ : th_S} {μ : th_M} {z : Nat} (h : SX σ z) {b : Nat} (hb : b < 12) : oAn σ μ (z + 3) b = some (μ (z + 3) b) := by unfold oAn; rw [if_pos ⟨sk_3 h, by rw [sl_3 h]; exact hb⟩]
theorem sn_3 {σ : th_S} {μ : th_M} {z : Nat} (h : SX σ z) {b : Nat} {v : Int32} (hb : b < 12) : oSn σ μ (z + 3) b v = some (th_w μ (z + 3) b v) := by unfold oSn; rw [if_pos ⟨sk_3 h, by rw [sl_3 h]; exact hb⟩]
theorem a_5 {σ : th_S} {μ : th_M} {z : Nat} (h : SX σ z) {b : Nat} (hb : b < 160) : oA σ μ (z + 5) (nI b) = some (μ (z + 5) b) := oA_nI (sk_5 h) (sl_5 h) (by decide) hb
theorem s_5 {σ : th_S} {μ : th_M} {z : Nat} (h : SX σ z) {b : Nat} {v : Int32} (hb : b < 160) : oS σ μ (z + 5) (nI b) v = some (th_w μ (z + 5) b v) := oS_nI (sk_5 h) (sl_5 h) (by decide) hb
theorem an_5 {σ : th_S} {μ : th_M} {z : Nat} (h : SX σ z) {b : Nat} (hb : b < 160) : oAn σ μ (z + 5) b = some (μ (z + 5) b) := by unfold oAn; rw [if_pos ⟨sk_5 h, by rw [sl_5 h]; exact hb⟩]
theorem sn_5 {σ : th_S} {μ : th_M} {z : Nat} (h : SX σ z) {b : Nat} {v : Int32} (hb : b < 160) : oSn σ μ (z + 5) b v = some (th_w μ (z + 5) b v) := by unfold oSn; rw [if_pos ⟨sk_5 h, by rw [sl_5 h]; exact hb⟩]
theorem a_6 {σ : th_S} {μ : th_M} {z : Nat} (h : SX σ z) {b : Nat} (hb : b < 160) : oA σ μ (z + 6) (nI b) = some (μ (z + 6) b) := oA_nI (sk_6 h) (sl_6 h) (by decide) hb
theorem s_6 {σ : th_S} {μ : th_M} {z : Nat} (h : SX σ z) {b : Nat} {v : Int32} (hb : b < 160) : oS σ μ (z + 6) (nI b) v = some (th_w μ (z + 6) b v) := oS_nI (sk_6 h) (sl_6 h) (by decide) hb
theorem an_6 {σ : th_S} {μ : th_M} {z : Nat} (h : SX σ z) {b : Nat} (hb : b < 160) : oAn σ μ (z + 6) b = some (μ (z + 6) b) := by unfold oAn; rw [if_pos ⟨sk_6 h, by rw [sl_6 h]; exact hb⟩]
theorem sn_6 {σ : th_S} {μ : th_M} {z : Nat} (h : SX σ z) {b : Nat} {v : Int32} (hb : b < 160) : oSn σ μ (z + 6) b v = some (th_w μ (z + 6) b v) := by unfold oSn; rw [if_pos ⟨sk_6 h, by rw [sl_6 h]; exact hb⟩]
theorem a_7 {σ : th_S} {μ : th_M} {z : Nat} (h : SX σ z) {b : Nat} (hb : b < 3) : oA σ μ (z + 7) (nI b) = some (μ (z + 7) b) := oA_nI (sk_7 h) (sl_7 h) (by decide) hb
theorem s_7 {σ : th_S} {μ : th_M} {z : Nat} (h : SX σ z) {b : Nat} {v : Int32} (hb : b < 3) : oS σ μ (z + 7) (nI b) v = some (th_w μ (z + 7) b v) := oS_nI (sk_7 h) (sl_7 h) (by decide) hb
theorem an_7 {σ : th_S} {μ : th_M} {z : Nat} (h : SX σ z) {b : Nat} (hb : b < 3) : oAn σ μ (z + 7) b = some (μ (z + 7) b) := by unfold oAn; rw [if_pos ⟨sk_7 h, by rw [sl_7 h]; exact hb⟩]
theorem sn_7 {σ : th_S} {μ : th_M} {z : Nat} (h : SX σ z) {b : Nat} {v : Int32} (hb : b < 3) : oSn σ μ (z + 7) b v = some (th_w μ (z + 7) b v) := by unfold oSn; rw [if_pos ⟨sk_7 h, by rw [sl_7 h]; exact hb⟩]
theorem a_9 {σ : th_S} {μ : th_M} {z : Nat} (h : SX σ z) {b : Nat} (hb : b < 6) : oA σ μ (z + 9) (nI b) = some (μ (z + 9) b) := oA_nI (sk_9 h) (sl_9 h) (by decide) hb
theorem s_9 {σ : th_S} {μ : th_M} {z : Nat} (h : SX σ z) {b : Nat} {v : Int32} (hb : b < 6) : oS σ μ (z + 9) (nI b) v = some (th_w μ (z + 9) b v) := oS_nI (sk_9 h) (sl_9 h) (by decide) hb
theorem an_9 {σ : th_S} {μ : th_M} {z : Nat} (h : SX σ z) {b : Nat} (hb : b < 6) : oAn σ μ (z + 9) b = some (μ (z + 9) b) := by unfold oAn; rw [if_pos ⟨sk_9 h, by rw [sl_9 h]; exact hb⟩]
theorem sn_9 {σ : th_S} {μ : th_M} {z : Nat} (h : SX σ z) {b : Nat} {v : Int32} (hb : b < 6) : oSn σ μ (z + 9) b v = some (th_w μ (z + 9) b v) := by unfold oSn; rw [if_pos ⟨sk_9 h, by rw [sl_9 h]; exact hb⟩]
theorem a_11 {σ : th_S} {μ : th_M} {z : Nat} (h : SX σ z) {b : Nat} (hb : b < 7) : oA σ μ (z + 11) (nI b) = some (μ (z + 11) b) := oA_nI (sk_11 h) (sl_11 h) (by decide) hb
theorem s_11 {σ : th_S} {μ : th_M} {z : Nat} (h : SX σ z) {b : Nat} {v : Int32} (hb : b < 7) : oS σ μ (z + 11) (nI b) v = some (th_w μ (z + 11) b v) := oS_nI (sk_11 h) (sl_11 h) (by decide) hb
theorem an_11 {σ : th_S} {μ : th_M} {z : Nat} (h : SX σ z) {b : Nat} (hb : b < 7) : oAn σ μ (z + 11) b = some (μ (z + 11) b) := by unfold oAn; rw [if_pos ⟨sk_11 h, by rw [sl_11 h]; exact hb⟩]
theorem sn_11 {σ : th_S} {μ : th_M} {z : Nat} (h : SX σ z) {b : Nat} {v : Int32} (hb : b < 7) : oSn σ μ (z + 11) b v = some (th_w μ (z + 11) b v) := by unfold oSn; rw [if_pos ⟨sk_11 h, by rw [sl_11 h]; exact hb⟩]
theorem a_12 {σ : th_S} {μ : th_M} {z : Nat} (h : SX σ z) {b : Nat} (hb : b < 896) : oA σ μ (z + 12) (nI b) = some (μ (z + 12) b) := oA_nI (sk_12 h) (sl_12 h) (by decide) hb
theorem s_12 {σ : th_S} {μ : th_M} {z : Nat} (h : SX σ z) {b : Nat} {v : Int32} (hb : b < 896) : oS σ μ (z + 12) (nI b) v = some (th_w μ (z + 12) b v) := oS_nI (sk_12 h) (sl_12 h) (by decide) hb
theorem an_12 {σ : th_S} {μ : th_M} {z : Nat} (h : SX σ z) {b : Nat} (hb : b < 896) : oAn σ μ (z + 12) b = some (μ (z + 12) b) := by unfold oAn; rw [if_pos ⟨sk_12 h, by rw [sl_12 h]; exact hb⟩]
theorem sn_12 {σ : th_S} {μ : th_M} {z : Nat} (h : SX σ z) {b : Nat} {v : Int32} (hb : b < 896) : oSn σ μ (z + 12) b v = some (th_w μ (z + 12) b v) := by unfold oSn; rw [if_pos ⟨sk_12 h, by rw [sl_12 h]; exact hb⟩]
theorem a_13 {σ : th_S} {μ : th_M} {z : Nat} (h : SX σ z) {b : Nat} (hb : b < 7) : oA σ μ (z + 13) (nI b) = some (μ (z + 13) b) := oA_nI (sk_13 h) (sl_13 h) (by decide) hb
theorem s_13 {σ : th_S} {μ : th_M} {z : Nat} (h : SX σ z) {b : Nat} {v : Int32} (hb : b < 7) : oS σ μ (z + 13) (nI b) v = some (th_w μ (z + 13) b v) := oS_nI (sk_13 h) (sl_13 h) (by decide) hb
theorem an_13 {σ : th_S} {μ : th_M} {z : Nat} (h : SX σ z) {b : Nat} (hb : b < 7) : oAn σ μ (z + 13) b = some (μ (z + 13) b) := by unfold oAn; rw [if_pos ⟨sk_13 h, by rw [sl_13 h]; exact hb⟩]
theorem sn_13 {σ : th_S} {μ : th_M} {z : Nat} (h : SX σ z) {b : Nat} {v : Int32} (hb : b < 7) : oSn σ μ (z + 13) b v = some (th_w μ (z + 13) b v) := by unfold oSn; rw [if_pos ⟨sk_13 h, by rw [sl_13 h]; exact hb⟩]
theorem a_16 {σ : th_S} {μ : th_M} {z : Nat} (h : SX σ z) {b : Nat} (hb : b < 40) : oA σ μ (z + 16) (nI b) = some (μ (z + 16) b) := oA_nI (sk_16 h) (sl_16 h) (by decide) hb
theorem s_16 {σ : th_S} {μ : th_M} {z : Nat} (h : SX σ z) {b : Nat} {v : Int32} (hb : b < 40) : oS σ μ (z + 16) (nI b) v = some (th_w μ (z + 16) b v) := oS_nI (sk_16 h) (sl_16 h) (by decide) hb
theorem an_16 {σ : th_S} {μ : th_M} {z : Nat} (h : SX σ z) {b : Nat} (hb : b < 40) : oAn σ μ (z + 16) b = some (μ (z + 16) b) := by unfold oAn; rw [if_pos ⟨sk_16 h, by rw [sl_16 h]; exact hb⟩]
theorem sn_16 {σ : th_S} {μ : th_M} {z : Nat} (h : SX σ z) {b : Nat} {v : Int32} (hb : b < 40) : oSn σ μ (z + 16) b v = some (th_w μ (z + 16) b v) := by unfold oSn; rw [if_pos ⟨sk_16 h, by rw [sl_16 h]; exact hb⟩]
theorem a_18 {σ : th_S} {μ : th_M} {z : Nat} (h : SX σ z) {b : Nat} (hb : b < 40) : oA σ μ (z + 18) (nI b) = some (μ (z + 18) b) := oA_nI (sk_18 h) (sl_18 h) (by decide) hb
theorem s_18 {σ : th_S} {μ : th_M} {z : Nat} (h : SX σ z) {b : Nat} {v : Int32} (hb : b < 40) : oS σ μ (z + 18) (nI b) v = some (th_w μ (z + 18) b v) := oS_nI (sk_18 h) (sl_18 h) (by decide) hb
theorem an_18 {σ : th_S} {μ : th_M} {z : Nat} (h : SX σ z) {b : Nat} (hb : b < 40) : oAn σ μ (z + 18) b = some (μ (z + 18) b) := by unfold oAn; rw [if_pos ⟨sk_18 h, by rw [sl_18 h]; exact hb⟩]
theorem sn_18 {σ : th_S} {μ : th_M} {z : Nat} (h : SX σ z) {b : Nat} {v : Int32} (hb : b < 40) : oSn σ μ (z + 18) b v = some (th_w μ (z + 18) b v) := by unfold oSn; rw [if_pos ⟨sk_18 h, by rw [sl_18 h]; exact hb⟩]
theorem a_20 {σ : th_S} {μ : th_M} {z : Nat} (h : SX σ z) {b : Nat} (hb : b < 40) : oA σ μ (z + 20) (nI b) = some (μ (z + 20) b) := oA_nI (sk_20 h) (sl_20 h) (by decide) hb
theorem s_20 {σ : th_S} {μ : th_M} {z : Nat} (h : SX σ z) {b : Nat} {v : Int32} (hb : b < 40) : oS σ μ (z + 20) (nI b) v = some (th_w μ (z + 20) b v) := oS_nI (sk_20 h) (sl_20 h) (by decide) hb
theorem an_20 {σ : th_S} {μ : th_M} {z : Nat} (h : SX σ z) {b : Nat} (hb : b < 40) : oAn σ μ (z + 20) b = some (μ (z + 20) b) := by unfold oAn; rw [if_pos ⟨sk_20 h, by rw [sl_20 h]; exact hb⟩]
theorem sn_20 {σ : th_S} {μ : th_M} {z : Nat} (h : SX σ z) {b : Nat} {v : Int32} (hb : b < 40) : oSn σ μ (z + 20) b v = some (th_w μ (z + 20) b v) := by unfold oSn; rw [if_pos ⟨sk_20 h, by rw [sl_20 h]; exact hb⟩]
theorem a_22 {σ : th_S} {μ : th_M} {z : Nat} (h : SX σ z) {b : Nat} (hb : b < 40) : oA σ μ (z + 22) (nI b) = some (μ (z + 22) b) := oA_nI (sk_22 h) (sl_22 h) (by decide) hb
theorem s_22 {σ : th_S} {μ : th_M} {z : Nat} (h : SX σ z) {b : Nat} {v : Int32} (hb : b < 40) : oS σ μ (z + 22) (nI b) v = some (th_w μ (z + 22) b v) := oS_nI (sk_22 h) (sl_22 h) (by decide) hb
theorem an_22 {σ : th_S} {μ : th_M} {z : Nat} (h : SX σ z) {b : Nat} (hb : b < 40) : oAn σ μ (z + 22) b = some (μ (z + 22) b) := by unfold oAn; rw [if_pos ⟨sk_22 h, by rw [sl_22 h]; exact hb⟩]
theorem sn_22 {σ : th_S} {μ : th_M} {z : Nat} (h : SX σ z) {b : Nat} {v : Int32} (hb : b < 40) : oSn σ μ (z + 22) b v = some (th_w μ (z + 22) b v) := by unfold oSn; rw [if_pos ⟨sk_22 h, by rw [sl_22 h]; exact hb⟩]
theorem a_25 {σ : th_S} {μ : th_M} {z : Nat} (h : SX σ z) {b : Nat} (hb : b < 3) : oA σ μ (z + 25) (nI b) = some (μ (z + 25) b) := oA_nI (sk_25 h) (sl_25 h) (by decide) hb
theorem s_25 {σ : th_S} {μ : th_M} {z : Nat} (h : SX σ z) {b : Nat} {v : Int32} (hb : b < 3) : oS σ μ (z + 25) (nI b) v = some (th_w μ (z + 25) b v) := oS_nI (sk_25 h) (sl_25 h) (by decide) hb
theorem an_25 {σ : th_S} {μ : th_M} {z : Nat} (h : SX σ z) {b : Nat} (hb : b < 3) : oAn σ μ (z + 25) b = some (μ (z + 25) b) := by unfold oAn; rw [if_pos ⟨sk_25 h, by rw [sl_25 h]; exact hb⟩]
theorem sn_25 {σ : th_S} {μ : th_M} {z : Nat} (h : SX σ z) {b : Nat} {v : Int32} (hb : b < 3) : oSn σ μ (z + 25) b v = some (th_w μ (z + 25) b v) := by unfold oSn; rw [if_pos ⟨sk_25 h, by rw [sl_25 h]; exact hb⟩]
theorem a_26 {σ : th_S} {μ : th_M} {z : Nat} (h : SX σ z) {b : Nat} (hb : b < 31) : oA σ μ (z + 26) (nI b) = some (μ (z + 26) b) := oA_nI (sk_26 h) (sl_26 h) (by decide) hb
theorem s_26 {σ : th_S} {μ : th_M} {z : Nat} (h : SX σ z) {b : Nat} {v : Int32} (hb : b < 31) : oS σ μ (z + 26) (nI b) v = some (th_w μ (z + 26) b v) := oS_nI (sk_26 h) (sl_26 h) (by decide) hb
theorem an_26 {σ : th_S} {μ : th_M} {z : Nat} (h : SX σ z) {b : Nat} (hb : b < 31) : oAn σ μ (z + 26) b = some (μ (z + 26) b) := by unfold oAn; rw [if_pos ⟨sk_26 h, by rw [sl_26 h]; exact hb⟩]
theorem sn_26 {σ : th_S} {μ : th_M} {z : Nat} (h : SX σ z) {b : Nat} {v : Int32} (hb : b < 31) : oSn σ μ (z + 26) b v = some (th_w μ (z + 26) b v) := by unfold oSn; rw [if_pos ⟨sk_26 h, by rw [sl_26 h]; exact hb⟩]
theorem a_28 {σ : th_S} {μ : th_M} {z : Nat} (h : SX σ z) {b : Nat} (hb : b < 7) : oA σ μ (z + 28) (nI b) = some (μ (z + 28) b) := oA_nI (sk_28 h) (sl_28 h) (by decide) hb
theorem s_28 {σ : th_S} {μ : th_M} {z : Nat} (h : SX σ z) {b : Nat} {v : Int32} (hb : b < 7) : oS σ μ (z + 28) (nI b) v = some (th_w μ (z + 28) b v) := oS_nI (sk_28 h) (sl_28 h) (by decide) hb
theorem an_28 {σ : th_S} {μ : th_M} {z : Nat} (h : SX σ z) {b : Nat} (hb : b < 7) : oAn σ μ (z + 28) b = some (μ (z + 28) b) := by unfold oAn; rw [if_pos ⟨sk_28 h, by rw [sl_28 h]; exact hb⟩]
theorem sn_28 {σ : th_S} {μ : th_M} {z : Nat} (h : SX σ z) {b : Nat} {v : Int32} (hb : b < 7) : oSn σ μ (z + 28) b v = some (th_w μ (z + 28) b v) := by unfold oSn; rw [if_pos ⟨sk_28 h, by rw [sl_28 h]; exact hb⟩]
theorem a_29 {σ : th_S} {μ : th_M} {z : Nat} (h : SX σ z) {b : Nat} (hb : b < 7) : oA σ μ (z + 29) (nI b) = some (μ (z + 29) b) := oA_nI (sk_29 h) (sl_29 h) (by decide) hb
theorem s_29 {σ : th_S} {μ : th_M} {z : Nat} (h : SX σ z) {b : Nat} {v : Int32} (hb : b < 7) : oS σ μ (z + 29) (nI b) v = some (th_w μ (z + 29) b v) := oS_nI (sk_29 h) (sl_29 h) (by decide) hb
theorem an_29 {σ : th_S} {μ : th_M} {z : Nat} (h : SX σ z) {b : Nat} (hb : b < 7) : oAn σ μ (z + 29) b = some (μ (z + 29) b) := by unfold oAn; rw [if_pos ⟨sk_29 h, by rw [sl_29 h]; exact hb⟩]
theorem sn_29 {σ : th_S} {μ : th_M} {z : Nat} (h : SX σ z) {b : Nat} {v : Int32} (hb : b < 7) : oSn σ μ (z + 29) b v = some (th_w μ (z + 29) b v) := by unfold oSn; rw [if_pos ⟨sk_29 h, by rw [sl_29 h]; exact hb⟩]
theorem a_30 {σ : th_S} {μ : th_M} {z : Nat} (h : SX σ z) {b : Nat} (hb : b < 7) : oA σ μ (z + 30) (nI b) = some (μ (z + 30) b) := oA_nI (sk_30 h) (sl_30 h) (by decide) hb
theorem s_30 {σ : th_S} {μ : th_M} {z : Nat} (h : SX σ z) {b : Nat} {v : Int32} (hb : b < 7) : oS σ μ (z + 30) (nI b) v = some (th_w μ (z + 30) b v) := oS_nI (sk_30 h) (sl_30 h) (by decide) hb
theorem an_30 {σ : th_S} {μ : th_M} {z : Nat} (h : SX σ z) {b : Nat} (hb : b < 7) : oAn σ μ (z + 30) b = some (μ (z + 30) b) := by unfold oAn; rw [if_pos ⟨sk_30 h, by rw [sl_30 h]; exact hb⟩]
theorem sn_30 {σ : th_S} {μ : th_M} {z : Nat} (h : SX σ z) {b : Nat} {v : Int32} (hb : b < 7) : oSn σ μ (z + 30) b v = some (th_w μ (z + 30) b v) := by unfold oSn; rw [if_pos ⟨sk_30 h, by rw [sl_30 h]; exact hb⟩]
theorem a_31 {σ : th_S} {μ : th_M} {z : Nat} (h : SX σ z) {b : Nat} (hb : b < 7) : oA σ μ (z + 31) (nI b) = some (μ (z + 31) b) := oA_nI (sk_31 h) (sl_31 h) (by decide) hb
theorem s_31 {σ : th_S} {μ : th_M} {z : Nat} (h : SX σ z) {b : Nat} {v : Int32} (hb : b < 7) : oS σ μ (z + 31) (nI b) v = some (th_w μ (z + 31) b v) := oS_nI (sk_31 h) (sl_31 h) (by decide) hb
theorem an_31 {σ : th_S} {μ : th_M} {z : Nat} (h : SX σ z) {b : Nat} (hb : b < 7) : oAn σ μ (z + 31) b = some (μ (z + 31) b) := by unfold oAn; rw [if_pos ⟨sk_31 h, by rw [sl_31 h]; exact hb⟩]
theorem sn_31 {σ : th_S} {μ : th_M} {z : Nat} (h : SX σ z) {b : Nat} {v : Int32} (hb : b < 7) : oSn σ μ (z + 31) b v = some (th_w μ (z + 31) b v) := by unfold oSn; rw [if_pos ⟨sk_31 h, by rw [sl_31 h]; exact hb⟩]
theorem a_32 {σ : th_S} {μ : th_M} {z : Nat} (h : SX σ z) {b : Nat} (hb : b < 7) : oA σ μ (z + 32) (nI b) = some (μ (z + 32) b) := oA_nI (sk_32 h) (sl_32 h) (by decide) hb
theorem s_32 {σ : th_S} {μ : th_M} {z : Nat} (h : SX σ z) {b : Nat} {v : Int32} (hb : b < 7) : oS σ μ (z + 32) (nI b) v = some (th_w μ (z + 32) b v) := oS_nI (sk_32 h) (sl_32 h) (by decide) hb
theorem an_32 {σ : th_S} {μ : th_M} {z : Nat} (h : SX σ z) {b : Nat} (hb : b < 7) : oAn σ μ (z + 32) b = some (μ (z + 32) b) := by unfold oAn; rw [if_pos ⟨sk_32 h, by rw [sl_32 h]; exact hb⟩]
theorem sn_32 {σ : th_S} {μ : th_M} {z : Nat} (h : SX σ z) {b : Nat} {v : Int32} (hb : b < 7) : oSn σ μ (z + 32) b v = some (th_w μ (z + 32) b v) := by unfold oSn; rw [if_pos ⟨sk_32 h, by rw [sl_32 h]; exact hb⟩]
theorem a_33 {σ : th_S} {μ : th_M} {z : Nat} (h : SX σ z) {b : Nat} (hb : b < 7) : oA σ μ (z + 33) (nI b) = some (μ (z + 33) b) := oA_nI (sk_33 h) (sl_33 h) (by decide) hb
theorem s_33 {σ : th_S} {μ : th_M} {z : Nat} (h : SX σ z) {b : Nat} {v : Int32} (hb : b < 7) : oS σ μ (z + 33) (nI b) v = some (th_w μ (z + 33) b v) := oS_nI (sk_33 h) (sl_33 h) (by decide) hb
theorem an_33 {σ : th_S} {μ : th_M} {z : Nat} (h : SX σ z) {b : Nat} (hb : b < 7) : oAn σ μ (z + 33) b = some (μ (z + 33) b) := by unfold oAn; rw [if_pos ⟨sk_33 h, by rw [sl_33 h]; exact hb⟩]
theorem sn_33 {σ : th_S} {μ : th_M} {z : Nat} (h : SX σ z) {b : Nat} {v : Int32} (hb : b < 7) : oSn σ μ (z + 33) b v = some (th_w μ (z + 33) b v) := by unfold oSn; rw [if_pos ⟨sk_33 h, by rw [sl_33 h]; exact hb⟩]
theorem a_34 {σ : th_S} {μ : th_M} {z : Nat} (h : SX σ z) {b : Nat} (hb : b < 7) : oA σ μ (z + 34) (nI b) = some (μ (z + 34) b) := oA_nI (sk_34 h) (sl_34 h) (by decide) hb
theorem s_34 {σ : th_S} {μ : th_M} {z : Nat} (h : SX σ z) {b : Nat} {v : Int32} (hb : b < 7) : oS σ μ (z + 34) (nI b) v = some (th_w μ (z + 34) b v) := oS_nI (sk_34 h) (sl_34 h) (by decide) hb
theorem an_34 {σ : th_S} {μ : th_M} {z : Nat} (h : SX σ z) {b : Nat} (hb : b < 7) : oAn σ μ (z + 34) b = some (μ (z + 34) b) := by unfold oAn; rw [if_pos ⟨sk_34 h, by rw [sl_34 h]; exact hb⟩]
theorem sn_34 {σ : th_S} {μ : th_M} {z : Nat} (h : SX σ z) {b : Nat} {v : Int32} (hb : b < 7) : oSn σ μ (z + 34) b v = some (th_w μ (z + 34) b v) := by unfold oSn; rw [if_pos ⟨sk_34 h, by rw [sl_34 h]; exact hb⟩]
theorem a_35 {σ : th_S} {μ : th_M} {z : Nat} (h : SX σ z) {b : Nat} (hb : b < 160) : oA σ μ (z + 35) (nI b) = some (μ (z + 35) b) := oA_nI (sk_35 h) (sl_35 h) (by decide) hb
theorem s_35 {σ : th_S} {μ : th_M} {z : Nat} (h : SX σ z) {b : Nat} {v : Int32} (hb : b < 160) : oS σ μ (z + 35) (nI b) v = some (th_w μ (z + 35) b v) := oS_nI (sk_35 h) (sl_35 h) (by decide) hb
theorem an_35 {σ : th_S} {μ : th_M} {z : Nat} (h : SX σ z) {b : Nat} (hb : b < 160) : oAn σ μ (z + 35) b = some (μ (z + 35) b) := by unfold oAn; rw [if_pos ⟨sk_35 h, by rw [sl_35 h]; exact hb⟩]
theorem sn_35 {σ : th_S} {μ : th_M} {z : Nat} (h : SX σ z) {b : Nat} {v : Int32} (hb : b < 160) : oSn σ μ (z + 35) b v = some (th_w μ (z + 35) b v) := by unfold oSn; rw [if_pos ⟨sk_35 h, by rw [sl_35 h]; exact hb⟩]
theorem a_36 {σ : th_S} {μ : th_M} {z : Nat} (h : SX σ z) {b : Nat} (hb : b < 1020) : oA σ μ (z + 36) (nI b) = some (μ (z + 36) b) := oA_nI (sk_36 h) (sl_36 h) (by decide) hb
theorem s_36 {σ : th_S} {μ : th_M} {z : Nat} (h : SX σ z) {b : Nat} {v : Int32} (hb : b < 1020) : oS σ μ (z + 36) (nI b) v = some (th_w μ (z + 36) b v) := oS_nI (sk_36 h) (sl_36 h) (by decide) hb
theorem an_36 {σ : th_S} {μ : th_M} {z : Nat} (h : SX σ z) {b : Nat} (hb : b < 1020) : oAn σ μ (z + 36) b = some (μ (z + 36) b) := by unfold oAn; rw [if_pos ⟨sk_36 h, by rw [sl_36 h]; exact hb⟩]
theorem sn_36 {σ : th_S} {μ : th_M} {z : Nat} (h : SX σ z) {b : Nat} {v : Int32} (hb : b < 1020) : oSn σ μ (z + 36) b v = some (th_w μ (z + 36) b v) := by unfold oSn; rw [if_pos ⟨sk_36 h, by rw [sl_36 h]; exact hb⟩]
theorem a_37 {σ : th_S} {μ : th_M} {z : Nat} (h : SX σ z) {b : Nat} (hb : b < 24) : oA σ μ (z + 37) (nI b) = some (μ (z + 37) b) := oA_nI (sk_37 h) (sl_37 h) (by decide) hb
theorem s_37 {σ : th_S} {μ : th_M} {z : Nat} (h : SX σ z) {b : Nat} {v : Int32} (hb : b < 24) : oS σ μ (z + 37) (nI b) v = some (th_w μ (z + 37) b v) := oS_nI (sk_37 h) (sl_37 h) (by decide) hb
theorem an_37 {σ : th_S} {μ : th_M} {z : Nat} (h : SX σ z) {b : Nat} (hb : b < 24) : oAn σ μ (z + 37) b = some (μ (z + 37) b) := by unfold oAn; rw [if_pos ⟨sk_37 h, by rw [sl_37 h]; exact hb⟩]
theorem sn_37 {σ : th_S} {μ : th_M} {z : Nat} (h : SX σ z) {b : Nat} {v : Int32} (hb : b < 24) : oSn σ μ (z + 37) b v = some (th_w μ (z + 37) b v) := by unfold oSn; rw [if_pos ⟨sk_37 h, by rw [sl_37 h]; exact hb⟩]
theorem a_38 {σ : th_S} {μ : th_M} {z : Nat} (h : SX σ z) {b : Nat} (hb : b < 170) : oA σ μ (z + 38) (nI b) = some (μ (z + 38) b) := oA_nI (sk_38 h) (sl_38 h) (by decide) hb
theorem s_38 {σ : th_S} {μ : th_M} {z : Nat} (h : SX σ z) {b : Nat} {v : Int32} (hb : b < 170) : oS σ μ (z + 38) (nI b) v = some (th_w μ (z + 38) b v) := oS_nI (sk_38 h) (sl_38 h) (by decide) hb
theorem an_38 {σ : th_S} {μ : th_M} {z : Nat} (h : SX σ z) {b : Nat} (hb : b < 170) : oAn σ μ (z + 38) b = some (μ (z + 38) b) := by unfold oAn; rw [if_pos ⟨sk_38 h, by rw [sl_38 h]; exact hb⟩]
theorem sn_38 {σ : th_S} {μ : th_M} {z : Nat} (h : SX σ z) {b : Nat} {v : Int32} (hb : b < 170) : oSn σ μ (z + 38) b v = some (th_w μ (z + 38) b v) := by unfold oSn; rw [if_pos ⟨sk_38 h, by rw [sl_38 h]; exact hb⟩]
theorem a_39 {σ : th_S} {μ : th_M} {z : Nat} (h : SX σ z) {b : Nat} (hb : b < 6) : oA σ μ (z + 39) (nI b) = some (μ (z + 39) b) := oA_nI (sk_39 h) (sl_39 h) (by decide) hb
theorem s_39 {σ : th_S} {μ : th_M} {z : Nat} (h : SX σ z) {b : Nat} {v : Int32} (hb : b < 6) : oS σ μ (z + 39) (nI b) v = some (th_w μ (z + 39) b v) := oS_nI (sk_39 h) (sl_39 h) (by decide) hb
theorem an_39 {σ : th_S} {μ : th_M} {z : Nat} (h : SX σ z) {b : Nat} (hb : b < 6) : oAn σ μ (z + 39) b = some (μ (z + 39) b) := by unfold oAn; rw [if_pos ⟨sk_39 h, by rw [sl_39 h]; exact hb⟩]
theorem sn_39 {σ : th_S} {μ : th_M} {z : Nat} (h : SX σ z) {b : Nat} {v : Int32} (hb : b < 6) : oSn σ μ (z + 39) b v = some (th_w μ (z + 39) b v) := by unfold oSn; rw [if_pos ⟨sk_39 h, by rw [sl_39 h]; exact hb⟩]
theorem a_40 {σ : th_S} {μ : th_M} {z : Nat} (h : SX σ z) {b : Nat} (hb : b < 7) : oA σ μ (z + 40) (nI b) = some (μ (z + 40) b) := oA_nI (sk_40 h) (sl_40 h) (by decide) hb
theorem s_40 {σ : th_S} {μ : th_M} {z : Nat} (h : SX σ z) {b : Nat} {v : Int32} (hb : b < 7) : oS σ μ (z + 40) (nI b) v = some (th_w μ (z + 40) b v) := oS_nI (sk_40 h) (sl_40 h) (by decide) hb
theorem an_40 {σ : th_S} {μ : th_M} {z : Nat} (h : SX σ z) {b : Nat} (hb : b < 7) : oAn σ μ (z + 40) b = some (μ (z + 40) b) := by unfold oAn; rw [if_pos ⟨sk_40 h, by rw [sl_40 h]; exact hb⟩]
theorem sn_40 {σ : th_S} {μ : th_M} {z : Nat} (h : SX σ z) {b : Nat} {v : Int32} (hb : b < 7) : oSn σ μ (z + 40) b v = some (th_w μ (z + 40) b v) := by unfold oSn; rw [if_pos ⟨sk_40 h, by rw [sl_40 h]; exact hb⟩]
theorem a_41 {σ : th_S} {μ : th_M} {z : Nat} (h : SX σ z) {b : Nat} (hb : b < 7) : oA σ μ (z + 41) (nI b) = some (μ (z + 41) b) := oA_nI (sk_41 h) (sl_41 h) (by decide) hb
theorem s_41 {σ : th_S} {μ : th_M} {z : Nat} (h : SX σ z) {b : Nat} {v : Int32} (hb : b < 7) : oS σ μ (z + 41) (nI b) v = some (th_w μ (z + 41) b v) := oS_nI (sk_41 h) (sl_41 h) (by decide) hb
theorem an_41 {σ : th_S} {μ : th_M} {z : Nat} (h : SX σ z) {b : Nat} (hb : b < 7) : oAn σ μ (z + 41) b = some (μ (z + 41) b) := by unfold oAn; rw [if_pos ⟨sk_41 h, by rw [sl_41 h]; exact hb⟩]
theorem sn_41 {σ : th_S} {μ : th_M} {z : Nat} (h : SX σ z) {b : Nat} {v : Int32} (hb : b < 7) : oSn σ μ (z + 41) b v = some (th_w μ (z + 41) b v) := by unfold oSn; rw [if_pos ⟨sk_41 h, by rw [sl_41 h]; exact hb⟩]
theorem a_42 {σ : th_S} {μ : th_M} {z : Nat} (h : SX σ z) {b : Nat} (hb : b < 7) : oA σ μ (z + 42) (nI b) = some (μ (z + 42) b) := oA_nI (sk_42 h) (sl_42 h) (by decide) hb
theorem s_42 {σ : th_S} {μ : th_M} {z : Nat} (h : SX σ z) {b : Nat} {v : Int32} (hb : b < 7) : oS σ μ (z + 42) (nI b) v = some (th_w μ (z + 42) b v) := oS_nI (sk_42 h) (sl_42 h) (by decide) hb
theorem an_42 {σ : th_S} {μ : th_M} {z : Nat} (h : SX σ z) {b : Nat} (hb : b < 7) : oAn σ μ (z + 42) b = some (μ (z + 42) b) := by unfold oAn; rw [if_pos ⟨sk_42 h, by rw [sl_42 h]; exact hb⟩]
theorem sn_42 {σ : th_S} {μ : th_M} {z : Nat} (h : SX σ z) {b : Nat} {v : Int32} (hb : b < 7) : oSn σ μ (z + 42) b v = some (th_w μ (z + 42) b v) := by unfold oSn; rw [if_pos ⟨sk_42 h, by rw [sl_42 h]; exact hb⟩]
theorem a_43 {σ : th_S} {μ : th_M} {z : Nat} (h : SX σ z) {b : Nat} (hb : b < 50) : oA σ μ (z + 43) (nI b) = some (μ (z + 43) b) := oA_nI (sk_43 h) (sl_43 h) (by decide) hb
theorem s_43 {σ : th_S} {μ : th_M} {z : Nat} (h : SX σ z) {b : Nat} {v : Int32} (hb : b < 50) : oS σ μ (z + 43) (nI b) v = some (th_w μ (z + 43) b v) := oS_nI (sk_43 h) (sl_43 h) (by decide) hb
theorem an_43 {σ : th_S} {μ : th_M} {z : Nat} (h : SX σ z) {b : Nat} (hb : b < 50) : oAn σ μ (z + 43) b = some (μ (z + 43) b) := by unfold oAn; rw [if_pos ⟨sk_43 h, by rw [sl_43 h]; exact hb⟩]
theorem sn_43 {σ : th_S} {μ : th_M} {z : Nat} (h : SX σ z) {b : Nat} {v : Int32} (hb : b < 50) : oSn σ μ (z + 43) b v = some (th_w μ (z + 43) b v) := by unfold oSn; rw [if_pos ⟨sk_43 h, by rw [sl_43 h]; exact hb⟩]
theorem a_44 {σ : th_S} {μ : th_M} {z : Nat} (h : SX σ z) {b : Nat} (hb : b < 4) : oA σ μ (z + 44) (nI b) = some (μ (z + 44) b) := oA_nI (sk_44 h) (sl_44 h) (by decide) hb
theorem s_44 {σ : th_S} {μ : th_M} {z : Nat} (h : SX σ z) {b : Nat} {v : Int32} (hb : b < 4) : oS σ μ (z + 44) (nI b) v = some (th_w μ (z + 44) b v) := oS_nI (sk_44 h) (sl_44 h) (by decide) hb
theorem an_44 {σ : th_S} {μ : th_M} {z : Nat} (h : SX σ z) {b : Nat} (hb : b < 4) : oAn σ μ (z + 44) b = some (μ (z + 44) b) := by unfold oAn; rw [if_pos ⟨sk_44 h, by rw [sl_44 h]; exact hb⟩]
theorem sn_44 {σ : th_S} {μ : th_M} {z : Nat} (h : SX σ z) {b : Nat} {v : Int32} (hb : b < 4) : oSn σ μ (z + 44) b v = some (th_w μ (z + 44) b v) := by unfold oSn; rw [if_pos ⟨sk_44 h, by rw [sl_44 h]; exact hb⟩]
theorem a_45 {σ : th_S} {μ : th_M} {z : Nat} (h : SX σ z) {b : Nat} (hb : b < 4) : oA σ μ (z + 45) (nI b) = some (μ (z + 45) b) := oA_nI (sk_45 h) (sl_45 h) (by decide) hb
theorem s_45 {σ : th_S} {μ : th_M} {z : Nat} (h : SX σ z) {b : Nat} {v : Int32} (hb : b < 4) : oS σ μ (z + 45) (nI b) v = some (th_w μ (z + 45) b v) := oS_nI (sk_45 h) (sl_45 h) (by decide) hb
theorem an_45 {σ : th_S} {μ : th_M} {z : Nat} (h : SX σ z) {b : Nat} (hb : b < 4) : oAn σ μ (z + 45) b = some (μ (z + 45) b) := by unfold oAn; rw [if_pos ⟨sk_45 h, by rw [sl_45 h]; exact hb⟩]
theorem sn_45 {σ : th_S} {μ : th_M} {z : Nat} (h : SX σ z) {b : Nat} {v : Int32} (hb : b < 4) : oSn σ μ (z + 45) b v = some (th_w μ (z + 45) b v) := by unfold oSn; rw [if_pos ⟨sk_45 h, by rw [sl_45 h]; exact hb⟩]
theorem a_46 {σ : th_S} {μ : th_M} {z : Nat} (h : SX σ z) {b : Nat} (hb : b < 160) : oA σ μ (z + 46) (nI b) = some (μ (z + 46) b) := oA_nI (sk_46 h) (sl_46 h) (by decide) hb
theorem s_46 {σ : th_S} {μ : th_M} {z : Nat} (h : SX σ z) {b : Nat} {v : Int32} (hb : b < 160) : oS σ μ (z + 46) (nI b) v = some (th_w μ (z + 46) b v) := oS_nI (sk_46 h) (sl_46 h) (by decide) hb
theorem an_46 {σ : th_S} {μ : th_M} {z : Nat} (h : SX σ z) {b : Nat} (hb : b < 160) : oAn σ μ (z + 46) b = some (μ (z + 46) b) := by unfold oAn; rw [if_pos ⟨sk_46 h, by rw [sl_46 h]; exact hb⟩]
theorem sn_46 {σ : th_S} {μ : th_M} {z : Nat} (h : SX σ z) {b : Nat} {v : Int32} (hb : b < 160) : oSn σ μ (z + 46) b v = some (th_w μ (z + 46) b v) := by unfold oSn; rw [if_pos ⟨sk_46 h, by rw [sl_46 h]; exact hb⟩]
theorem a_47 {σ : th_S} {μ : th_M} {z : Nat} (h : SX σ z) {b : Nat} (hb : b < 40) : oA σ μ (z + 47) (nI b) = some (μ (z + 47) b) := oA_nI (sk_47 h) (sl_47 h) (by decide) hb
theorem s_47 {σ : th_S} {μ : th_M} {z : Nat} (h : SX σ z) {b : Nat} {v : Int32} (hb : b < 40) : oS σ μ (z + 47) (nI b) v = some (th_w μ (z + 47) b v) := oS_nI (sk_47 h) (sl_47 h) (by decide) hb
theorem an_47 {σ : th_S} {μ : th_M} {z : Nat} (h : SX σ z) {b : Nat} (hb : b < 40) : oAn σ μ (z + 47) b = some (μ (z + 47) b) := by unfold oAn; rw [if_pos ⟨sk_47 h, by rw [sl_47 h]; exact hb⟩]
theorem sn_47 {σ : th_S} {μ : th_M} {z : Nat} (h : SX σ z) {b : Nat} {v : Int32} (hb : b < 40) : oSn σ μ (z + 47) b v = some (th_w μ (z + 47) b v) := by unfold oSn; rw [if_pos ⟨sk_47 h, by rw [sl_47 h]; exact hb⟩]
