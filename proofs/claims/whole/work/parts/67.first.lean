section FI
variable {z : Nat} {σ : th_S} {m a d op : Nat} {p : Nat → Int32} {μ μ' μ0 : th_M}
/-! the class's first text, read by the class alone -/
def XP (z m : Nat) (p : Nat → Int32) (μ0 μ : th_M) (d a : Nat) : Prop := PX z m p d a μ ∧ FX z μ0 μ ∧ a ≤ m
theorem XP.k (hU : XT σ z) (h : XP z m p μ0 μ d a) : oI σ μ 8 (z + 4) 7 = some (kT p m a) := by rw [ti_4 hU, h.1.2.2.2.1]
theorem XP.stp (hU : XT σ z) (h : XP z m p μ0 μ d a) : ∃ μ', f_X8_step σ μ (z + 4) = some μ' ∧ XP z m p μ0 μ' d (aN p m a) := by
  obtain ⟨⟨x1, x2, x3, x4, x5, x6⟩, ⟨f1, f2⟩, ham⟩ := h
  have l := eT_le (p := p) ham
  have l2 := aN_le (p := p) ham
  obtain ⟨μX', a1, a2, a3, a4, a5, a6, a7⟩ := x_step hU x1 x3 l.2.1
  exact ⟨μX', a1, ⟨x1.fr (a6 _ (by omega)) (a7 1 (by decide)), a2, a3, a4, a5, by rw [a7 3 (by decide)]; exact x6⟩, ⟨fun q h1 h2 => by rw [a6 q h1]; exact f1 q h1 h2, fun j hj => by rw [a7 j (by omega)]; exact f2 j hj⟩, l2.2⟩
theorem XP.put (hU : XT σ z) (h : XP z m p μ0 μ d a) (hd : d < 160) (w : Int32) : ∃ μ', f_X8_put σ μ (z + 4) w = some μ' ∧ XP z m p μ0 μ' (d + 1) a := by
  obtain ⟨⟨x1, x2, x3, x4, x5, x6⟩, ⟨f1, f2⟩, ham⟩ := h
  have X4 : ∀ j, th_w (th_w μ (z + 6) d w) (z + 4) 3 (nI (d + 1)) (z + 4) j = if j = 3 then nI (d + 1) else μ (z + 4) j := fun j => by
    rw [th_w_hit, th_w_ne _ _ (show z + 4 ≠ z + 6 by omega)]
  have Xq : ∀ q, q ≠ z + 4 → q ≠ z + 6 → th_w (th_w μ (z + 6) d w) (z + 4) 3 (nI (d + 1)) q = μ q := fun q h1 h2 => by
    rw [th_w_ne _ _ h1, th_w_ne _ _ h2]
  refine ⟨th_w (th_w μ (z + 6) d w) (z + 4) 3 (nI (d + 1)), ?_, ⟨x1.fr (Xq _ (by omega) (by omega)) (by rw [X4, if_neg (by decide)]), by rw [X4, if_neg (by decide)]; exact x2, by rw [X4, if_neg (by decide)]; exact x3, by rw [X4, if_neg (by decide)]; exact x4, fun q => by rw [X4, if_neg (by decide)]; exact x5 q, by rw [X4, if_pos rfl]⟩, ⟨fun q h1 h2 => by rw [Xq q h1 h2]; exact f1 q h1 h2, fun j hj => by rw [X4, if_neg (by omega)]; exact f2 j hj⟩, ham⟩
  unfold f_X8_put
  rw [ti_4 hU, Option.bind_some, x6, if_neg (show ¬ (160 : Int32) ≤ nI d from (nI_ge hd (by decide) : ¬ nI 160 ≤ nI d)), tr_4_2 hU, Option.bind_some, Option.bind_some, ts_6 hU hd, Option.bind_some, ti_4 hU, Option.bind_some, th_w_ne _ _ (show z + 4 ≠ z + 6 by omega), x6, tp_4 hU, Option.bind_some, nI_1]
theorem XP.emit (hU : XT σ z) (h : XP z m p μ0 μ d a) (hd : d < 160) (s : Int32) : ∃ μ', f_X8_emit σ μ (z + 4) s = some μ' ∧ XP z m p μ0 μ' (d + 1) a := by
  obtain ⟨μ', a1, a2⟩ := h.put hU hd ((-1) - s)
  refine ⟨μ', ?_, a2⟩
  unfold f_X8_emit
  rw [tc_4 hU, a1, Option.bind_some]
/-- a part goes through -/
def Gd (σ : th_S) (z m : Nat) (p : Nat → Int32) (μ0 : th_M) (k op f d a d' a' : Nat) : Prop := ∀ μ, XP z m p μ0 μ d a → ∃ μ', f_scc_X8_either f k σ μ (z + 4) (nI op) = some (1, μ') ∧ XP z m p μ0 μ' d' a'
theorem g_num (hU : XT σ z) {f : Nat} (hk : kT p m a = 12) (hd : d < 160) : Gd σ z m p μ0 6 op (f + 1) d a (d + 1) (aN p m a) := by
  intro μ h
  show ∃ μ', fb_X8_single (f_scc_X8_either f) σ μ (z + 4) (nI op) = some (1, μ') ∧ _
  unfold fb_X8_single
  rw [h.k hU, Option.bind_some, if_pos hk, ti_4 hU, Option.bind_some, tc_4 hU]
  obtain ⟨u1, a1, a2⟩ := h.put hU hd (μ (z + 4) 8)
  obtain ⟨u2, b1, b2⟩ := a2.stp hU
  rw [a1, Option.bind_some, b1, Option.bind_some]
  exact ⟨u2, rfl, b2⟩
theorem g_nam (hU : XT σ z) {f w : Nat} (hw : w < 6) (hk : kT p m a = nI w) (hd : d < 160) : Gd σ z m p μ0 6 op (f + 1) d a (d + 1) (aN p m a) := by
  intro μ h
  show ∃ μ', fb_X8_single (f_scc_X8_either f) σ μ (z + 4) (nI op) = some (1, μ') ∧ _
  unfold fb_X8_single
  rw [h.k hU]
  simp only [Option.bind_some]
  rw [hk, if_neg (show ¬ nI w = 12 from fun q => by have := (nI_eq (by omega) (by decide) : nI w = nI 12 ↔ w = 12).mp q; omega), if_neg (nI_pos (by omega)), if_neg (show ¬ (6 : Int32) ≤ nI w from (nI_ge hw (by decide) : ¬ nI 6 ≤ nI w)), tc_4 hU]
  obtain ⟨u1, a1, a2⟩ := h.emit hU hd (nI w)
  obtain ⟨u2, b1, b2⟩ := a2.stp hU
  rw [a1, Option.bind_some, b1, Option.bind_some]
  exact ⟨u2, rfl, b2⟩
theorem g_prod (hU : XT σ z) {f d' a' : Nat} (g : Gd σ z m p μ0 6 op f d a d' a') (hk : kT p m a' ≠ 42) : Gd σ z m p μ0 5 op (f + 1) d a d' a' := by
  intro μ h
  obtain ⟨u, a1, a2⟩ := g μ h
  refine ⟨u, ?_, a2⟩
  show oC σ 8 (z + 4) (b2 (f_scc_X8_either f 6 σ μ (z + 4) (nI op)) fun v1 μ2 => if v1 = 0 then some (0, μ2) else f_X8_product_b12 (f_scc_X8_either f) fu σ μ2 (z + 4) (nI op) 0) = _
  rw [tc_4 hU, a1, b2s, if_neg n10]
  show (if (160 : Int32) ≤ 0 then _ else _) = _
  rw [if_neg (by decide), a2.k hU, Option.bind_some, if_neg hk]
theorem g_sum (hU : XT σ z) {f d' a' : Nat} (g : Gd σ z m p μ0 5 op f d a d' a') (hk : kT p m a' ≠ 43) (hk2 : kT p m a' ≠ 45) : Gd σ z m p μ0 4 op (f + 1) d a d' a' := by
  intro μ h
  obtain ⟨u, a1, a2⟩ := g μ h
  refine ⟨u, ?_, a2⟩
  show oC σ 8 (z + 4) (b2 (f_scc_X8_either f 5 σ μ (z + 4) (nI op)) fun v1 μ2 => if v1 = 0 then some (0, μ2) else f_X8_sum_b12 (f_scc_X8_either f) fu σ μ2 (z + 4) (nI op) 0) = _
  rw [tc_4 hU, a1, b2s, if_neg n10]
  show (if (160 : Int32) ≤ 0 then _ else _) = _
  rw [if_neg (by decide), a2.k hU, Option.bind_some, if_neg hk, Option.bind_some, if_neg hk2]
theorem g_sum1 (hU : XT σ z) {f d1 a1 d2 a2 : Nat} (g : Gd σ z m p μ0 5 op f d a d1 a1) (hk : kT p m a1 = 45) (g2 : Gd σ z m p μ0 5 op f d1 (aN p m a1) d2 a2) (hd : d2 < 160) (hk1 : kT p m a2 ≠ 43) (hk2 : kT p m a2 ≠ 45) : Gd σ z m p μ0 4 op (f + 1) d a (d2 + 1) a2 := by
  intro μ h
  obtain ⟨u, x1, x2⟩ := g μ h
  obtain ⟨u1, y1, y2⟩ := x2.stp hU
  obtain ⟨u2, w1, w2⟩ := g2 u1 y2
  obtain ⟨u3, q1, q2⟩ := w2.emit hU hd 45
  refine ⟨u3, ?_, q2⟩
  show oC σ 8 (z + 4) (b2 (f_scc_X8_either f 5 σ μ (z + 4) (nI op)) fun v1 μ2 => if v1 = 0 then some (0, μ2) else f_X8_sum_b12 (f_scc_X8_either f) fu σ μ2 (z + 4) (nI op) 0) = _
  rw [tc_4 hU, x1, b2s, if_neg n10]
  show (if (160 : Int32) ≤ 0 then _ else _) = _
  rw [if_neg (by decide), x2.k hU, Option.bind_some, if_neg (by rw [hk]; decide), Option.bind_some, if_pos hk]
  unfold f_X8_sum_b37
  rw [x2.k hU, Option.bind_some, tc_4 hU, y1, Option.bind_some, w1, b2s, if_neg n10, hk, q1, Option.bind_some]
  show (if (160 : Int32) ≤ 0 + 1 then _ else _) = _
  rw [if_neg (by decide), q2.k hU, Option.bind_some, if_neg hk1, Option.bind_some, if_neg hk2]
theorem g_cmp (hU : XT σ z) {f d' a' : Nat} (g : Gd σ z m p μ0 4 op f d a d' a') (hk : kT p m a' ≠ 60) (hk2 : kT p m a' ≠ 61) : Gd σ z m p μ0 3 op (f + 1) d a d' a' := by
  intro μ h
  obtain ⟨u, a1, a2⟩ := g μ h
  refine ⟨u, ?_, a2⟩
  show fb_X8_compared (f_scc_X8_either f) σ μ (z + 4) (nI op) = _
  unfold fb_X8_compared
  rw [tc_4 hU, a1, b2s, if_neg n10, a2.k hU, Option.bind_some, if_neg hk, if_neg hk2]
theorem g_cmp1 (hU : XT σ z) {f d1 a1 d2 a2 : Nat} (g : Gd σ z m p μ0 4 op f d a d1 a1) (hk : kT p m a1 = 60) (g2 : Gd σ z m p μ0 4 op f d1 (aN p m a1) d2 a2) (hd : d2 < 160) : Gd σ z m p μ0 3 op (f + 1) d a (d2 + 1) a2 := by
  intro μ h
  obtain ⟨u, x1, x2⟩ := g μ h
  obtain ⟨u1, y1, y2⟩ := x2.stp hU
  obtain ⟨u2, w1, w2⟩ := g2 u1 y2
  obtain ⟨u3, q1, q2⟩ := w2.emit hU hd 60
  refine ⟨u3, ?_, q2⟩
  show fb_X8_compared (f_scc_X8_either f) σ μ (z + 4) (nI op) = _
  unfold fb_X8_compared f_X8_compared_b29
  rw [tc_4 hU, x1, b2s, if_neg n10, x2.k hU, Option.bind_some, hk, if_pos rfl, tc_4 hU, y1, Option.bind_some, w1, b2s, if_neg n10, q1, Option.bind_some]
theorem g_den (hU : XT σ z) {f d' a' : Nat} (g : Gd σ z m p μ0 3 op f d a d' a') (hk : kT p m a ≠ 11) : Gd σ z m p μ0 2 op (f + 1) d a d' a' := by
  intro μ h
  obtain ⟨u, a1, a2⟩ := g μ h
  refine ⟨u, ?_, a2⟩
  show fb_X8_denied (f_scc_X8_either f) σ μ (z + 4) (nI op) = _
  unfold fb_X8_denied
  rw [h.k hU, Option.bind_some, if_neg hk, tc_4 hU, a1, b2s]
  rfl
theorem g_den1 (hU : XT σ z) {f d' a' : Nat} (ho : op < 5) (hk : kT p m a = 11) (g : Gd σ z m p μ0 2 (op + 1) f d (aN p m a) d' a') (hd : d' < 160) : Gd σ z m p μ0 2 op (f + 1) d a (d' + 1) a' := by
  intro μ h
  obtain ⟨u1, y1, y2⟩ := h.stp hU
  obtain ⟨u2, w1, w2⟩ := g u1 y2
  obtain ⟨u3, q1, q2⟩ := w2.emit hU hd 11
  refine ⟨u3, ?_, q2⟩
  show fb_X8_denied (f_scc_X8_either f) σ μ (z + 4) (nI op) = _
  unfold fb_X8_denied
  rw [h.k hU, Option.bind_some, if_pos hk, if_pos (show nI op < 5 from (nI_lt ho (by decide) : nI op < nI 5)), tc_4 hU, y1, Option.bind_some, nI_1, w1, b2s, if_neg n10, q1, Option.bind_some]
theorem g_both (hU : XT σ z) {f d' a' : Nat} (g : Gd σ z m p μ0 2 op f d a d' a') (hk : kT p m a' ≠ 10) : Gd σ z m p μ0 1 op (f + 1) d a d' a' := by
  intro μ h
  obtain ⟨u, a1, a2⟩ := g μ h
  refine ⟨u, ?_, a2⟩
  show oC σ 8 (z + 4) (b2 (f_scc_X8_either f 2 σ μ (z + 4) (nI op)) fun v1 μ2 => if v1 = 0 then some (0, μ2) else f_X8_both_b12 (f_scc_X8_either f) fu σ μ2 (z + 4) (nI op) 0) = _
  rw [tc_4 hU, a1, b2s, if_neg n10]
  show (if (160 : Int32) ≤ 0 then _ else _) = _
  rw [if_neg (by decide), a2.k hU, Option.bind_some, if_neg hk]
theorem g_eith (hU : XT σ z) {f d' a' : Nat} (g : Gd σ z m p μ0 1 op f d a d' a') (hk : kT p m a' ≠ 9) : Gd σ z m p μ0 0 op (f + 1) d a d' a' := by
  intro μ h
  obtain ⟨u, a1, a2⟩ := g μ h
  refine ⟨u, ?_, a2⟩
  show oC σ 8 (z + 4) (b2 (f_scc_X8_either f 1 σ μ (z + 4) (nI op)) fun v1 μ2 => if v1 = 0 then some (0, μ2) else f_X8_either_b12 (f_scc_X8_either f) fu σ μ2 (z + 4) (nI op) 0) = _
  rw [tc_4 hU, a1, b2s, if_neg n10]
  show (if (160 : Int32) ≤ 0 then _ else _) = _
  rw [if_neg (by decide), a2.k hU, Option.bind_some, if_neg hk]
theorem g_clause (hU : XT σ z) {i d' a' : Nat} (hk : kT p m a = nI (6 + i)) (g : Gd σ z m p μ0 0 0 64 d (aN p m a) d' a') (hk2 : kT p m a' = 59) (h : XP z m p μ0 μ d a) : ∃ μ', f_X8_clauseOf σ μ (z + 4) (nI (6 + i)) = some (1, μ') ∧ XP z m p μ0 μ' d' (aN p m a') := by
  obtain ⟨u1, y1, y2⟩ := h.stp hU
  obtain ⟨u2, w1, w2⟩ := g u1 y2
  obtain ⟨u3, q1, q2⟩ := w2.stp hU
  refine ⟨u3, ?_, q2⟩
  unfold f_X8_clauseOf f_X8_skip f_X8_either
  rw [tc_4 hU, h.k hU, Option.bind_some, if_pos hk, tc_4 hU, y1, Option.bind_some, b2s, if_neg n10, show f_scc_X8_either 64 0 σ u1 (z + 4) 0 = _ from w1, b2s, if_neg n10, w2.k hU, Option.bind_some, if_pos hk2, tc_4 hU, q1, Option.bind_some, b2s, if_neg n10]
def FT : Nat → Int32 := fun i => wbyte 0 i
theorem ft_k : kT FT 46 0 = nI 6 ∧ kT FT 46 6 = 12 ∧ kT FT 46 8 = 59 ∧ kT FT 46 10 = nI 7 ∧ kT FT 46 16 = 11 ∧ kT FT 46 20 = nI 3 ∧ kT FT 46 24 = 59 ∧ kT FT 46 26 = nI 8 ∧ kT FT 46 32 = 12 ∧ kT FT 46 34 = 45 ∧ kT FT 46 36 = 12 ∧ kT FT 46 38 = 60 ∧ kT FT 46 40 = nI 2 ∧ kT FT 46 45 = 59 ∧ kT FT 46 46 = -1 := by decide +kernel
theorem ft_a : sk FT 46 0 = 0 ∧ aN FT 46 0 = 6 ∧ aN FT 46 6 = 8 ∧ aN FT 46 8 = 10 ∧ aN FT 46 10 = 16 ∧ aN FT 46 16 = 20 ∧ aN FT 46 20 = 24 ∧ aN FT 46 24 = 26 ∧ aN FT 46 26 = 32 ∧ aN FT 46 32 = 34 ∧ aN FT 46 34 = 36 ∧ aN FT 46 36 = 38 ∧ aN FT 46 38 = 40 ∧ aN FT 46 40 = 45 ∧ aN FT 46 45 = 46 := by decide +kernel
theorem ft_1 (hU : XT σ z) : Gd σ z 46 FT μ0 0 0 64 0 6 1 8 := by
  obtain ⟨k0, k6, k8, k10, k16, k20, k24, k26, k32, k34, k36, k38, k40, k45, k46⟩ := ft_k
  obtain ⟨s0, a0, a6, a8, a10, a16, a20, a24, a26, a32, a34, a36, a38, a40, a45⟩ := ft_a
  have g := g_num (σ := σ) (z := z) (μ0 := μ0) (op := 0) (f := 57) (d := 0) hU k6 (by decide)
  rw [a6] at g
  exact g_eith hU (g_both hU (g_den hU (g_cmp hU (g_sum hU (g_prod hU g (by rw [k8]; decide)) (by rw [k8]; decide) (by rw [k8]; decide)) (by rw [k8]; decide) (by rw [k8]; decide)) (by rw [k6]; decide)) (by rw [k8]; decide)) (by rw [k8]; decide)
theorem ft_2 (hU : XT σ z) : Gd σ z 46 FT μ0 0 0 64 1 16 3 24 := by
  obtain ⟨k0, k6, k8, k10, k16, k20, k24, k26, k32, k34, k36, k38, k40, k45, k46⟩ := ft_k
  obtain ⟨s0, a0, a6, a8, a10, a16, a20, a24, a26, a32, a34, a36, a38, a40, a45⟩ := ft_a
  have g := g_nam (σ := σ) (z := z) (μ0 := μ0) (op := 1) (f := 56) (d := 1) hU (by decide) k20 (by decide)
  rw [a20] at g
  have g1 := g_den hU (g_cmp hU (g_sum hU (g_prod hU g (by rw [k24]; decide)) (by rw [k24]; decide) (by rw [k24]; decide)) (by rw [k24]; decide) (by rw [k24]; decide)) (by rw [k20]; decide)
  rw [← a16] at g1
  exact g_eith hU (g_both hU (g_den1 hU (by decide) k16 g1 (by decide)) (by rw [k24]; decide)) (by rw [k24]; decide)
theorem ft_3 (hU : XT σ z) : Gd σ z 46 FT μ0 0 0 64 3 32 8 45 := by
  obtain ⟨k0, k6, k8, k10, k16, k20, k24, k26, k32, k34, k36, k38, k40, k45, k46⟩ := ft_k
  obtain ⟨s0, a0, a6, a8, a10, a16, a20, a24, a26, a32, a34, a36, a38, a40, a45⟩ := ft_a
  have g1 := g_num (σ := σ) (z := z) (μ0 := μ0) (op := 0) (f := 57) (d := 3) hU k32 (by decide)
  rw [a32] at g1
  have g2 := g_num (σ := σ) (z := z) (μ0 := μ0) (op := 0) (f := 57) (d := 4) hU k36 (by decide)
  rw [a36] at g2
  have g3 := g_nam (σ := σ) (z := z) (μ0 := μ0) (op := 0) (f := 57) (d := 6) hU (by decide) k40 (by decide)
  rw [a40] at g3
  have p1 := g_prod hU g1 (by rw [k34]; decide)
  have p2 := g_prod hU g2 (by rw [k38]; decide)
  rw [← a34] at p2
  have s1 := g_sum1 hU p1 k34 p2 (by decide) (by rw [k38]; decide) (by rw [k38]; decide)
  have s2 := g_sum hU (g_prod hU g3 (by rw [k45]; decide)) (by rw [k45]; decide) (by rw [k45]; decide)
  rw [← a38] at s2
  exact g_eith hU (g_both hU (g_den hU (g_cmp1 hU s1 k38 s2 (by decide)) (by rw [k32]; decide)) (by rw [k45]; decide)) (by rw [k45]; decide)
theorem XP.b7 (h : XP z m p μ0 μ d a) (k : Nat) (v : Int32) : XP z m p (th_w μ0 (z + 7) k v) (th_w μ (z + 7) k v) d a := by
  obtain ⟨⟨x1, x2, x3, x4, x5, x6⟩, ⟨f1, f2⟩, ham⟩ := h
  have e4 : ∀ μ : th_M, th_w μ (z + 7) k v (z + 4) = μ (z + 4) := fun μ => th_w_ne _ _ (by omega)
  refine ⟨⟨x1.fr (th_w_ne _ _ (by omega)) (by rw [e4]), by rw [e4]; exact x2, by rw [e4]; exact x3, by rw [e4]; exact x4, by rw [e4]; exact x5, by rw [e4]; exact x6⟩, ⟨fun q h1 h2 => ?_, fun j hj => by rw [e4, e4]; exact f2 j hj⟩, ham⟩
  by_cases c : q = z + 7
  · subst c
    funext j
    rw [th_w_hit, th_w_hit, f1 _ h1 h2]
  · rw [th_w_ne _ _ c, th_w_ne _ _ c]; exact f1 q h1 h2
/-- the class reads its first text -/
theorem x_first (hU : XT σ z) (E : XE z 46 FT μ) : ∃ u, f_X8_read σ μ (z + 4) = some (-1, u) ∧ u (z + 4) 3 = nI 8 ∧ (∀ q, q ≠ z + 4 → q ≠ z + 6 → q ≠ z + 7 → u q = μ q) ∧ ∀ j, j < 3 → u (z + 4) j = μ (z + 4) j := by
  obtain ⟨k0, k6, k8, k10, k16, k20, k24, k26, k32, k34, k36, k38, k40, k45, k46⟩ := ft_k
  obtain ⟨s0, a0, a6, a8, a10, a16, a20, a24, a26, a32, a34, a36, a38, a40, a45⟩ := ft_a
  let X0 : th_M := th_w (th_w μ (z + 4) 3 0) (z + 4) 6 0
  have E0 : XE z 46 FT X0 := (E.w (by decide)).w (by decide)
  obtain ⟨u1, x1, x2, x3, x4, x5, x6, x7⟩ := x_step hU E0 (e := 0) (th_w_self _ _ _ _) (Nat.zero_le _)
  rw [show sk FT (46 - 0) 0 = 0 from s0] at x2 x3 x4 x5
  have P0 : XP z 46 FT X0 u1 0 0 := by
    refine ⟨⟨E0.fr (x6 _ (by omega)) (x7 1 (by decide)), x2, x3, x4, x5, ?_⟩, ⟨fun q h1 h2 => x6 q h1, fun j hj => x7 j (by omega)⟩, by decide⟩
    rw [x7 3 (by decide)]
    show th_w (th_w μ (z + 4) 3 0) (z + 4) 6 0 (z + 4) 3 = _
    rw [th_w_hit, if_neg (by decide), th_w_self]; rfl
  have hX : f_X8_read σ μ (z + 4) = f_X8_read_b16 fu σ u1 (z + 4) (nI 0) := by
    unfold f_X8_read
    rw [tp_4 hU, Option.bind_some, tp_4 hU, Option.bind_some, tc_4 hU, show f_X8_step σ (th_w (th_w μ (z + 4) 3 0) (z + 4) 6 0) (z + 4) = _ from x1, Option.bind_some]
    rfl
  have rd : ∀ f i u, i < 3 → f_X8_read_b16 (f + 1) σ u (z + 4) (nI i) = b2 (f_X8_clauseOf σ u (z + 4) (nI (6 + i))) fun v3 μ4 => if v3 = 0 then some (μ4 (z + 4) 5, μ4) else f_X8_read_b16 f σ (th_w μ4 (z + 7) i (μ4 (z + 4) 3)) (z + 4) (nI (i + 1)) := by
    intro f i u hi
    show (if nI 3 ≤ nI i then _ else _) = _
    rw [if_neg (nI_ge hi (by decide)), tc_4 hU, show (6 : Int32) + nI i = nI (6 + i) from nI_add 6 i, nI_1]
    simp only [ti_4 hU, Option.bind_some, tr_4_4 hU, ts_7 hU hi]
  have rd3 : ∀ f u, f_X8_read_b16 (f + 1) σ u (z + 4) (nI 3) = if u (z + 4) 7 = -1 then some (-1, u) else some (u (z + 4) 5, u) := by
    intro f u
    show (if nI 3 ≤ nI 3 then _ else _) = _
    rw [if_pos (Int32.le_refl _), ti_4 hU, Option.bind_some, ti_4 hU, Option.bind_some]
  have g1 := ft_1 (σ := σ) (z := z) (μ0 := X0) hU
  rw [← a0] at g1
  obtain ⟨u2, c1, c2⟩ := g_clause hU (i := 0) k0 g1 k8 P0
  rw [a8] at c2
  have g2 := ft_2 (σ := σ) (z := z) (μ0 := th_w X0 (z + 7) 0 (u2 (z + 4) 3)) hU
  rw [← a10] at g2
  obtain ⟨u3, d1, d2⟩ := g_clause hU (i := 1) k10 g2 k24 (c2.b7 0 (u2 (z + 4) 3))
  rw [a24] at d2
  have g3 := ft_3 (σ := σ) (z := z) (μ0 := th_w (th_w X0 (z + 7) 0 (u2 (z + 4) 3)) (z + 7) 1 (u3 (z + 4) 3)) hU
  rw [← a26] at g3
  obtain ⟨u4, e1, e2⟩ := g_clause hU (i := 2) k26 g3 k45 (d2.b7 1 (u3 (z + 4) 3))
  rw [a45] at e2
  have PF := e2.b7 2 (u4 (z + 4) 3)
  refine ⟨_, ?_, PF.1.2.2.2.2.2, fun q h1 h2 h3 => ?_, fun j hj => ?_⟩
  rotate_left
  · rw [PF.2.1.1 q h1 h2, th_w_ne _ _ h3, th_w_ne _ _ h3, th_w_ne _ _ h3]
    show th_w (th_w μ (z + 4) 3 0) (z + 4) 6 0 q = _
    rw [th_w_ne _ _ h1, th_w_ne _ _ h1]
  · rw [PF.2.1.2 j (by omega), th_w_ne _ _ (show z + 4 ≠ z + 7 by omega), th_w_ne _ _ (show z + 4 ≠ z + 7 by omega), th_w_ne _ _ (show z + 4 ≠ z + 7 by omega)]
    show th_w (th_w μ (z + 4) 3 0) (z + 4) 6 0 (z + 4) j = _
    rw [th_w_hit, if_neg (by omega), th_w_hit, if_neg (by omega)]
  rw [hX, show fu = 999 + 1 from rfl, rd 999 0 u1 (by decide), c1, b2s, if_neg n10, show 0 + 1 = 1 from rfl, rd 998 1 _ (by decide), d1, b2s, if_neg n10, show 1 + 1 = 2 from rfl, rd 997 2 _ (by decide), e1, b2s, if_neg n10, show 2 + 1 = 3 from rfl, rd3 996]
  have kk : (th_w u4 (z + 7) 2 (u4 (z + 4) 3)) (z + 4) 7 = kT FT 46 46 := PF.1.2.2.2.1
  rw [kk, k46, if_pos rfl]
end FI
