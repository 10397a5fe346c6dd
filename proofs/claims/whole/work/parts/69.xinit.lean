section XI
variable {z : Nat} {σ σ' : th_S} {n : Nat} {R : List (Nat × Nat × Nat)} {μ : th_M}
def mX (z : Nat) : th_M := th_w (th_w (th_w (th_w (th_w (th_w (th_w (th_w (th_w (th_w st_M z 4 (-1)) (z + 10) 1 1) (z + 10) 2 1) (z + 2) 4 27) (z + 2) 6 2) (z + 2) 7 1) (z + (15 + 2 * 0)) 1 (-1)) (z + (15 + 2 * 1)) 1 (-1)) (z + (15 + 2 * 2)) 1 (-1)) (z + (15 + 2 * 3)) 1 (-1)
theorem x_init0 (z : Nat) : ∃ σ', f_X10_init (th_nS (st_S z) 10 12) st_M z = f_X10_init_b141 fu σ' (mX z) z (nI 0) ∧ PS z σ' 23 RX23 ∧ MZ z 23 (mX z) := by
  have p0 : PS z (st_S z) 0 [] := ⟨rfl, fun k hk => absurd hk (Nat.not_lt_zero _), fun q _ hq => absurd hq (Nat.not_lt_zero _), fun q hq => absurd hq List.not_mem_nil⟩
  have m0 : MZ z 1 st_M := fun _ _ => rfl
  have p1 := p0.al (c := 10) (l := 12) rfl (by decide)
  obtain ⟨sa1, s1, e1, f1, p2, m2⟩ := p1.ar m0 (k := 0) (b := z) (c := 13) (ck := 10) (l := 7) (i := 0) rfl (by decide) rfl rfl (by decide) (by decide)
  obtain ⟨sa2, s2, e2, f2, p3, m3⟩ := p2.ar m2 (k := 0) (b := z) (c := 12) (ck := 10) (l := 12) (i := 2) rfl (by decide) rfl rfl (by decide) (by decide)
  obtain ⟨sa3, s3, e3, f3, p4, m4⟩ := p3.ar m3 (k := 0) (b := z) (c := 12) (ck := 10) (l := 12) (i := 3) rfl (by decide) rfl rfl (by decide) (by decide)
  have w4 := p4.mkI (μ := st_M) (k := 0) (b := z) (c := 10) rfl (by decide) rfl 4 (-1)
  have m4' : MZ z 4 (th_w st_M z 4 (-1)) := m4.w (by omega)
  have e4 := p4.mkN m4' 8 9
  have p5 := p4.al (c := 8) (l := 9) rfl (by decide)
  obtain ⟨sa5, s5, e5, f5, p6, m6⟩ := p5.ar (m4'.up (Nat.le_succ _)) (k := 4) (b := z + 4) (c := 12) (ck := 8) (l := 160) (i := 0) rfl (by decide) rfl rfl (by decide) (by decide)
  obtain ⟨sa6, s6, e6, f6, p7, m7⟩ := p6.ar m6 (k := 4) (b := z + 4) (c := 12) (ck := 8) (l := 160) (i := 2) rfl (by decide) rfl rfl (by decide) (by decide)
  obtain ⟨sa7, s7, e7, f7, p8, m8⟩ := p7.ar m7 (k := 4) (b := z + 4) (c := 12) (ck := 8) (l := 3) (i := 4) rfl (by decide) rfl rfl (by decide) (by decide)
  have r8 := p8.mkR (k := 0) (b := z) (c := 10) rfl (by decide) rfl 5 (z + 4)
  have q8 := p8.rf (k := 0) (b := z) (i := 5) (j := 4) rfl (by decide) (by decide)
  obtain ⟨sa8, s8, e8, f8, p9, m9⟩ := q8.ar m8 (k := 0) (b := z) (c := 14) (ck := 10) (l := 6) (i := 6) rfl (by decide) rfl rfl (by decide) (by decide)
  obtain ⟨sa9, s9, e9, f9, p10, m10⟩ := p9.ar m9 (k := 0) (b := z) (c := 12) (ck := 10) (l := 6) (i := 8) rfl (by decide) rfl rfl (by decide) (by decide)
  have e10 := p10.mkN m10 9 4
  have p11 := p10.al (c := 9) (l := 4) rfl (by decide)
  obtain ⟨sa11, s11, e11, f11, p12, m12⟩ := p11.ar (m10.up (Nat.le_succ _)) (k := 10) (b := z + 10) (c := 12) (ck := 9) (l := 7) (i := 0) rfl (by decide) rfl rfl (by decide) (by decide)
  have w11 := p12.mkI (μ := th_w st_M z 4 (-1)) (k := 10) (b := z + 10) (c := 9) rfl (by decide) rfl 1 1
  have w12 := p12.mkI (μ := th_w (th_w st_M z 4 (-1)) (z + 10) 1 1) (k := 10) (b := z + 10) (c := 9) rfl (by decide) rfl 2 1
  have m12' : MZ z 12 (th_w (th_w (th_w st_M z 4 (-1)) (z + 10) 1 1) (z + 10) 2 1) := (m12.w (by omega)).w (by omega)
  obtain ⟨sa12, s12, e12, f12, p13, m13⟩ := p12.ar m12' (k := 10) (b := z + 10) (c := 12) (ck := 9) (l := 896) (i := 3) rfl (by decide) rfl rfl (by decide) (by decide)
  have r13 := p13.mkR (k := 0) (b := z) (c := 10) rfl (by decide) rfl 9 (z + 10)
  have q13 := p13.rf (k := 0) (b := z) (i := 9) (j := 10) rfl (by decide) (by decide)
  obtain ⟨sa13, s13, e13, f13, p14, m14⟩ := q13.ar m13 (k := 0) (b := z) (c := 12) (ck := 10) (l := 7) (i := 10) rfl (by decide) rfl rfl (by decide) (by decide)
  obtain ⟨sa14, s14, e14, f14, p15, m15⟩ := p14.ar m14 (k := 0) (b := z) (c := 15) (ck := 10) (l := 4) (i := 11) rfl (by decide) rfl rfl (by decide) (by decide)
  have rr2 := p15.rdR (k := 0) (b := z) (c := 10) (i := 2) (j := 2) rfl rfl (by decide)
  have sn := fun (μ : th_M) (j : Nat) (hj : j < 12) (v : Int32) => p15.sn (μ := μ) (k := 2) (b := z + 2) (l := 12) (j := j) rfl (by decide) rfl (by decide) hj v
  have m15' : MZ z 15 (th_w (th_w (th_w (th_w (th_w (th_w st_M z 4 (-1)) (z + 10) 1 1) (z + 10) 2 1) (z + 2) 4 27) (z + 2) 6 2) (z + 2) 7 1) := ((m15.w (by omega)).w (by omega)).w (by omega)
  obtain ⟨t0, g0, p16, m16⟩ := sheet_init (i := 0) (by decide) p15 m15' rfl rfl (by decide) (by decide) (by decide) (by decide) (by decide) 4
  obtain ⟨t1, g1, p17, m17⟩ := sheet_init (i := 1) (by decide) p16 m16 rfl rfl (by decide) (by decide) (by decide) (by decide) (by decide) 3
  obtain ⟨t2, g2, p18, m18⟩ := sheet_init (i := 2) (by decide) p17 m17 rfl rfl (by decide) (by decide) (by decide) (by decide) (by decide) 2
  obtain ⟨t3, g3, p19, m19⟩ := sheet_init (i := 3) (by decide) p18 m18 rfl rfl (by decide) (by decide) (by decide) (by decide) (by decide) 1
  refine ⟨t3, ?_, p19, m19⟩
  unfold f_X10_init
  rw [e1, b3s, f1, Option.bind_some, e2, b3s, f2, Option.bind_some, e3, b3s, f3, Option.bind_some, w4, Option.bind_some, e4, b3s]
  unfold f_X8_init
  rw [e5, b3s, f5, Option.bind_some, e6, b3s, f6, Option.bind_some, e7, b3s, f7, Option.bind_some, b2s, r8, Option.bind_some, e8, b3s, f8, Option.bind_some, e9, b3s, f9, Option.bind_some, e10, b3s]
  unfold f_X9_init
  rw [e11, b3s, f11, Option.bind_some, w11, Option.bind_some, w12, Option.bind_some, e12, b3s, f12, Option.bind_some, b2s, r13, Option.bind_some, e13, b3s, f13, Option.bind_some, e14, b3s, f14, Option.bind_some, rr2, Option.bind_some, sn _ 4 (by decide), Option.bind_some, Option.bind_some, sn _ 6 (by decide), Option.bind_some, Option.bind_some, sn _ 7 (by decide), Option.bind_some]
  rw [show f_X10_init_b115 5 s14 (th_w (th_w (th_w (th_w (th_w (th_w st_M z 4 (-1)) (z + 10) 1 1) (z + 10) 2 1) (z + 2) 4 27) (z + 2) 6 2) (z + 2) 7 1) z 0 = _ from g0, g1, g2, g3]
  show (if nI 4 ≤ nI 4 then _ else _) = _
  rw [if_pos (Int32.le_refl _)]
  rfl
theorem ft_rg : ∀ i, i < 46 → FT i = nI (FT i).toInt.toNat ∧ (FT i).toInt.toNat ≤ 255 := by decide +kernel
theorem x_add (T : XT σ z) (r5 : oR σ 10 z 5 = some (z + 4)) : ∀ k i f μ, i + k = 46 → k < f → μ (z + 4) 1 = nI i → ∃ μ', f_X10_init_b141 f σ μ z (nI i) = f_X10_init_b141 1 σ μ' z (nI 46) ∧ μ' (z + 4) 1 = nI 46 ∧ (∀ j, i ≤ j → j < 46 → μ' (z + 5) j = FT j) ∧ (∀ j, j < i → μ' (z + 5) j = μ (z + 5) j) ∧ (∀ q, q ≠ z + 4 → q ≠ z + 5 → μ' q = μ q) ∧ ∀ j, j ≠ 1 → μ' (z + 4) j = μ (z + 4) j := by
  have ln : f_J0_length_8abf5 0 = some (nI 46) := oT_n (by decide)
  intro k
  induction k with
  | zero =>
    intro i f μ hi hf h1
    obtain ⟨f, rfl⟩ : ∃ f', f = f' + 1 := ⟨f - 1, by omega⟩
    have e : i = 46 := by omega
    subst e
    refine ⟨μ, ?_, h1, fun j h1 h2 => by omega, fun _ _ => rfl, fun _ _ _ => rfl, fun _ _ => rfl⟩
    show (f_J0_length_8abf5 0).bind _ = (f_J0_length_8abf5 0).bind _
    rw [ln, Option.bind_some, Option.bind_some, if_pos (Int32.le_refl _), if_pos (Int32.le_refl _)]
  | succ k ih =>
    intro i f μ hi hf h1
    obtain ⟨f, rfl⟩ : ∃ f', f = f' + 1 := ⟨f - 1, by omega⟩
    have ch : f_J0_charAt_5068e 0 (nI i) = some (FT i) := oU_n (by decide) (show i < 46 by omega)
    obtain ⟨μ', a1, a2, a3, a4, a5, a6⟩ := ih (i + 1) f (th_w (th_w μ (z + 5) i (FT i)) (z + 4) 1 (nI (i + 1))) (by omega) (by omega) (th_w_self _ _ _ _)
    have m5 : ∀ j, th_w (th_w μ (z + 5) i (FT i)) (z + 4) 1 (nI (i + 1)) (z + 5) j = if j = i then FT i else μ (z + 5) j := fun j => by
      rw [th_w_ne _ _ (show z + 5 ≠ z + 4 by omega), th_w_hit]
    refine ⟨μ', ?_, a2, fun j h1 h2 => ?_, fun j hj => ?_, fun q h1 h2 => by rw [a5 q h1 h2, th_w_ne _ _ h1, th_w_ne _ _ h2], fun j hj => by rw [a6 j hj, th_w_hit, if_neg hj, th_w_ne _ _ (by omega)]⟩
    · show (f_J0_length_8abf5 0).bind _ = _
      rw [ln, Option.bind_some, if_neg (nI_ge (by omega) (by decide)), r5, Option.bind_some, ch, Option.bind_some, tc_4 T]
      unfold f_X8_add
      rw [ti_4 T, Option.bind_some, h1, if_pos (show nI i < 160 from (nI_lt (by omega) (by decide) : nI i < nI 160)), tr_4_0 T, Option.bind_some, Option.bind_some, ts_5 T (by omega), Option.bind_some, ti_4 T, Option.bind_some, th_w_ne _ _ (show z + 4 ≠ z + 5 by omega), h1, tp_4 T, Option.bind_some, b2s, nI_1]
      exact a1
    · by_cases e : j = i
      · subst e
        rw [a4 j (by omega), m5, if_pos rfl]
      · exact a3 j (by omega) h2
    · rw [a4 j (by omega), m5, if_neg (by omega)]
/-- the class's object is made -/
theorem x_made (z : Nat) : ∃ σ0 μ1 u0 σ2 u, f_X10_init (th_nS (st_S z) 10 12) st_M z = some (σ2, u) ∧ XT σ0 z ∧ XE z 46 FT μ1 ∧ f_X8_read σ0 μ1 (z + 4) = some (-1, u0) ∧ u0 (z + 4) 3 = nI 8 ∧ PS z σ2 27 (RX27h ++ RX23) ∧ MZ z 27 u ∧ (∀ q, q < z + 23 → q ≠ z → q ≠ z + 4 → q ≠ z + 5 → q ≠ z + 6 → q ≠ z + 7 → u q = mX z q) ∧ (∀ j, j ≠ 7 → u z j = mX z z j) ∧ u z 7 = 1 ∧ u (z + 4) 1 = 0 ∧ (∀ i, u (z + 24) i = u0 (z + 6) i) ∧ (∀ i, u (z + 25) i = u0 (z + 7) i) := by
  obtain ⟨σ0, hI, P, M⟩ := x_init0 z
  have T := P.xT (by decide) (by decide) (by decide) (by decide)
  have r5 := P.rdR (k := 0) (b := z) (c := 10) (i := 5) (j := 4) rfl rfl (by decide)
  have r6 := P.rdR (k := 0) (b := z) (c := 10) (i := 6) (j := 8) rfl rfl (by decide)
  have c0 : mX z (z + 4) 1 = nI 0 := by simp [mX, th_w_at, st_M]; rfl
  obtain ⟨μ1, a1, a2, a3, -, a5, a6⟩ := x_add T r5 46 0 fu (mX z) (by decide) (by unfold fu; omega) c0
  have E : XE z 46 FT μ1 := ⟨by decide, a2, fun i hi => ⟨a3 i (Nat.zero_le _) hi, _, (ft_rg i hi).2, (ft_rg i hi).1⟩⟩
  obtain ⟨u0, b1, b2', b3, b4⟩ := x_first T E
  have hN : σ0.2.2.2 = z + 23 := P.1
  obtain ⟨σ1, u1, q1, F1, k1, k2, k3, k4, k5, k6, k7, k8, k9, k10⟩ := x_ruleRead (σ := σ0) (μ := u0) T (by omega) (e2 := 8) (by decide) b2'
  rw [hN] at q1 F1 k1 k2 k3 k4 k5 k6 k7 k8 k9 k10
  have P1 : PS z σ1 27 ([(23, 2, 26), (23, 1, 25), (23, 0, 24)] ++ RX23) := by
    refine ⟨k6, fun k hk => ?_, fun q hq hk => ?_, fun q hq => ?_⟩
    · by_cases c : k < 23
      · rw [(F1 (z + k) (by omega)).1]; exact P.2.1 k c
      · rcases (by omega : k = 23 ∨ k = 24 ∨ k = 25 ∨ k = 26) with e | e | e | e <;> subst e
        · exact k1
        · exact k3.1
        · exact k4.1
        · exact k5.1
    · by_cases c : q.1 < 23
      · rw [(F1 (z + q.1) (by omega)).2.1]; exact P.2.2.1 q hq c
      · have hs : ∀ q ∈ sxL', ¬ q.1 < 23 → q.1 < 27 → q = (23, 4) ∨ q = (24, 8) ∨ q = (25, 3) ∨ q = (26, 31) := by decide
        rcases hs q hq c hk with e | e | e | e <;> subst e
        · exact k9
        · exact k3.2
        · exact k4.2
        · exact k5.2
    · rcases List.mem_append.mp hq with hq | hq
      · simp only [List.mem_cons, List.not_mem_nil, or_false] at hq
        rcases hq with e | e | e <;> subst e
        · exact ⟨by decide, k2.2.2⟩
        · exact ⟨by decide, k2.2.1⟩
        · exact ⟨by decide, k2.1⟩
      · obtain ⟨x1, x2⟩ := P.2.2.2 q hq
        exact ⟨by omega, by rw [(F1 (z + q.1) (by omega)).2.2.1]; exact x2⟩
  have T1 := P1.xT (by decide) (by decide) (by decide) (by decide)
  have sq := P1.sq (k := 8) (b := z + 8) (c := 14) (l := 6) (i := 0) (a := z + 23) (ka := 5) rfl (by decide) rfl (by decide) (by decide) (by decide) k1 rfl
  have P2 : PS z (th_wR σ1 (z + 8) 0 (z + 23)) 27 (RX27h ++ RX23) := P1.rf (k := 8) (b := z + 8) (i := 0) (j := 23) rfl (by decide) (by decide)
  have T2 := P2.xT (by decide) (by decide) (by decide) (by decide)
  have w7 := P2.mkI (μ := u1) (k := 0) (b := z) (c := 10) rfl (by decide) rfl 7 1
  have r52 := P2.rdR (k := 0) (b := z) (c := 10) (i := 5) (j := 4) rfl rfl (by decide)
  have uq : ∀ q, q < z + 23 → q ≠ z + 4 → q ≠ z + 5 → q ≠ z + 6 → q ≠ z + 7 → u1 q = mX z q := fun q h1 h2 h3 h4 h5 => by rw [(F1 q h1).2.2.2, b3 q h2 h4 h5, a5 q h2 h3]
  refine ⟨σ0, μ1, u0, th_wR σ1 (z + 8) 0 (z + 23), th_w (th_w u1 z 7 1) (z + 4) 1 0, ?_, T, E, b1, b2', P2, fun q hq => ?_, fun q h1 h2 h3 h4 h5 h6 => ?_, fun j hj => ?_, ?_, th_w_self _ _ _ _, fun i => ?_, fun i => ?_⟩
  · rw [hI, a1]
    show (f_J0_length_8abf5 0).bind _ = _
    rw [show f_J0_length_8abf5 0 = some (nI 46) from oT_n (by decide), Option.bind_some, if_pos (Int32.le_refl _), r5, Option.bind_some, tc_4 T, b1, b2s, r6, Option.bind_some, Option.bind_some, tc_4 T, q1, b3s, show oSQ σ1 14 (z + 8) 0 (z + 23) = _ from sq, Option.bind_some, w7, Option.bind_some, r52, Option.bind_some, tc_4 T2]
    unfold f_X8_empty
    rw [tp_4 T2, Option.bind_some, Option.bind_some]
  · rw [th_w_ne _ _ (by omega), th_w_ne _ _ (by omega), k10 q (by omega), b3 q (by omega) (by omega) (by omega), a5 q (by omega) (by omega)]
    exact M q (by omega)
  · rw [th_w_ne _ _ h3, th_w_ne _ _ h2]
    exact uq q h1 h3 h4 h5 h6
  · rw [th_w_ne _ _ (show z ≠ z + 4 by omega), th_w_hit, if_neg hj, uq z (by omega) (by omega) (by omega) (by omega) (by omega)]
  · rw [th_w_ne _ _ (show z ≠ z + 4 by omega), th_w_self]
  · rw [th_w_ne _ _ (show z + 24 ≠ z + 4 by omega), th_w_ne _ _ (show z + 24 ≠ z by omega)]
    exact k7 i
  · rw [th_w_ne _ _ (show z + 25 ≠ z + 4 by omega), th_w_ne _ _ (show z + 25 ≠ z by omega)]
    exact k8 i
end XI
