section PU
theorem fn0 {z n : Nat} {μ : th_M} (h : MZ z n μ) {q k : Nat} (hq : z + n ≤ q) : μ q k = 0 := by rw [h q hq]
theorem made (z : Nat) : ∃ σ9 w, GI z σ9 w ∧ ∀ (L : Nat) (xs : Nat → Int32), f_L_law L xs (st_S z) st_M = f_L_law_b18 L xs 513 σ9 w z (z + 27) 0 := by
  obtain ⟨σ0, μ1, u0, σ2, u, hI, T, E, r1, r3, P2, MU, uq, uz, uz7, u41, u24, u25⟩ := x_made z
  obtain ⟨σ9, hMI, P9, hM⟩ := m_alloc P2 MU
  obtain ⟨μr, g1, g2, g3, -⟩ := mi_rows hM 4 0 fu u (by decide) (by unfold fu; omega)
  let μa : th_M := th_w (th_w (th_w μr (z + 27) 8 27) (z + 27) 11 2) (z + 27) 12 1
  have a27 : ∀ j, μa (z + 27) j = if j = 12 then 1 else if j = 11 then 2 else if j = 8 then 27 else 0 := fun j => by
    show th_w (th_w (th_w μr (z + 27) 8 27) (z + 27) 11 2) (z + 27) 12 1 (z + 27) j = _
    rw [th_w_hit, th_w_hit, th_w_hit, g2 _ (by omega), fn0 MU (by omega)]
  have aq : ∀ q, q ≠ z + 27 → μa q = μr q := fun q hq => by
    show th_w (th_w (th_w μr (z + 27) 8 27) (z + 27) 11 2) (z + 27) 12 1 q = _
    rw [th_w_ne _ _ hq, th_w_ne _ _ hq, th_w_ne _ _ hq]
  obtain ⟨μb, b1, b2', b3, -, b5, b6⟩ := m_add hM 46 0 fu μa (by decide) (by unfold fu; omega) (by rw [a27]; rfl)
  have F : ME z 46 FT μb := ⟨by decide, b2', fun i hi => ⟨b3 i (Nat.zero_le _) hi, _, (ft_rg i hi).2, (ft_rg i hi).1⟩⟩
  have b27 : ∀ j, j ≠ 15 → μb (z + 27) j = if j = 12 then 1 else if j = 11 then 2 else if j = 8 then 27 else 0 := fun j hj => by rw [b6 j hj, a27]
  obtain ⟨v', u0', w1, r1', r2', rf', rr'⟩ := parse_lock (nt := 0) T hM E F (by decide) (by rw [b27 17 (by decide)]; rfl)
  rw [r1] at r1'
  have ee := Option.some.inj r1'
  have ev : v' = -1 := (congrArg Prod.fst ee).symm
  have eu : u0' = u0 := (congrArg Prod.snd ee).symm
  subst ev
  subst eu
  rcases rr' with ⟨-, e0, e1, e2, G⟩ | ⟨a, ha, ev, -⟩
  rotate_left
  · exact absurd (by rw [← ev]; decide) (nI_pos (n := a) (by omega))
  obtain ⟨l1, l2, l3, l4, l5, l6, l7, l8, l9, l10, l11, l12, l13, l14, l15⟩ := G
  have e28 : e2 = 8 := by
    rw [r3] at l4
    exact ((nI_eq (by decide) (by omega)).mp l4).symm
  subst e28
  obtain ⟨-, -, y1, y2, -, -⟩ := rf'
  have w17 : w1 (z + 27) 17 = nI 0 := by rw [y2 17 (by decide), b27 17 (by decide)]; rfl
  let w : th_M := th_w (th_w (th_w w1 (z + 27) 15 0) (z + 37) 3 (nI 8)) (z + 27) 17 1
  have w36 : w (z + 36) = w1 (z + 36) := by
    show th_w (th_w (th_w w1 (z + 27) 15 0) (z + 37) 3 (nI 8)) (z + 27) 17 1 (z + 36) = _
    rw [th_w_ne _ _ (by omega), th_w_ne _ _ (by omega), th_w_ne _ _ (by omega)]
  have w37 : ∀ j, w (z + 37) j = if j = 3 then nI 8 else w1 (z + 37) j := fun j => by
    show th_w (th_w (th_w w1 (z + 27) 15 0) (z + 37) 3 (nI 8)) (z + 27) 17 1 (z + 37) j = _
    rw [th_w_ne _ _ (show z + 37 ≠ z + 27 by omega), th_w_hit, th_w_ne _ _ (show z + 37 ≠ z + 27 by omega)]
  have w27 : ∀ j, w (z + 27) j = if j = 17 then 1 else if j = 15 then 0 else w1 (z + 27) j := fun j => by
    show th_w (th_w (th_w w1 (z + 27) 15 0) (z + 37) 3 (nI 8)) (z + 27) 17 1 (z + 27) j = _
    rw [th_w_hit, th_w_ne _ _ (show z + 27 ≠ z + 37 by omega), th_w_hit]
  have w27' : ∀ j, j ≠ 15 → j ≠ 17 → (j < 21 ∨ 26 < j) → w (z + 27) j = if j = 12 then 1 else if j = 11 then 2 else if j = 8 then 27 else 0 := fun j h1 h2 h3 => by
    rw [w27, if_neg h2, if_neg h1, y2 j h3, b27 j h1]
  have wq : ∀ q, q ≠ z + 27 → q ≠ z + 35 → q ≠ z + 36 → q ≠ z + 37 → w q = μr q := fun q h1 h2 h3 h4 => by
    show th_w (th_w (th_w w1 (z + 27) 15 0) (z + 37) 3 (nI 8)) (z + 27) 17 1 q = _
    rw [th_w_ne _ _ h1, th_w_ne _ _ h4, th_w_ne _ _ h1, y1 q h1 h3 h4, b5 q h1 h2, aq q h1]
  have wu : ∀ q, q ≠ z + 27 → q ≠ z + 35 → q ≠ z + 36 → q ≠ z + 37 → q ≠ z + 44 → w q = u q := fun q h1 h2 h3 h4 h5 => by rw [wq q h1 h2 h3 h4, g2 q h5]
  have w44 : ∀ i, i < 4 → w (z + 44) i = -1 := fun i hi => by rw [wq _ (by omega) (by omega) (by omega) (by omega)]; exact g3 i (Nat.zero_le _) hi
  have hT : f_X11_text σ9 μb (z + 27) = some (nI 0, w) := by
    rw [r2', if_pos rfl]
    unfold f_X11_text_b73
    rw [p_27 hM, Option.bind_some, if_neg n10, r_27_20 hM, Option.bind_some, i_27 hM, Option.bind_some, i_27 hM, Option.bind_some, th_w_hit, if_neg (by decide), w17, th_w_hit, if_neg (by decide), l8, show (4 : Int32) * nI 0 + 3 = nI 3 by decide, s_37 hM (by decide), Option.bind_some, i_27 hM, Option.bind_some, th_w_ne _ _ (show z + 27 ≠ z + 37 by omega), th_w_hit, if_neg (by decide), w17, nI_1, p_27 hM, Option.bind_some]
    rfl
  -- the class's cells
  have x0 : ∀ j, j ≠ 7 → w z j = mX z z j := fun j hj => by rw [wu z (by omega) (by omega) (by omega) (by omega) (by omega), uz j hj]
  have x07 : w z 7 = 1 := by rw [wu z (by omega) (by omega) (by omega) (by omega) (by omega), uz7]
  have xk : ∀ k, k < 23 → k ≠ 0 → k ≠ 4 → k ≠ 5 → k ≠ 6 → k ≠ 7 → w (z + k) = mX z (z + k) := fun k h h0 h4 h5 h6 h7 => by rw [wu _ (by omega) (by omega) (by omega) (by omega) (by omega), uq _ (by omega) (by omega) (by omega) (by omega) (by omega) (by omega)]
  have x41 : w (z + 4) 1 = 0 := by rw [wu _ (by omega) (by omega) (by omega) (by omega) (by omega), u41]
  have m01 : mX z z 1 = 0 := by simp [mX, th_w_at, st_M]
  have m04 : mX z z 4 = -1 := by simp [mX, th_w_at, st_M]
  have m2 : ∀ j, mX z (z + 2) j = if j = 7 then 1 else if j = 6 then 2 else if j = 4 then 27 else 0 := fun j => by simp [mX, th_w_at, st_M]
  have m12 : ∀ j, mX z (z + 12) j = 0 := fun j => by simp [mX, th_w_at, st_M]
  have m13 : ∀ j, mX z (z + 13) j = 0 := fun j => by simp [mX, th_w_at, st_M]
  have ms : ∀ i, i < 4 → mX z (z + (15 + 2 * i)) 1 = -1 := fun i hi => by
    rcases (by omega : i = 0 ∨ i = 1 ∨ i = 2 ∨ i = 3) with e | e | e | e <;> subst e <;> simp [mX, th_w_at]
  let A : th_M := fun p k => w (z + (27 + p)) k
  let ω : Nat → Nat := fun q => if z + 23 ≤ q ∧ q < z + 27 then 2000 + (q - (z + 23)) else q - z
  have c9 : C9 z 0 w1 = fun i => A 9 (170 * 0 + i) := by
    funext i
    show w1 (z + 36) (170 * 0 + i) = w (z + 36) (170 * 0 + i)
    rw [w36]
  rw [c9] at l13 l14 l15
  have S : SH z σ9 (fun _ => 0) (fun _ => z + 23) ω 0 1 (A 1) := by
    refine ⟨hM, fun b hb => absurd hb (Nat.not_lt_zero _), fun b hb => absurd hb (Nat.not_lt_zero _), fun b hb => absurd hb (Nat.not_lt_zero _), fun b hb => absurd hb (Nat.not_lt_zero _), fun b hb => absurd hb (Nat.not_lt_zero _), fun b hb => absurd hb (Nat.not_lt_zero _), fun b hb => absurd hb (Nat.not_lt_zero _), by decide, fun k hk hk2 => ?_, fun b hb => absurd hb (Nat.not_lt_zero _), fun t ht j hj => ?_, by decide, fun t ht => ?_, fun t ht => ?_, fun t ht => ?_, fun t ht => ?_, fun t ht => ?_, fun t ht => ?_, fun t ht => ?_⟩
    · show (if z + 23 ≤ z + k ∧ z + k < z + 27 then _ else z + k - z) = k
      rw [if_neg (by omega)]; omega
    · show (if z + 23 ≤ z + 23 + j ∧ z + 23 + j < z + 27 then 2000 + (z + 23 + j - (z + 23)) else _) = 2000 + 10 * t + j
      rw [if_pos (by omega)]; omega
    · have e : t = 0 := by omega
      subst e
      exact (P9.2.2.2 (8, 0, 23) (by decide)).2
    · exact hM.1 23 (by decide)
    · exact ⟨(P9.2.2.2 (23, 0, 24) (by decide)).2, (P9.2.2.2 (23, 1, 25) (by decide)).2, (P9.2.2.2 (23, 2, 26) (by decide)).2⟩
    · exact ⟨hM.1 24 (by decide), by rw [show σ9.2.1 (z + 23 + 1) = 8 from P9.2.2.1 (24, 8) (by decide) (by decide)]; decide⟩
    · exact ⟨hM.1 25 (by decide), hM.2.1 (25, 3) (by decide)⟩
    · exact ⟨hM.1 26 (by decide), hM.2.1 (26, 31) (by decide)⟩
    · have := P9.1
      show z + 23 + 4 ≤ σ9.2.2.2
      omega
  have A0 : ∀ j, A 0 j = w (z + 27) j := fun j => rfl
  have hJ : JX z σ9 (fun p => if p = 21 then w (z + 13) else w (z + (27 + p))) (fun _ => 0) (fun _ => z + 23) ω 0 1 w A := by
    refine ⟨S, fun p hp => ?_, ⟨?_, fun j hj => ?_⟩, ?_, ?_, fun b hb => absurd hb (Nat.not_lt_zero _), fun b hb => absurd hb (Nat.not_lt_zero _), ?_, ?_, ?_, fun i hi => ?_, x07, ?_, ⟨0, by decide, ?_⟩, fun t ht => ?_, Or.inl ⟨?_, ?_⟩⟩
    · show _ = if p = 21 then _ else _
      rw [if_neg (by omega)]
    · show _ = if 21 = 21 then _ else _
      rw [if_pos rfl]
    · rw [xk 12 (by decide) (by decide) (by decide) (by decide) (by decide) (by decide)]; exact m12 j
    · rw [A0, w27' 0 (by decide) (by decide) (by decide)]; rfl
    · rw [x0 1 (by decide), m01]; rfl
    · rw [xk 2 (by decide) (by decide) (by decide) (by decide) (by decide) (by decide), A0, A0, A0, A0, A0, A0, A0, A0, w27' 8 (by decide) (by decide) (by decide), w27' 9 (by decide) (by decide) (by decide), w27' 10 (by decide) (by decide) (by decide), w27' 11 (by decide) (by decide) (by decide), w27' 12 (by decide) (by decide) (by decide), w27' 13 (by decide) (by decide) (by decide), w27' 14 (by decide) (by decide) (by decide), w27' 18 (by decide) (by decide) (by decide)]
      simp only [m2]
      exact ⟨rfl, rfl, rfl, rfl, rfl, rfl, rfl, rfl⟩
    · rw [A0, A0, A0, A0, A0, A0, w27' 8 (by decide) (by decide) (by decide), w27' 9 (by decide) (by decide) (by decide), w27' 10 (by decide) (by decide) (by decide), w27' 11 (by decide) (by decide) (by decide), w27' 12 (by decide) (by decide) (by decide), w27' 13 (by decide) (by decide) (by decide)]
      exact ⟨⟨27, by decide, rfl⟩, ⟨0, by decide, rfl⟩, ⟨0, by decide, rfl⟩, ⟨2, by decide, rfl⟩, ⟨1, by decide, rfl⟩, ⟨0, by decide, rfl⟩, by decide, by decide⟩
    · refine ⟨0, by decide, ?_, ?_, fun i hi => absurd hi (Nat.not_lt_zero _)⟩
      · rw [A0, w27, if_neg (by decide), if_pos rfl]; rfl
      · rw [x41]; rfl
    · rw [show A 17 i = w (z + 44) i from rfl, w44 i hi]
      refine ⟨?_, Or.inl rfl⟩
      rw [wu _ (by omega) (by omega) (by omega) (by omega) (by omega), uq _ (by omega) (by omega) (by omega) (by omega) (by omega) (by omega)]
      exact ms i hi
    · rw [A0, w27, if_pos rfl]; rfl
    · rw [A0, w27' 18 (by decide) (by decide) (by decide)]; rfl
    · have e : t = 0 := by omega
      subst e
      have k1 : w (z + 23 + 1) = u (z + 24) := wu _ (by omega) (by omega) (by omega) (by omega) (by omega)
      have k2 : w (z + 23 + 2) = u (z + 25) := wu _ (by omega) (by omega) (by omega) (by omega) (by omega)
      have d10 : ∀ j, A 10 j = if j = 3 then nI 8 else w1 (z + 37) j := fun j => w37 j
      show ∃ e0 e1 e2, e0 ≤ e1 ∧ e1 ≤ e2 ∧ σ9.2.1 (z + 23 + 1) = e2 ∧ w (z + 23 + 2) 0 = nI e0 ∧ w (z + 23 + 2) 1 = nI e1 ∧ w (z + 23 + 2) 2 = nI e2 ∧ A 10 (4 * 0) = 0 ∧ A 10 (4 * 0 + 1) = nI e0 ∧ A 10 (4 * 0 + 2) = nI e1 ∧ A 10 (4 * 0 + 3) = nI e2 ∧ (∀ i, i < e2 → w (z + 23 + 1) i = tk (A 9 (170 * 0 + i))) ∧ _
      rw [k1, k2, d10, d10, d10, d10]
      refine ⟨e0, e1, 8, l1, l2, P9.2.2.1 (24, 8) (by decide) (by decide), by rw [u25]; exact l5, by rw [u25]; exact l6, by rw [u25]; exact l7, l9, l10, l11, rfl, fun i hi => ?_, hq_hg _ _ _ l13, hq_hg _ _ _ l14, hq_hg _ _ _ l15⟩
      rw [u24, l12 i hi, c9]
    · rw [A0, w27' 33 (by decide) (by decide) (by decide)]; rfl
    · rw [x0 4 (by decide), m04]
  have o : w (z + 13) = w (z + 42) := by
    funext j
    rw [xk 13 (by decide) (by decide) (by decide) (by decide) (by decide) (by decide), m13, wu _ (by omega) (by omega) (by omega) (by omega) (by omega), fn0 MU (by omega)]
  refine ⟨σ9, w, ⟨A, _, _, ω, 0, 1, _, w, hJ, ⟨fun p k _ _ => rfl, fun _ _ => rfl⟩, o⟩, fun L xs => ?_⟩
  have p0 : PS z (st_S z) 0 [] := ⟨rfl, fun k hk => absurd hk (Nat.not_lt_zero _), fun q _ hq => absurd hq (Nat.not_lt_zero _), fun q hq => absurd hq List.not_mem_nil⟩
  have n0 : oN (st_S z) st_M 10 12 = some (z, th_nS (st_S z) 10 12, st_M) := p0.mkN (fun _ _ => rfl) 10 12
  unfold f_L_law
  rw [n0, b3s, hI, b2s, P2.mkN MU, b3s, hMI, show f_X11_init_b168 fu σ9 u (z + 27) (nI 0) = _ from g1, show f_X11_init_b207 fu σ9 (th_w (th_w (th_w μr (z + 27) 8 27) (z + 27) 11 2) (z + 27) 12 1) (z + 27) 0 (nI 0) = _ from b1, hT, b2s, b2s]
theorem pure_law : ∀ (z L : Nat) (xs : Nat → Int32), L ≤ 3072 → f_L_law L xs (st_S z) st_M = some 1 := by
  intro z L xs hL
  obtain ⟨σ9, w, g, e⟩ := made z
  rw [e]
  exact law_loop hL 513 0 σ9 w (by decide) (by decide) (by omega) g
end PU
