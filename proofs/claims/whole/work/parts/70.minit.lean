section MI
variable {z : Nat} {σ σ' : th_S} {n : Nat} {R : List (Nat × Nat × Nat)} {μ : th_M}
def RM48 : List (Nat × Nat × Nat) := [(27, 39, 47), (27, 38, 46), (27, 37, 45), (27, 36, 44), (27, 35, 43), (27, 32, 42), (27, 31, 41), (27, 30, 40), (27, 28, 39), (27, 27, 38), (27, 20, 37), (27, 19, 36), (27, 16, 35), (27, 7, 34), (27, 6, 33), (27, 5, 32), (27, 4, 31), (27, 3, 30), (27, 2, 29), (27, 1, 28)] ++ (RX27h ++ RX23)
theorem m_alloc (P : PS z σ 27 (RX27h ++ RX23)) (M : MZ z 27 μ) : ∃ σ', f_X11_init (th_nS σ 11 40) μ (z + 27) = f_X11_init_b168 fu σ' μ (z + 27) (nI 0) ∧ PS z σ' 48 RM48 ∧ SX σ' z := by
  have p28 := P.al (c := 11) (l := 40) rfl (by decide)
  have m28 : MZ z 28 μ := M.up (by decide)
  obtain ⟨sa28, s28, e28, f28, p29, m29⟩ := p28.ar m28 (k := 27) (b := z + 27) (c := 12) (ck := 11) (l := 7) (i := 1) rfl (by decide) rfl rfl (by decide) (by decide)
  obtain ⟨sa29, s29, e29, f29, p30, m30⟩ := p29.ar m29 (k := 27) (b := z + 27) (c := 12) (ck := 11) (l := 7) (i := 2) rfl (by decide) rfl rfl (by decide) (by decide)
  obtain ⟨sa30, s30, e30, f30, p31, m31⟩ := p30.ar m30 (k := 27) (b := z + 27) (c := 12) (ck := 11) (l := 7) (i := 3) rfl (by decide) rfl rfl (by decide) (by decide)
  obtain ⟨sa31, s31, e31, f31, p32, m32⟩ := p31.ar m31 (k := 27) (b := z + 27) (c := 12) (ck := 11) (l := 7) (i := 4) rfl (by decide) rfl rfl (by decide) (by decide)
  obtain ⟨sa32, s32, e32, f32, p33, m33⟩ := p32.ar m32 (k := 27) (b := z + 27) (c := 12) (ck := 11) (l := 7) (i := 5) rfl (by decide) rfl rfl (by decide) (by decide)
  obtain ⟨sa33, s33, e33, f33, p34, m34⟩ := p33.ar m33 (k := 27) (b := z + 27) (c := 12) (ck := 11) (l := 7) (i := 6) rfl (by decide) rfl rfl (by decide) (by decide)
  obtain ⟨sa34, s34, e34, f34, p35, m35⟩ := p34.ar m34 (k := 27) (b := z + 27) (c := 12) (ck := 11) (l := 7) (i := 7) rfl (by decide) rfl rfl (by decide) (by decide)
  obtain ⟨sa35, s35, e35, f35, p36, m36⟩ := p35.ar m35 (k := 27) (b := z + 27) (c := 12) (ck := 11) (l := 160) (i := 16) rfl (by decide) rfl rfl (by decide) (by decide)
  obtain ⟨sa36, s36, e36, f36, p37, m37⟩ := p36.ar m36 (k := 27) (b := z + 27) (c := 12) (ck := 11) (l := 1020) (i := 19) rfl (by decide) rfl rfl (by decide) (by decide)
  obtain ⟨sa37, s37, e37, f37, p38, m38⟩ := p37.ar m37 (k := 27) (b := z + 27) (c := 12) (ck := 11) (l := 24) (i := 20) rfl (by decide) rfl rfl (by decide) (by decide)
  obtain ⟨sa38, s38, e38, f38, p39, m39⟩ := p38.ar m38 (k := 27) (b := z + 27) (c := 12) (ck := 11) (l := 170) (i := 27) rfl (by decide) rfl rfl (by decide) (by decide)
  obtain ⟨sa39, s39, e39, f39, p40, m40⟩ := p39.ar m39 (k := 27) (b := z + 27) (c := 12) (ck := 11) (l := 6) (i := 28) rfl (by decide) rfl rfl (by decide) (by decide)
  obtain ⟨sa40, s40, e40, f40, p41, m41⟩ := p40.ar m40 (k := 27) (b := z + 27) (c := 12) (ck := 11) (l := 7) (i := 30) rfl (by decide) rfl rfl (by decide) (by decide)
  obtain ⟨sa41, s41, e41, f41, p42, m42⟩ := p41.ar m41 (k := 27) (b := z + 27) (c := 12) (ck := 11) (l := 7) (i := 31) rfl (by decide) rfl rfl (by decide) (by decide)
  obtain ⟨sa42, s42, e42, f42, p43, m43⟩ := p42.ar m42 (k := 27) (b := z + 27) (c := 12) (ck := 11) (l := 7) (i := 32) rfl (by decide) rfl rfl (by decide) (by decide)
  obtain ⟨sa43, s43, e43, f43, p44, m44⟩ := p43.ar m43 (k := 27) (b := z + 27) (c := 12) (ck := 11) (l := 50) (i := 35) rfl (by decide) rfl rfl (by decide) (by decide)
  obtain ⟨sa44, s44, e44, f44, p45, m45⟩ := p44.ar m44 (k := 27) (b := z + 27) (c := 12) (ck := 11) (l := 4) (i := 36) rfl (by decide) rfl rfl (by decide) (by decide)
  obtain ⟨sa45, s45, e45, f45, p46, m46⟩ := p45.ar m45 (k := 27) (b := z + 27) (c := 12) (ck := 11) (l := 4) (i := 37) rfl (by decide) rfl rfl (by decide) (by decide)
  obtain ⟨sa46, s46, e46, f46, p47, m47⟩ := p46.ar m46 (k := 27) (b := z + 27) (c := 12) (ck := 11) (l := 160) (i := 38) rfl (by decide) rfl rfl (by decide) (by decide)
  obtain ⟨sa47, s47, e47, f47, p48, m48⟩ := p47.ar m47 (k := 27) (b := z + 27) (c := 12) (ck := 11) (l := 40) (i := 39) rfl (by decide) rfl rfl (by decide) (by decide)
  refine ⟨s47, ?_, p48, fun k hk => p48.2.1 k hk, fun q hq => p48.2.2.1 q (List.mem_cons_of_mem _ hq) ?_, fun q hq => ?_, by rw [p48.1]; exact Nat.le_refl _⟩
  · unfold f_X11_init
    rw [e28, b3s, f28, Option.bind_some, e29, b3s, f29, Option.bind_some, e30, b3s, f30, Option.bind_some, e31, b3s, f31, Option.bind_some, e32, b3s, f32, Option.bind_some, e33, b3s, f33, Option.bind_some, e34, b3s, f34, Option.bind_some, e35, b3s, f35, Option.bind_some, e36, b3s, f36, Option.bind_some, e37, b3s, f37, Option.bind_some, e38, b3s, f38, Option.bind_some, e39, b3s, f39, Option.bind_some, e40, b3s, f40, Option.bind_some, e41, b3s, f41, Option.bind_some, e42, b3s, f42, Option.bind_some, e43, b3s, f43, Option.bind_some, e44, b3s, f44, Option.bind_some, e45, b3s, f45, Option.bind_some, e46, b3s, f46, Option.bind_some, e47, b3s, f47, Option.bind_some]
    rfl
  · have l1 : ∀ q ∈ sxL, q.1 < 48 := by decide
    exact l1 q hq
  · have l2 : ∀ q ∈ sxR, q ∈ RM48 := by decide
    exact (p48.2.2.2 q (l2 q hq)).2
theorem mi_rows (hM : SX σ z) : ∀ k i f μ, i + k = 4 → k < f → ∃ μ', f_X11_init_b168 f σ μ (z + 27) (nI i) = f_X11_init_b207 fu σ (th_w (th_w (th_w μ' (z + 27) 8 27) (z + 27) 11 2) (z + 27) 12 1) (z + 27) 0 (nI 0) ∧ (∀ q, q ≠ z + 44 → μ' q = μ q) ∧ (∀ j, i ≤ j → j < 4 → μ' (z + 44) j = -1) ∧ ∀ j, j < i → μ' (z + 44) j = μ (z + 44) j := by
  intro k
  induction k with
  | zero =>
    intro i f μ hi hf
    obtain ⟨f, rfl⟩ : ∃ f', f = f' + 1 := ⟨f - 1, by omega⟩
    have e : i = 4 := by omega
    subst e
    refine ⟨μ, ?_, fun _ _ => rfl, fun j h1 h2 => by omega, fun _ _ => rfl⟩
    show (if nI 4 ≤ nI 4 then _ else _) = _
    rw [if_pos (Int32.le_refl _), p_27 hM, Option.bind_some, p_27 hM, Option.bind_some, p_27 hM, Option.bind_some]
    rfl
  | succ k ih =>
    intro i f μ hi hf
    obtain ⟨f, rfl⟩ : ∃ f', f = f' + 1 := ⟨f - 1, by omega⟩
    obtain ⟨μ', a1, a2, a3, a4⟩ := ih (i + 1) f (th_w μ (z + 44) i (-1)) (by omega) (by omega)
    refine ⟨μ', ?_, fun q hq => by rw [a2 q hq, th_w_ne _ _ hq], fun j h1 h2 => ?_, fun j hj => by rw [a4 j (by omega), th_w_hit, if_neg (by omega)]⟩
    · show (if nI 4 ≤ nI i then _ else _) = _
      rw [if_neg (nI_ge (by omega) (by decide)), r_27_36 hM, Option.bind_some, s_44 hM (by omega), Option.bind_some, nI_1]
      exact a1
    · by_cases e : j = i
      · subst e; rw [a4 j (by omega), th_w_self]
      · exact a3 j (by omega) h2
theorem m_add (hM : SX σ z) : ∀ k i f μ, i + k = 46 → k < f → μ (z + 27) 15 = nI i → ∃ μ', f_X11_init_b207 f σ μ (z + 27) 0 (nI i) = (b2 (f_X11_text σ μ' (z + 27)) fun _ μ3 => some (σ, μ3)) ∧ μ' (z + 27) 15 = nI 46 ∧ (∀ j, i ≤ j → j < 46 → μ' (z + 35) j = FT j) ∧ (∀ j, j < i → μ' (z + 35) j = μ (z + 35) j) ∧ (∀ q, q ≠ z + 27 → q ≠ z + 35 → μ' q = μ q) ∧ ∀ j, j ≠ 15 → μ' (z + 27) j = μ (z + 27) j := by
  have ln : f_J0_length_8abf5 0 = some (nI 46) := oT_n (by decide)
  intro k
  induction k with
  | zero =>
    intro i f μ hi hf h1
    obtain ⟨f, rfl⟩ : ∃ f', f = f' + 1 := ⟨f - 1, by omega⟩
    have e : i = 46 := by omega
    subst e
    refine ⟨μ, ?_, h1, fun j h1 h2 => by omega, fun _ _ => rfl, fun _ _ _ => rfl, fun _ _ => rfl⟩
    show (f_J0_length_8abf5 0).bind _ = _
    rw [ln, Option.bind_some, if_pos (Int32.le_refl _), c_27 hM]
  | succ k ih =>
    intro i f μ hi hf h1
    obtain ⟨f, rfl⟩ : ∃ f', f = f' + 1 := ⟨f - 1, by omega⟩
    have ch : f_J0_charAt_5068e 0 (nI i) = some (FT i) := oU_n (by decide) (show i < 46 by omega)
    obtain ⟨c, hc, ec⟩ : rg (FT i) 255 := ⟨_, (ft_rg i (by omega)).2, (ft_rg i (by omega)).1⟩
    obtain ⟨μ', a1, a2, a3, a4, a5, a6⟩ := ih (i + 1) f (th_w (th_w μ (z + 27) 15 (nI (i + 1))) (z + 35) i (FT i)) (by omega) (by omega) (by rw [th_w_ne _ _ (show z + 27 ≠ z + 35 by omega), th_w_self])
    have m5 : ∀ j, th_w (th_w μ (z + 27) 15 (nI (i + 1))) (z + 35) i (FT i) (z + 35) j = if j = i then FT i else μ (z + 35) j := fun j => by
      rw [th_w_hit, th_w_ne _ _ (show z + 35 ≠ z + 27 by omega)]
    refine ⟨μ', ?_, a2, fun j h1 h2 => ?_, fun j hj => ?_, fun q h1 h2 => by rw [a5 q h1 h2, th_w_ne _ _ h2, th_w_ne _ _ h1], fun j hj => by rw [a6 j hj, th_w_ne _ _ (show z + 27 ≠ z + 35 by omega), th_w_hit, if_neg hj]⟩
    · show (f_J0_length_8abf5 0).bind _ = _
      rw [ln, Option.bind_some, if_neg (nI_ge (by omega) (by decide)), ch, Option.bind_some, c_27 hM]
      unfold f_X11_feed
      rw [m_within, Option.bind_some, if_pos (show (0 : Int32) ≤ FT i ∧ FT i ≤ 255 by rw [ec]; exact ⟨nI_pos' (by omega), (nI_le hc (by decide) : nI c ≤ nI 255)⟩), if_neg n10, i_27 hM, Option.bind_some, h1, if_neg (show ¬ nI i = 160 from fun q => by have := (nI_eq (by omega) (by decide) : nI i = nI 160 ↔ i = 160).mp q; omega), r_27_16 hM, Option.bind_some, Option.bind_some, p_27 hM, Option.bind_some, s_35 hM (by omega), Option.bind_some, i_27 hM, Option.bind_some, b2s, nI_1]
      exact a1
    · by_cases e : j = i
      · subst e
        rw [a4 j (by omega), m5, if_pos rfl]
      · exact a3 j (by omega) h2
    · rw [a4 j (by omega), m5, if_neg (by omega)]
end MI
