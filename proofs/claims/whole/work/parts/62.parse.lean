section PA
variable {z : Nat} {σ σM : th_S} {m a d op nt : Nat} {p : Nat → Int32} {μ μ' μX μM μX0 μM0 : th_M}
theorem PP.b37 (h : PP z m p nt μX0 μM0 μX μM op d a) (k : Nat) (v : Int32) : PP z m p nt μX0 (th_w μM0 (z + 37) k v) μX (th_w μM (z + 37) k v) op d a := by
  obtain ⟨hx, ⟨m1, m2, m3, m4, m5, m6, m7, m8, m9⟩, hf, ⟨g1, g2, g3⟩, ham, hd, hn, hc⟩ := h
  have e27 : ∀ μ : th_M, th_w μ (z + 37) k v (z + 27) = μ (z + 27) := fun μ => th_w_ne _ _ (by omega)
  have e36 : ∀ μ : th_M, th_w μ (z + 37) k v (z + 36) = μ (z + 36) := fun μ => th_w_ne _ _ (by omega)
  refine ⟨hx, ⟨m1.fr (th_w_ne _ _ (by omega)) (by rw [e27]), by rw [e27]; exact m2, by rw [e27]; exact m3, by rw [e27]; exact m4, by rw [e27]; exact m5, by rw [e27]; exact m6, by rw [e27]; exact m7, by rw [e27]; exact m8, by rw [e27]; exact m9⟩, hf, ⟨fun q h1 h2 => ?_, fun j hj => by rw [e27, e27]; exact g2 j hj, fun j hj => by rw [e36, e36]; exact g3 j hj⟩, ham, hd, hn, fun i hi => ?_⟩
  · by_cases c : q = z + 37
    · subst c
      funext j
      rw [th_w_hit, th_w_hit, g1 _ h1 h2]
    · rw [th_w_ne _ _ c, th_w_ne _ _ c]; exact g1 q h1 h2
  · rw [hc i hi]
    unfold C9
    rw [e36]
theorem PP.b7 (h : PP z m p nt μX0 μM0 μX μM op d a) (k : Nat) (v : Int32) : PP z m p nt (th_w μX0 (z + 7) k v) μM0 (th_w μX (z + 7) k v) μM op d a := by
  obtain ⟨⟨x1, x2, x3, x4, x5, x6⟩, hm, ⟨f1, f2⟩, hg, ham, hd, hn, hc⟩ := h
  have e4 : ∀ μ : th_M, th_w μ (z + 7) k v (z + 4) = μ (z + 4) := fun μ => th_w_ne _ _ (by omega)
  refine ⟨⟨x1.fr (th_w_ne _ _ (by omega)) (by rw [e4]), by rw [e4]; exact x2, by rw [e4]; exact x3, by rw [e4]; exact x4, by rw [e4]; exact x5, by rw [e4]; exact x6⟩, hm, ⟨fun q h1 h2 => ?_, fun j hj => by rw [e4, e4]; exact f2 j hj⟩, hg, ham, hd, hn, fun i hi => ?_⟩
  · by_cases c : q = z + 7
    · subst c
      funext j
      rw [th_w_hit, th_w_hit, f1 _ h1 h2]
    · rw [th_w_ne _ _ c, th_w_ne _ _ c]; exact f1 q h1 h2
  · rw [th_w_ne _ _ (by omega)]; exact hc i hi
/-- one clause -/
theorem part_lock (hU : XT σ z) (hM : SX σM z) (h : PP z m p nt μX0 μM0 μX μM 0 d a) (hda : d ≤ a) {i : Nat} (hi : i < 3) : ∃ v μX' μM' M0 op' d' a', f_X8_clauseOf σ μX (z + 4) (nI (6 + i)) = some (v, μX') ∧ f_X11_part σM μM (z + 27) (7 + i) (nI i) = some (v, μM') ∧ PP z m p nt μX0 M0 μX' μM' op' d' a' ∧ (M0 = μM0 ∨ M0 = th_w μM0 (z + 37) (4 * nt + i) (nI d)) ∧ (v = 0 ∨ (v = 1 ∧ M0 = th_w μM0 (z + 37) (4 * nt + i) (nI d) ∧ op' = 0 ∧ d ≤ d' ∧ d' ≤ a' ∧ (∀ i, i < d → C9 z nt μM' i = C9 z nt μM i) ∧ hq (C9 z nt μM') (d' - d) d 0 1)) := by
  have hn := h.2.2.2.2.2.2.1
  have isk : f_X11_is σM μM (z + 27) (7 + i) = some (if kT p m a = nI (6 + i) then 1 else 0) := by
    have := h.is hM (w := 6 + i) (by omega)
    rw [show 6 + i + 1 = 7 + i by omega] at this
    exact this
  unfold f_X8_clauseOf f_X11_part f_X8_skip
  rw [tc_4 hU, c_27 hM, h.kx hU, Option.bind_some, isk, Option.bind_some]
  by_cases k : kT p m a = nI (6 + i)
  · have ham := kT_end (p := p) (m := m) (a := a) (by rw [k]; exact fun q => by have := nI_pos (n := 6 + i) (by omega); rw [q] at this; exact this (by decide))
    have m160 := h.1.1.1
    have l := eT_le (p := p) (a := a) (m := m) (by omega)
    have l2 := aN_le (p := p) (a := a) (m := m) (by omega)
    obtain ⟨u1, w1, a1, a2, a3, a4⟩ := step_lock hU hM h
    have m17 : w1 (z + 27) 17 = nI nt := a3.2.1.2.2.2.2.2.2.2.2
    have m21 : w1 (z + 27) 21 = nI d := a3.2.1.2.2.2.2.2.2.2.1
    rw [if_pos k, if_pos k, if_neg n10, tc_4 hU, a1, a2, Option.bind_some, Option.bind_some, b2s, if_neg n10, r_27_20 hM, Option.bind_some, i_27 hM, Option.bind_some, i_27 hM, Option.bind_some, m17, m21, show (4 : Int32) * nI nt + nI i = nI (4 * nt + i) by rw [show (4 : Int32) = nI 4 from rfl, nI_mul, nI_add], s_37 hM (by omega), Option.bind_some]
    have b37 := a3.b37 (4 * nt + i) (nI d)
    obtain ⟨v, u2, w2, op2, d2, a2', b1, b2', b3, b4⟩ := any_lock hU hM u1 _ d (aN p m a) b37 (by omega)
    unfold f_X8_either f_X11_any
    rw [show f_scc_X8_either 64 0 σ u1 (z + 4) 0 = _ from b1, show f_scc_X11_any 64 0 σM (th_w w1 (z + 37) (4 * nt + i) (nI d)) (z + 27) = _ from b2', b2s, b2s]
    rcases b4 with e | ⟨e, g1, g2, g3, g4, g5⟩
    · subst e
      rw [if_pos rfl, if_pos rfl]
      exact ⟨0, u2, w2, _, op2, d2, a2', rfl, rfl, b3, Or.inr rfl, Or.inl rfl⟩
    · subst e
      subst g1
      rw [if_neg n10, if_neg n10, b3.kx hU, Option.bind_some, show f_X11_is_ σM w2 (z + 27) 59 = _ from b3.iss hM (s := 59) (by decide) (by decide) (by decide), Option.bind_some]
      have c9 : ∀ i', C9 z nt (th_w w1 (z + 37) (4 * nt + i) (nI d)) i' = C9 z nt μM i' := fun i' => by
        unfold C9
        rw [th_w_ne _ _ (by omega), a4]
      by_cases k59 : kT p m a2' = 59
      · have ham3 := kT_end (p := p) (m := m) (a := a2') (by rw [k59]; decide)
        have l3 := eT_le (p := p) (a := a2') (m := m) (by omega)
        have l4 := aN_le (p := p) (a := a2') (m := m) (by omega)
        obtain ⟨u3, w3, c1, c2, c3, c4⟩ := step_lock hU hM b3
        rw [if_pos k59, if_pos (show kT p m a2' = nI 59 from k59), if_neg n10, tc_4 hU, c1, c2, Option.bind_some, Option.bind_some, b2s, if_neg n10]
        have e9 : ∀ i, C9 z nt w3 i = C9 z nt w2 i := fun i => by unfold C9; rw [c4]
        refine ⟨1, u3, w3, _, 0, d2, aN p m a2', rfl, rfl, c3, Or.inr rfl, Or.inr ⟨rfl, rfl, rfl, g2, by omega, fun i hi => by rw [e9, g4 i hi, c9], ?_⟩⟩
        exact hq_ext _ _ _ _ (fun j h1 h2 => e9 j) (g5 0 (Nat.zero_le _))
      · rw [if_neg k59, if_neg (show ¬ kT p m a2' = nI 59 from k59), if_pos rfl, b2s, if_pos rfl]
        exact ⟨0, u2, w2, _, 0, d2, a2', rfl, rfl, b3, Or.inr rfl, Or.inl rfl⟩
  · rw [if_neg k, if_neg k, if_pos rfl, b2s, if_pos rfl]
    exact ⟨0, μX, μM, μM0, 0, d, a, rfl, rfl, h, Or.inl rfl, Or.inl rfl⟩
/-- what reading leaves -/
def RF (z nt : Nat) (μX μM μX' μM' : th_M) : Prop := (∀ q, q ≠ z + 4 → q ≠ z + 6 → q ≠ z + 7 → μX' q = μX q) ∧ (∀ j, (j < 3 ∨ j = 4 ∨ 8 < j) → μX' (z + 4) j = μX (z + 4) j) ∧ (∀ q, q ≠ z + 27 → q ≠ z + 36 → q ≠ z + 37 → μM' q = μM q) ∧ (∀ j, (j < 21 ∨ 26 < j) → μM' (z + 27) j = μM (z + 27) j) ∧ (∀ j, (j < 170 * nt ∨ 170 * nt + 160 ≤ j) → μM' (z + 36) j = μM (z + 36) j) ∧ ∀ j, (j < 4 * nt ∨ 4 * nt + 4 ≤ j) → μM' (z + 37) j = μM (z + 37) j
def BF (z nt : Nat) (μX μM X0 M0 : th_M) : Prop := (∀ q, q ≠ z + 4 → q ≠ z + 7 → X0 q = μX q) ∧ (∀ j, (j < 3 ∨ j = 4 ∨ 8 < j) → X0 (z + 4) j = μX (z + 4) j) ∧ (∀ q, q ≠ z + 27 → q ≠ z + 37 → M0 q = μM q) ∧ (∀ j, (j < 21 ∨ 26 < j) → M0 (z + 27) j = μM (z + 27) j) ∧ ∀ j, (j < 4 * nt ∨ 4 * nt + 4 ≤ j) → M0 (z + 37) j = μM (z + 37) j
theorem BF.rf {X0 M0 : th_M} (b : BF z nt μX0 μM0 X0 M0) (h : PP z m p nt X0 M0 μX μM op d a) : RF z nt μX0 μM0 μX μM := by
  obtain ⟨b1, b2, b3, b4, b5⟩ := b
  obtain ⟨-, -, ⟨f1, f2⟩, ⟨g1, g2, g3⟩, -⟩ := h
  exact ⟨fun q h1 h2 h3 => by rw [f1 q h1 h2, b1 q h1 h3], fun j hj => by rw [f2 j hj, b2 j hj], fun q h1 h2 h3 => by rw [g1 q h1 h2, b3 q h1 h3], fun j hj => by rw [g2 j hj, b4 j hj], fun j hj => by rw [g3 j hj, b3 _ (by omega) (by omega)], fun j hj => by rw [g1 _ (by omega) (by omega), b5 j hj]⟩
theorem BF.w7 {X0 M0 : th_M} (b : BF z nt μX μM X0 M0) (k : Nat) (v : Int32) : BF z nt μX μM (th_w X0 (z + 7) k v) M0 := by
  obtain ⟨b1, b2, b3⟩ := b
  exact ⟨fun q h1 h2 => by rw [th_w_ne _ _ h2, b1 q h1 h2], fun j hj => by rw [th_w_ne _ _ (by omega), b2 j hj], b3⟩
theorem BF.w37 {X0 M0 : th_M} (b : BF z nt μX μM X0 M0) {i : Nat} (hi : i < 4) (v : Int32) : BF z nt μX μM X0 (th_w M0 (z + 37) (4 * nt + i) v) := by
  obtain ⟨b1, b2, b3, b4, b5⟩ := b
  exact ⟨b1, b2, fun q h1 h2 => by rw [th_w_ne _ _ h2, b3 q h1 h2], fun j hj => by rw [th_w_ne _ _ (by omega), b4 j hj], fun j hj => by rw [th_w_hit, if_neg (by omega), b5 j hj]⟩
theorem BF.or {X0 M0 M1 : th_M} (b : BF z nt μX μM X0 M0) {i : Nat} (hi : i < 4) {v : Int32} (h : M1 = M0 ∨ M1 = th_w M0 (z + 37) (4 * nt + i) v) : BF z nt μX μM X0 M1 := by
  rcases h with e | e
  · rw [e]; exact b
  · rw [e]; exact b.w37 hi v
/-- what a good text leaves -/
def GT3 (z nt : Nat) (μX μM : th_M) (e0 e1 e2 : Nat) : Prop := e0 ≤ e1 ∧ e1 ≤ e2 ∧ e2 ≤ 160 ∧ μX (z + 4) 3 = nI e2 ∧ μX (z + 7) 0 = nI e0 ∧ μX (z + 7) 1 = nI e1 ∧ μX (z + 7) 2 = nI e2 ∧ μM (z + 27) 21 = nI e2 ∧ μM (z + 37) (4 * nt) = 0 ∧ μM (z + 37) (4 * nt + 1) = nI e0 ∧ μM (z + 37) (4 * nt + 2) = nI e1 ∧ (∀ i, i < e2 → μX (z + 6) i = tk (C9 z nt μM i)) ∧ hq (C9 z nt μM) e0 0 0 1 ∧ hq (C9 z nt μM) (e1 - e0) e0 0 1 ∧ hq (C9 z nt μM) (e2 - e1) e1 0 1
theorem parse_lock (hU : XT σ z) (hM : SX σM z) (E : XE z m p μX) (F : ME z m p μM) (hn : nt ≤ 5) (h17 : μM (z + 27) 17 = nI nt) :
    ∃ v μX' μM', f_X8_read σ μX (z + 4) = some (v, μX') ∧ f_X11_text σM μM (z + 27) = f_X11_text_b73 σM μM' (z + 27) (if v = -1 then 1 else 0) ∧ RF z nt μX μM μX' μM' ∧ ((v = -1 ∧ ∃ e0 e1 e2, GT3 z nt μX' μM' e0 e1 e2) ∨ ∃ a, a ≤ 160 ∧ v = nI a ∧ μM' (z + 27) 23 = nI a) := by
  have m160 := E.1
  let X0 : th_M := th_w (th_w μX (z + 4) 3 0) (z + 4) 6 0
  let M0 : th_M := th_w (th_w (th_w μM (z + 27) 22 0) (z + 27) 26 0) (z + 27) 21 0
  have BF0 : BF z nt μX μM X0 M0 := by
    refine ⟨fun q h1 h2 => ?_, fun j hj => ?_, fun q h1 h2 => ?_, fun j hj => ?_, fun j hj => ?_⟩
    · show th_w (th_w μX (z + 4) 3 0) (z + 4) 6 0 q = _
      rw [th_w_ne _ _ h1, th_w_ne _ _ h1]
    · show th_w (th_w μX (z + 4) 3 0) (z + 4) 6 0 (z + 4) j = _
      rw [th_w_hit, if_neg (by omega), th_w_hit, if_neg (by omega)]
    · show th_w (th_w (th_w μM (z + 27) 22 0) (z + 27) 26 0) (z + 27) 21 0 q = _
      rw [th_w_ne _ _ h1, th_w_ne _ _ h1, th_w_ne _ _ h1]
    · show th_w (th_w (th_w μM (z + 27) 22 0) (z + 27) 26 0) (z + 27) 21 0 (z + 27) j = _
      rw [th_w_hit, if_neg (by omega), th_w_hit, if_neg (by omega), th_w_hit, if_neg (by omega)]
    · show th_w (th_w (th_w μM (z + 27) 22 0) (z + 27) 26 0) (z + 27) 21 0 (z + 37) j = _
      rw [th_w_ne _ _ (by omega), th_w_ne _ _ (by omega), th_w_ne _ _ (by omega)]
  have E0 : XE z m p X0 := (E.w (by decide)).w (by decide)
  have F0 : ME z m p M0 := ((F.w (by decide)).w (by decide)).w (by decide)
  obtain ⟨u1, x1, x2, x3, x4, x5, x6, x7⟩ := x_step hU E0 (e := 0) (th_w_self _ _ _ _) (Nat.zero_le _)
  obtain ⟨w1, y1, y2, y3, y4, y5, y6, y7, y8⟩ := m_next hM F0 (e := 0) (by show th_w (th_w (th_w μM (z + 27) 22 0) (z + 27) 26 0) (z + 27) 21 0 (z + 27) 22 = _; rw [th_w_hit, if_neg (by decide), th_w_hit, if_neg (by decide), th_w_self]; rfl) (Nat.zero_le _)
  have l0 := sk_le p (m - 0) 0
  have P0 : PP z m p nt X0 M0 u1 w1 0 0 (sk p (m - 0) 0) := by
    refine ⟨⟨E0.fr (x6 _ (by omega)) (x7 1 (by decide)), x2, x3, x4, x5, ?_⟩, ⟨F0.fr (y7 _ (by omega)) (y8 15 (by decide)), y2, y3, y4, y5, y6, ?_, ?_, ?_⟩, ⟨fun q h1 h2 => x6 q h1, fun j hj => x7 j (by omega)⟩, ⟨fun q h1 h2 => y7 q h1, fun j hj => y8 j (by omega), fun j hj => by rw [y7 _ (by omega)]⟩, by omega, by decide, hn, fun i hi => absurd hi (Nat.not_lt_zero _)⟩
    · rw [x7 3 (by decide)]
      show th_w (th_w μX (z + 4) 3 0) (z + 4) 6 0 (z + 4) 3 = _
      rw [th_w_hit, if_neg (by decide), th_w_self]; rfl
    · rw [y8 26 (by decide)]
      show th_w (th_w (th_w μM (z + 27) 22 0) (z + 27) 26 0) (z + 27) 21 0 (z + 27) 26 = _
      rw [th_w_hit, if_neg (by decide), th_w_self]; rfl
    · rw [y8 21 (by decide)]
      show th_w (th_w (th_w μM (z + 27) 22 0) (z + 27) 26 0) (z + 27) 21 0 (z + 27) 21 = _
      rw [th_w_self]; rfl
    · rw [y8 17 (by decide)]
      show th_w (th_w (th_w μM (z + 27) 22 0) (z + 27) 26 0) (z + 27) 21 0 (z + 27) 17 = _
      rw [th_w_hit, if_neg (by decide), th_w_hit, if_neg (by decide), th_w_hit, if_neg (by decide)]; exact h17
  have hX : f_X8_read σ μX (z + 4) = f_X8_read_b16 fu σ u1 (z + 4) (nI 0) := by
    unfold f_X8_read
    rw [tp_4 hU, Option.bind_some, tp_4 hU, Option.bind_some, tc_4 hU, show f_X8_step σ (th_w (th_w μX (z + 4) 3 0) (z + 4) 6 0) (z + 4) = _ from x1, Option.bind_some]
    rfl
  have rd : ∀ f i u, i < 3 → f_X8_read_b16 (f + 1) σ u (z + 4) (nI i) = b2 (f_X8_clauseOf σ u (z + 4) (nI (6 + i))) fun v3 μ4 => if v3 = 0 then some (μ4 (z + 4) 5, μ4) else f_X8_read_b16 f σ (th_w μ4 (z + 7) i (μ4 (z + 4) 3)) (z + 4) (nI (i + 1)) := by
    intro f i u hi
    show (if nI 3 ≤ nI i then _ else _) = _
    rw [if_neg (nI_ge hi (by decide)), tc_4 hU, show (6 : Int32) + nI i = nI (6 + i) from nI_add 6 i, nI_1]
    simp only [ti_4 hU, Option.bind_some, tr_4_4 hU, ts_7 hU hi]
  have rd3 : ∀ f u, f_X8_read_b16 (f + 1) σ u (z + 4) (nI 3) = if u (z + 4) 7 = -1 then some (-1, u) else some (u (z + 4) 5, u) := by
    intro f u
    show (if nI 3 ≤ nI 3 then _ else _) = _
    rw [if_pos (Int32.le_refl _), ti_4 hU, Option.bind_some, ti_4 hU, Option.bind_some]
  have hMx : f_X11_text σM μM (z + 27) = b2 (f_X11_part σM w1 (z + 27) (7 + 0) (nI 0)) fun v6 μ7 =>
      if v6 = 0 then f_X11_text_b73 σM μ7 (z + 27) 0 else b2 (f_X11_part σM μ7 (z + 27) (7 + 1) (nI 1)) fun v8 μ9 => if v8 = 0 then f_X11_text_b73 σM μ9 (z + 27) 0 else b2 (f_X11_part σM μ9 (z + 27) (7 + 2) (nI 2)) fun v10 μ11 => if v10 = 0 then f_X11_text_b73 σM μ11 (z + 27) 0 else if μ11 (z + 27) 24 = 0 then f_X11_text_b73 σM μ11 (z + 27) 1 else f_X11_text_b73 σM μ11 (z + 27) 0 := by
    unfold f_X11_text
    rw [i_27 hM, Option.bind_some, h17, if_neg (show ¬ nI nt = 6 from fun q => by have := (nI_eq (by omega) (by decide) : nI nt = nI 6 ↔ nt = 6).mp q; omega), p_27 hM, Option.bind_some, p_27 hM, Option.bind_some, p_27 hM, Option.bind_some, c_27 hM, show f_X11_next σM (th_w (th_w (th_w μM (z + 27) 22 0) (z + 27) 26 0) (z + 27) 21 0) (z + 27) = _ from y1, Option.bind_some]
    simp only [i_27 hM, Option.bind_some]
    rfl
  have ne1 : ∀ a : Nat, a ≤ 160 → ¬ nI a = -1 := fun a ha q => by have := nI_pos (n := a) (by omega); rw [q] at this; exact this (by decide)
  have bad : ∀ {X0' M0' u w : th_M} {op d a : Nat}, BF z nt μX μM X0' M0' → PP z m p nt X0' M0' u w op d a → ∃ v μX' μM', (some (u (z + 4) 5, u) : Option (Int32 × th_M)) = some (v, μX') ∧ f_X11_text_b73 σM w (z + 27) 0 = f_X11_text_b73 σM μM' (z + 27) (if v = -1 then 1 else 0) ∧ RF z nt μX μM μX' μM' ∧ ((v = -1 ∧ ∃ e0 e1 e2, GT3 z nt μX' μM' e0 e1 e2) ∨ ∃ a, a ≤ 160 ∧ v = nI a ∧ μM' (z + 27) 23 = nI a) := by
    intro X0' M0' u w op d a b h
    have ham := h.2.2.2.2.1
    have e5 : u (z + 4) 5 = nI a := h.1.2.1
    refine ⟨u (z + 4) 5, u, w, rfl, ?_, b.rf h, Or.inr ⟨a, by omega, e5, h.2.1.2.1⟩⟩
    rw [e5, if_neg (ne1 a (by omega))]
  rw [hX, hMx, show fu = 999 + 1 from rfl, rd 999 0 u1 (by decide)]
  obtain ⟨v1, u2, w2, N1, op1, d1, a1, c1, c2, c3, c4, c5⟩ := part_lock hU hM P0 (Nat.zero_le _) (i := 0) (by decide)
  rw [c1, c2, b2s, b2s]
  rcases c5 with e | ⟨e, eN, eo, g1, g2, g3, g4⟩
  · subst e
    rw [if_pos rfl, if_pos rfl]
    exact bad (BF0.or (by decide) c4) c3
  subst e
  subst eo
  have t3 : u2 (z + 4) 3 = nI d1 := c3.1.2.2.2.2.2
  rw [if_neg n10, if_neg n10, t3, show 0 + 1 = 1 from rfl, rd 998 1 _ (by decide)]
  have B1 : BF z nt μX μM (th_w X0 (z + 7) 0 (nI d1)) N1 := (BF0.or (by decide) c4).w7 _ _
  obtain ⟨v2, u3, w3, N2, op2, d2, a2, c1', c2', c3', c4', c5'⟩ := part_lock hU hM (c3.b7 0 (nI d1)) g2 (i := 1) (by decide)
  rw [c1', c2', b2s, b2s]
  rcases c5' with e | ⟨e, eN', eo, g1', g2', g3', g4'⟩
  · subst e
    rw [if_pos rfl, if_pos rfl]
    exact bad (B1.or (by decide) c4') c3'
  subst e
  subst eo
  have t3' : u3 (z + 4) 3 = nI d2 := c3'.1.2.2.2.2.2
  rw [if_neg n10, if_neg n10, t3', show 1 + 1 = 2 from rfl, rd 997 2 _ (by decide)]
  have B2 : BF z nt μX μM (th_w (th_w X0 (z + 7) 0 (nI d1)) (z + 7) 1 (nI d2)) N2 := (B1.or (by decide) c4').w7 _ _
  obtain ⟨v3, u4, w4, N3, op3, d3, a3, c1'', c2'', c3'', c4'', c5''⟩ := part_lock hU hM (c3'.b7 1 (nI d2)) g2' (i := 2) (by decide)
  rw [c1'', c2'', b2s, b2s]
  rcases c5'' with e | ⟨e, eN'', eo, g1'', g2'', g3'', g4''⟩
  · subst e
    rw [if_pos rfl, if_pos rfl]
    exact bad (B2.or (by decide) c4'') c3''
  subst e
  subst eo
  have t3'' : u4 (z + 4) 3 = nI d3 := c3''.1.2.2.2.2.2
  rw [if_neg n10, if_neg n10, t3'', show 2 + 1 = 3 from rfl, rd3 996]
  have B3 : BF z nt μX μM (th_w (th_w (th_w X0 (z + 7) 0 (nI d1)) (z + 7) 1 (nI d2)) (z + 7) 2 (nI d3)) N3 := (B2.or (by decide) c4'').w7 _ _
  have PF := c3''.b7 2 (nI d3)
  have kk : (th_w u4 (z + 7) 2 (nI d3)) (z + 4) 7 = kT p m a3 := PF.1.2.2.2.1
  have ss : w4 (z + 27) 24 = sT p m a3 := PF.2.1.2.2.2.1
  rw [kk, ss]
  by_cases ke : kT p m a3 = -1
  · rw [if_pos ke, if_pos (kT_end0.mp ke)]
    refine ⟨-1, _, w4, rfl, by rw [if_pos rfl], B3.rf PF, Or.inl ⟨rfl, d1, d2, d3, g1', g1'', PF.2.2.2.2.2.1, PF.1.2.2.2.2.2, ?_, ?_, ?_, PF.2.1.2.2.2.2.2.2.2.1, ?_, ?_, ?_, PF.2.2.2.2.2.2.2, ?_, ?_, ?_⟩⟩
    · have x7 : u4 (z + 7) = _ := c3''.2.2.1.1 (z + 7) (by omega) (by omega)
      rw [th_w_hit, if_neg (by decide), x7, th_w_hit, if_neg (by decide), th_w_self]
    · have x7 : u4 (z + 7) = _ := c3''.2.2.1.1 (z + 7) (by omega) (by omega)
      rw [th_w_hit, if_neg (by decide), x7, th_w_self]
    · rw [th_w_self]
    · have y7 : w4 (z + 37) = _ := PF.2.2.2.1.1 (z + 37) (by omega) (by omega)
      rw [y7, eN'', eN', eN, th_w_hit, if_neg (by omega), th_w_hit, if_neg (by omega), show 4 * nt = 4 * nt + 0 from rfl, th_w_self]
      rfl
    · have y7 : w4 (z + 37) = _ := PF.2.2.2.1.1 (z + 37) (by omega) (by omega)
      rw [y7, eN'', eN', th_w_hit, if_neg (by omega), th_w_self]
    · have y7 : w4 (z + 37) = _ := PF.2.2.2.1.1 (z + 37) (by omega) (by omega)
      rw [y7, eN'', th_w_self]
    · refine hq_ext _ _ _ _ (fun j h1 h2 => ?_) g4
      rw [g3'' j (by omega), g3' j (by omega)]
    · refine hq_ext _ _ _ _ (fun j h1 h2 => ?_) g4'
      rw [g3'' j (by omega)]
    · exact g4''
  · rw [if_neg ke, if_neg (fun q => ke (kT_end0.mpr q))]
    exact bad B3 PF
end PA
