section PQ
variable {z : Nat} {σ σM : th_S} {m a d op nt : Nat} {p : Nat → Int32} {μ μ' μX μM μX0 μM0 : th_M}
/-! both sides at one place of the tape -/
def C9 (z nt : Nat) (μ : th_M) : Nat → Int32 := fun i => μ (z + 36) (170 * nt + i)
def PX (z m : Nat) (p : Nat → Int32) (d a : Nat) (μ : th_M) : Prop := XE z m p μ ∧ μ (z + 4) 5 = nI a ∧ μ (z + 4) 6 = nI (eT p m a) ∧ μ (z + 4) 7 = kT p m a ∧ (kT p m a = 12 → μ (z + 4) 8 = vT p m a) ∧ μ (z + 4) 3 = nI d
def PM (z m : Nat) (p : Nat → Int32) (nt op d a : Nat) (μ : th_M) : Prop := ME z m p μ ∧ μ (z + 27) 23 = nI a ∧ μ (z + 27) 22 = nI (eT p m a) ∧ μ (z + 27) 24 = sT p m a ∧ (sT p m a = 1 → μ (z + 27) 25 = vT p m a) ∧ (sT p m a = 3 → μ (z + 27) 25 = p a) ∧ μ (z + 27) 26 = nI op ∧ μ (z + 27) 21 = nI d ∧ μ (z + 27) 17 = nI nt
def FX (z : Nat) (μ0 μ : th_M) : Prop := (∀ q, q ≠ z + 4 → q ≠ z + 6 → μ q = μ0 q) ∧ ∀ j, (j < 3 ∨ j = 4 ∨ 8 < j) → μ (z + 4) j = μ0 (z + 4) j
def FM (z nt : Nat) (μ0 μ : th_M) : Prop := (∀ q, q ≠ z + 27 → q ≠ z + 36 → μ q = μ0 q) ∧ (∀ j, (j < 21 ∨ 26 < j) → μ (z + 27) j = μ0 (z + 27) j) ∧ ∀ j, (j < 170 * nt ∨ 170 * nt + 160 ≤ j) → μ (z + 36) j = μ0 (z + 36) j
def PP (z m : Nat) (p : Nat → Int32) (nt : Nat) (μX0 μM0 μX μM : th_M) (op d a : Nat) : Prop := PX z m p d a μX ∧ PM z m p nt op d a μM ∧ FX z μX0 μX ∧ FM z nt μM0 μM ∧ a ≤ m ∧ d ≤ 160 ∧ nt ≤ 5 ∧ ∀ i, i < d → μX (z + 6) i = tk (C9 z nt μM i)
theorem step_lock (hU : XT σ z) (hM : SX σM z) (h : PP z m p nt μX0 μM0 μX μM op d a) : ∃ μX' μM', f_X8_step σ μX (z + 4) = some μX' ∧ f_X11_next σM μM (z + 27) = some μM' ∧ PP z m p nt μX0 μM0 μX' μM' op d (aN p m a) ∧ μM' (z + 36) = μM (z + 36) := by
  obtain ⟨⟨x1, x2, x3, x4, x5, x6⟩, ⟨m1, m2, m3, m4, m5, m6, m7, m8, m9⟩, ⟨f1, f2⟩, ⟨g1, g2, g3⟩, ham, hd, hn, hc⟩ := h
  have l := eT_le (p := p) ham
  have l2 := aN_le (p := p) ham
  obtain ⟨μX', a1, a2, a3, a4, a5, a6, a7⟩ := x_step hU x1 x3 l.2.1
  obtain ⟨μM', b1, b2, b3, b4, b5, b6, b7, b8⟩ := m_next hM m1 m3 l.2.1
  have e36 : μM' (z + 36) = μM (z + 36) := b7 _ (by omega)
  refine ⟨μX', μM', a1, b1, ⟨⟨x1.fr (a6 _ (by omega)) (a7 1 (by decide)), a2, a3, a4, a5, by rw [a7 3 (by decide)]; exact x6⟩, ⟨m1.fr (b7 _ (by omega)) (b8 15 (by decide)), b2, b3, b4, b5, b6, by rw [b8 26 (by decide)]; exact m7, by rw [b8 21 (by decide)]; exact m8, by rw [b8 17 (by decide)]; exact m9⟩, ⟨fun q h1 h2 => by rw [a6 q h1]; exact f1 q h1 h2, fun j hj => by rw [a7 j (by omega)]; exact f2 j hj⟩, ⟨fun q h1 h2 => by rw [b7 q h1]; exact g1 q h1 h2, fun j hj => by rw [b8 j (by omega)]; exact g2 j hj, fun j hj => by rw [e36]; exact g3 j hj⟩, l2.2, hd, hn, fun i hi => ?_⟩, e36⟩
  rw [a6 _ (by omega), hc i hi]
  unfold C9
  rw [e36]
theorem put_lock (hU : XT σ z) (hM : SX σM z) (h : PP z m p nt μX0 μM0 μX μM op d a) (hd : d < 160) (v w : Int32) (hw : w = tk v) : ∃ μX' μM', f_X8_put σ μX (z + 4) w = some μX' ∧ f_X11_put σM μM (z + 27) v = some μM' ∧ PP z m p nt μX0 μM0 μX' μM' op (d + 1) a ∧ (∀ i, i < d → C9 z nt μM' i = C9 z nt μM i) ∧ C9 z nt μM' d = v := by
  obtain ⟨⟨x1, x2, x3, x4, x5, x6⟩, ⟨m1, m2, m3, m4, m5, m6, m7, m8, m9⟩, ⟨f1, f2⟩, ⟨g1, g2, g3⟩, ham, -, hn, hc⟩ := h
  let X1 : th_M := th_w (th_w μX (z + 6) d w) (z + 4) 3 (nI (d + 1))
  let M1 : th_M := th_w (th_w μM (z + 27) 21 (nI (d + 1))) (z + 36) (170 * nt + d) v
  have X4 : ∀ j, X1 (z + 4) j = if j = 3 then nI (d + 1) else μX (z + 4) j := fun j => by
    show th_w (th_w μX (z + 6) d w) (z + 4) 3 (nI (d + 1)) (z + 4) j = _
    rw [th_w_hit, th_w_ne _ _ (show z + 4 ≠ z + 6 by omega)]
  have Xq : ∀ q, q ≠ z + 4 → q ≠ z + 6 → X1 q = μX q := fun q h1 h2 => by
    show th_w (th_w μX (z + 6) d w) (z + 4) 3 (nI (d + 1)) q = _
    rw [th_w_ne _ _ h1, th_w_ne _ _ h2]
  have X6 : ∀ j, X1 (z + 6) j = if j = d then w else μX (z + 6) j := fun j => by
    show th_w (th_w μX (z + 6) d w) (z + 4) 3 (nI (d + 1)) (z + 6) j = _
    rw [th_w_ne _ _ (show z + 6 ≠ z + 4 by omega), th_w_hit]
  have M27 : ∀ j, M1 (z + 27) j = if j = 21 then nI (d + 1) else μM (z + 27) j := fun j => by
    show th_w (th_w μM (z + 27) 21 (nI (d + 1))) (z + 36) (170 * nt + d) v (z + 27) j = _
    rw [th_w_ne _ _ (show z + 27 ≠ z + 36 by omega), th_w_hit]
  have M36 : ∀ j, M1 (z + 36) j = if j = 170 * nt + d then v else μM (z + 36) j := fun j => by
    show th_w (th_w μM (z + 27) 21 (nI (d + 1))) (z + 36) (170 * nt + d) v (z + 36) j = _
    rw [th_w_hit, th_w_ne _ _ (show z + 36 ≠ z + 27 by omega)]
  have Mq : ∀ q, q ≠ z + 27 → q ≠ z + 36 → M1 q = μM q := fun q h1 h2 => by
    show th_w (th_w μM (z + 27) 21 (nI (d + 1))) (z + 36) (170 * nt + d) v q = _
    rw [th_w_ne _ _ h2, th_w_ne _ _ h1]
  have pre : ∀ i, i < d → C9 z nt M1 i = C9 z nt μM i := fun i hi => by
    unfold C9
    rw [M36, if_neg (by omega)]
  have here : C9 z nt M1 d = v := by
    unfold C9
    rw [M36, if_pos rfl]
  refine ⟨X1, M1, ?_, ?_, ⟨⟨x1.fr (Xq _ (by omega) (by omega)) (by rw [X4, if_neg (by decide)]), by rw [X4, if_neg (by decide)]; exact x2, by rw [X4, if_neg (by decide)]; exact x3, by rw [X4, if_neg (by decide)]; exact x4, fun q => by rw [X4, if_neg (by decide)]; exact x5 q, by rw [X4, if_pos rfl]⟩, ⟨m1.fr (Mq _ (by omega) (by omega)) (by rw [M27, if_neg (by decide)]), by rw [M27, if_neg (by decide)]; exact m2, by rw [M27, if_neg (by decide)]; exact m3, by rw [M27, if_neg (by decide)]; exact m4, fun q => by rw [M27, if_neg (by decide)]; exact m5 q, fun q => by rw [M27, if_neg (by decide)]; exact m6 q, by rw [M27, if_neg (by decide)]; exact m7, by rw [M27, if_pos rfl], by rw [M27, if_neg (by decide)]; exact m9⟩, ⟨fun q h1 h2 => by rw [Xq q h1 h2]; exact f1 q h1 h2, fun j hj => by rw [X4, if_neg (by omega)]; exact f2 j hj⟩, ⟨fun q h1 h2 => by rw [Mq q h1 h2]; exact g1 q h1 h2, fun j hj => by rw [M27, if_neg (by omega)]; exact g2 j hj, fun j hj => by rw [M36, if_neg (by omega)]; exact g3 j hj⟩, ham, by omega, hn, fun i hi => ?_⟩, pre, here⟩
  · unfold f_X8_put
    rw [ti_4 hU, Option.bind_some, x6, if_neg (show ¬ (160 : Int32) ≤ nI d from (nI_ge hd (by decide) : ¬ nI 160 ≤ nI d)), tr_4_2 hU, Option.bind_some, Option.bind_some, ts_6 hU hd, Option.bind_some, ti_4 hU, Option.bind_some, th_w_ne _ _ (show z + 4 ≠ z + 6 by omega), x6, tp_4 hU, Option.bind_some, nI_1]
  · unfold f_X11_put
    rw [r_27_19 hM, Option.bind_some, i_27 hM, Option.bind_some, i_27 hM, Option.bind_some, m9, m8, p_27 hM, Option.bind_some, show (170 : Int32) * nI nt + nI d = nI (170 * nt + d) by rw [show (170 : Int32) = nI 170 from rfl, nI_mul, nI_add], s_36 hM (by omega), Option.bind_some, nI_1]
  · by_cases e : i = d
    · subst e
      rw [X6, if_pos rfl, here, hw]
    · rw [X6, if_neg e, pre i (by omega)]
      exact hc i (by omega)
theorem PP.opn (h : PP z m p nt μX0 μM0 μX μM op d a) (op' : Nat) : PP z m p nt μX0 μM0 μX (th_w μM (z + 27) 26 (nI op')) op' d a := by
  obtain ⟨hx, ⟨m1, m2, m3, m4, m5, m6, m7, m8, m9⟩, hf, ⟨g1, g2, g3⟩, ham, hd, hn, hc⟩ := h
  have M : ∀ j, j ≠ 26 → th_w μM (z + 27) 26 (nI op') (z + 27) j = μM (z + 27) j := fun j hj => by rw [th_w_hit, if_neg hj]
  refine ⟨hx, ⟨m1.w (by decide), by rw [M _ (by decide)]; exact m2, by rw [M _ (by decide)]; exact m3, by rw [M _ (by decide)]; exact m4, fun q => by rw [M _ (by decide)]; exact m5 q, fun q => by rw [M _ (by decide)]; exact m6 q, th_w_self _ _ _ _, by rw [M _ (by decide)]; exact m8, by rw [M _ (by decide)]; exact m9⟩, hf, ⟨fun q h1 h2 => by rw [th_w_ne _ _ h1]; exact g1 q h1 h2, fun j hj => by rw [M _ (by omega)]; exact g2 j hj, fun j hj => by rw [th_w_ne _ _ (by omega)]; exact g3 j hj⟩, ham, hd, hn, fun i hi => ?_⟩
  rw [hc i hi]
  unfold C9
  rw [th_w_ne _ _ (by omega)]
theorem C9_op (v : Int32) (i : Nat) : C9 z nt (th_w μ (z + 27) 26 v) i = C9 z nt μ i := by
  unfold C9
  rw [th_w_ne _ _ (by omega)]
theorem emit_lock (hU : XT σ z) (hM : SX σM z) (h : PP z m p nt μX0 μM0 μX μM op d a) (hd : d < 160) (v s : Int32) (hw : (-1) - s = tk v) : ∃ μX' μM', f_X8_emit σ μX (z + 4) s = some μX' ∧ f_X11_put σM μM (z + 27) v = some μM' ∧ PP z m p nt μX0 μM0 μX' μM' op (d + 1) a ∧ (∀ i, i < d → C9 z nt μM' i = C9 z nt μM i) ∧ C9 z nt μM' d = v := by
  obtain ⟨μX', μM', a1, a2⟩ := put_lock hU hM h hd v _ hw
  refine ⟨μX', μM', ?_, a2⟩
  unfold f_X8_emit
  rw [tc_4 hU, a1, Option.bind_some]
/-! what is in hand, on both sides -/
theorem PP.kx (hU : XT σ z) (h : PP z m p nt μX0 μM0 μX μM op d a) : oI σ μX 8 (z + 4) 7 = some (kT p m a) := by
  rw [ti_4 hU, h.1.2.2.2.1]
theorem PP.is (hM : SX σM z) (h : PP z m p nt μX0 μM0 μX μM op d a) {w : Nat} (hw : w < 12) : f_X11_is σM μM (z + 27) (w + 1) = some (if kT p m a = nI w then 1 else 0) :=
  m_is hM hw h.2.1.1 h.2.1.2.1 h.2.1.2.2.1 h.2.1.2.2.2.1 h.2.2.2.2.1
theorem PP.iss (hM : SX σM z) (h : PP z m p nt μX0 μM0 μX μM op d a) {s : Nat} (hs : 13 ≤ s) (hs2 : s < 256) (hg : isG (nI s) = true) : f_X11_is_ σM μM (z + 27) (nI s) = some (if kT p m a = nI s then 1 else 0) :=
  m_is_ hM hs hs2 h.2.1.2.2.2.1 h.2.1.2.2.2.2.2.1 hg
theorem kT_rng (hp : ∀ i, i < m → rg (p i) 255) : kT p m a = -1 ∨ kT p m a = -2 ∨ ∃ k, k < 256 ∧ kT p m a = nI k := by
  unfold kT
  by_cases c : m ≤ a
  · rw [if_pos c]; exact Or.inl rfl
  · rw [if_neg c]
    by_cases d : isL (p a) = true
    · rw [if_pos d]
      rcases wcode_cases (p := p) a (le p (m - a) a) with ⟨w1, -⟩ | ⟨j, hj, w1, -⟩
      · rw [w1]; exact Or.inr (Or.inl rfl)
      · rw [w1]; exact Or.inr (Or.inr ⟨j, by omega, rfl⟩)
    · rw [if_neg d]
      by_cases g : isD (p a) = true
      · rw [if_pos g]
        by_cases u : 4 < dg p (m - a) a - a
        · rw [if_pos u]; exact Or.inr (Or.inl rfl)
        · rw [if_neg u]; exact Or.inr (Or.inr ⟨12, by decide, rfl⟩)
      · rw [if_neg g]
        by_cases u : isG (p a) = true
        · rw [if_pos u]
          obtain ⟨b, hb, eb⟩ := hp a (by omega)
          exact Or.inr (Or.inr ⟨b, by omega, eb⟩)
        · rw [if_neg u]; exact Or.inr (Or.inl rfl)
theorem PP.rng (h : PP z m p nt μX0 μM0 μX μM op d a) : kT p m a = -1 ∨ kT p m a = -2 ∨ ∃ k, k < 256 ∧ kT p m a = nI k := kT_rng (fun i hi => (h.1.1.2.2 i hi).2)
theorem kT_num : kT p m a = 12 ↔ sT p m a = 1 := by
  unfold kT sT
  by_cases c : m ≤ a
  · rw [if_pos c, if_pos c]; decide
  · rw [if_neg c, if_neg c]
    by_cases d : isL (p a) = true
    · rw [if_pos d, if_pos d]
      refine ⟨fun q => ?_, fun q => absurd q (by decide)⟩
      rcases wcode_cases (p := p) a (le p (m - a) a) with ⟨w1, -⟩ | ⟨j, hj, w1, -⟩
      · rw [w1] at q; exact absurd q (by decide)
      · rw [w1] at q
        have := (nI_eq (a := j) (b := 12) (by omega) (by decide)).mp q
        omega
    · rw [if_neg d, if_neg d]
      by_cases g : isD (p a) = true
      · rw [if_pos g, if_pos g]
        by_cases u : 4 < dg p (m - a) a - a
        · rw [if_pos u, if_pos u]; decide
        · rw [if_neg u, if_neg u]; decide
      · rw [if_neg g, if_neg g]
        by_cases u : isG (p a) = true
        · rw [if_pos u, if_pos u]
          refine ⟨fun q => ?_, fun q => absurd q (by decide)⟩
          rw [q] at u; exact absurd u (by decide)
        · rw [if_neg u, if_neg u]; decide
theorem kT_end0 : kT p m a = -1 ↔ sT p m a = 0 := by
  unfold kT sT
  by_cases c : m ≤ a
  · rw [if_pos c, if_pos c]; decide
  · rw [if_neg c, if_neg c]
    by_cases d : isL (p a) = true
    · rw [if_pos d, if_pos d]
      refine ⟨fun q => ?_, fun q => absurd q (by decide)⟩
      rcases wcode_cases (p := p) a (le p (m - a) a) with ⟨w1, -⟩ | ⟨j, hj, w1, -⟩
      · rw [w1] at q; exact absurd q (by decide)
      · rw [w1] at q
        exact absurd (by rw [q]; decide) (nI_pos (n := j) (by omega))
    · rw [if_neg d, if_neg d]
      by_cases g : isD (p a) = true
      · rw [if_pos g, if_pos g]
        by_cases u : 4 < dg p (m - a) a - a
        · rw [if_pos u, if_pos u]; decide
        · rw [if_neg u, if_neg u]; decide
      · rw [if_neg g, if_neg g]
        by_cases u : isG (p a) = true
        · rw [if_pos u, if_pos u]
          refine ⟨fun q => ?_, fun q => absurd q (by decide)⟩
          rw [q] at u; exact absurd u (by decide)
        · rw [if_neg u, if_neg u]; decide
theorem digs : ∀ c, c < 256 → isD (nI c) = true → 48 ≤ c ∧ c ≤ 57 := by decide +kernel
theorem nx_val (hp : ∀ i, i < m → rg (p i) 255) : ∀ k i w t, i + k = m → w < 10 ^ t → t + (dg p k i - i) ≤ 4 → ∃ w', w' < 10000 ∧ nx p k i (nI w) = nI w'
  | 0, i, w, t, _, hw, ht => ⟨w, Nat.lt_of_lt_of_le hw (by have : 10 ^ t ≤ 10 ^ 4 := Nat.pow_le_pow_right (by decide) (by omega); exact this), rfl⟩
  | k + 1, i, w, t, hi, hw, ht => by
    show ∃ w', w' < 10000 ∧ (if isD (p i) = true then nx p k (i + 1) (((nI w * 10) + p i) - 48) else nI w) = nI w'
    have ht' : t + ((if isD (p i) = true then dg p k (i + 1) else i) - i) ≤ 4 := ht
    by_cases c : isD (p i) = true
    · rw [if_pos c] at ht' ⊢
      have l := dg_le p k (i + 1)
      obtain ⟨b, hb, eb⟩ := hp i (by omega)
      rw [eb] at c
      have db := digs b (by omega) c
      have p4 : 10 ^ t ≤ 1000 := by
        have : 10 ^ t ≤ 10 ^ 3 := Nat.pow_le_pow_right (by decide) (by omega)
        exact this
      have ev : ((nI w * 10) + p i) - 48 = nI (w * 10 + (b - 48)) := by
        rw [eb, show (10 : Int32) = nI 10 from rfl, show (48 : Int32) = nI 48 from rfl, nI_mul, nI_add, nI_sub (by omega)]
        congr 1
        omega
      rw [ev]
      exact nx_val hp k (i + 1) (w * 10 + (b - 48)) (t + 1) (by omega) (by rw [Nat.pow_succ]; omega) (by omega)
    · rw [if_neg c]
      have : 10 ^ t ≤ 10 ^ 4 := Nat.pow_le_pow_right (by decide) (by omega)
      exact ⟨w, Nat.lt_of_lt_of_le hw this, rfl⟩
theorem PP.num (h : PP z m p nt μX0 μM0 μX μM op d a) (hk : kT p m a = 12) : 0 ≤ vT p m a := by
  have ham : a < m := kT_end (by rw [hk]; decide)
  have hk' := hk
  have d4 : dg p (m - a) a - a ≤ 4 := by
    unfold kT at hk'
    rw [if_neg (by omega)] at hk'
    by_cases d : isL (p a) = true
    · rw [if_pos d] at hk'
      exfalso
      rcases wcode_cases (p := p) a (le p (m - a) a) with ⟨w1, -⟩ | ⟨j, hj, w1, -⟩
      · rw [w1] at hk'; exact absurd hk' (by decide)
      · rw [w1] at hk'
        have := (nI_eq (a := j) (b := 12) (by omega) (by decide)).mp hk'
        omega
    · rw [if_neg d] at hk'
      by_cases g : isD (p a) = true
      · rw [if_pos g] at hk'
        by_cases u : 4 < dg p (m - a) a - a
        · rw [if_pos u] at hk'; exact absurd hk' (by decide)
        · omega
      · rw [if_neg g] at hk'
        by_cases u : isG (p a) = true
        · rw [if_pos u] at hk'
          rw [hk'] at u; exact absurd u (by decide)
        · rw [if_neg u] at hk'; exact absurd hk' (by decide)
  obtain ⟨w, hw, e⟩ := nx_val (fun i hi => (h.1.1.2.2 i hi).2) (m - a) a 0 0 (by omega) (by decide) (by omega)
  have e2 : vT p m a = nI w := e
  rw [e2]
  exact nI_pos' (by omega)
/-! heights, from one to another -/
def hq (c : Nat → Int32) : Nat → Nat → Nat → Nat → Prop
  | 0, _, h, h' => h = h'
  | k + 1, i, h, h' => tkOk (c i) ∧ (if (-7 : Int32) < c i then h < 31 ∧ hq c k (i + 1) (h + 1) h' else if c i = -13 ∨ c i = -19 then 1 ≤ h ∧ hq c k (i + 1) h h' else 2 ≤ h ∧ hq c k (i + 1) (h - 1) h')
theorem hq_app {c : Nat → Int32} : ∀ k l i h h' h'', hq c k i h h' → hq c l (i + k) h' h'' → hq c (k + l) i h h''
  | 0, l, i, h, h', h'', a, b => by
    have e : h = h' := a
    subst e
    rw [Nat.zero_add]
    exact b
  | k + 1, l, i, h, h', h'', a, b => by
    rw [show k + 1 + l = (k + l) + 1 by omega]
    rw [show i + (k + 1) = (i + 1) + k by omega] at b
    obtain ⟨a1, a2⟩ := a
    refine ⟨a1, ?_⟩
    by_cases c1 : (-7 : Int32) < c i
    · rw [if_pos c1] at a2 ⊢
      exact ⟨a2.1, hq_app k l _ _ _ _ a2.2 b⟩
    · rw [if_neg c1] at a2 ⊢
      by_cases c2 : c i = -13 ∨ c i = -19
      · rw [if_pos c2] at a2 ⊢
        exact ⟨a2.1, hq_app k l _ _ _ _ a2.2 b⟩
      · rw [if_neg c2] at a2 ⊢
        exact ⟨a2.1, hq_app k l _ _ _ _ a2.2 b⟩
theorem hq_ext {c c' : Nat → Int32} : ∀ k i h h', (∀ j, i ≤ j → j < i + k → c' j = c j) → hq c k i h h' → hq c' k i h h'
  | 0, _, _, _, _, a => a
  | k + 1, i, h, h', e, a => by
    obtain ⟨a1, a2⟩ := a
    have ei := e i (Nat.le_refl _) (by omega)
    have ih : ∀ h h', hq c k (i + 1) h h' → hq c' k (i + 1) h h' := fun h h' => hq_ext k (i + 1) h h' (fun j h1 h2 => e j (by omega) (by omega))
    refine ⟨by rw [ei]; exact a1, ?_⟩
    rw [ei]
    by_cases c1 : (-7 : Int32) < c i
    · rw [if_pos c1] at a2 ⊢
      exact ⟨a2.1, ih _ _ a2.2⟩
    · rw [if_neg c1] at a2 ⊢
      by_cases c2 : c i = -13 ∨ c i = -19
      · rw [if_pos c2] at a2 ⊢
        exact ⟨a2.1, ih _ _ a2.2⟩
      · rw [if_neg c2] at a2 ⊢
        exact ⟨a2.1, ih _ _ a2.2⟩
theorem hq_hg {c : Nat → Int32} : ∀ k i h, hq c k i h 1 → hg c k i h
  | 0, _, _, a => a
  | k + 1, i, h, a => by
    obtain ⟨a1, a2⟩ := a
    refine ⟨a1, ?_⟩
    by_cases c1 : (-7 : Int32) < c i
    · rw [if_pos c1] at a2 ⊢
      exact ⟨a2.1, hq_hg k _ _ a2.2⟩
    · rw [if_neg c1] at a2 ⊢
      by_cases c2 : c i = -13 ∨ c i = -19
      · rw [if_pos c2] at a2 ⊢
        exact ⟨a2.1, hq_hg k _ _ a2.2⟩
      · rw [if_neg c2] at a2 ⊢
        exact ⟨a2.1, hq_hg k _ _ a2.2⟩
theorem hq_push {c : Nat → Int32} {i h : Nat} (h1 : tkOk (c i)) (h2 : (-7 : Int32) < c i) (h3 : h < 31) : hq c 1 i h (h + 1) := ⟨h1, by rw [if_pos h2]; exact ⟨h3, rfl⟩⟩
theorem hq_un {c : Nat → Int32} {i h : Nat} (h2 : c i = -13 ∨ c i = -19) (h3 : 1 ≤ h) : hq c 1 i h h := by
  have n7 : ¬ (-7 : Int32) < c i := by rcases h2 with q | q <;> rw [q] <;> decide
  refine ⟨Or.inr (Or.inr (by rcases h2 with q | q <;> rw [q] <;> decide)), ?_⟩
  rw [if_neg n7, if_pos h2]
  exact ⟨h3, rfl⟩
def bin (v : Int32) : Prop := v = -11 ∨ v = -12 ∨ v = -14 ∨ v = -15 ∨ v = -16 ∨ v = -17 ∨ v = -18
theorem hq_bin {c : Nat → Int32} {i h : Nat} (h2 : bin (c i)) : hq c 1 i (h + 2) (h + 1) := by
  have n7 : ¬ (-7 : Int32) < c i := by rcases h2 with q | q | q | q | q | q | q <;> rw [q] <;> decide
  have n2 : ¬ (c i = -13 ∨ c i = -19) := by rcases h2 with q | q | q | q | q | q | q <;> rw [q] <;> decide
  refine ⟨Or.inr (Or.inr (by rcases h2 with q | q | q | q | q | q | q <;> rw [q] <;> decide)), ?_⟩
  rw [if_neg n7, if_neg n2]
  exact ⟨by omega, rfl⟩
end PQ
