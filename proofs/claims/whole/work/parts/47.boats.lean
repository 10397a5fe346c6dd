section BS
variable {z : Nat} {σ σ' σM : th_S} {Z Y : th_M} {B U ω : Nat → Nat} {n nt b t : Nat} {μ μ' μX μM A A' A2 : th_M} {K : Nat → Int32} {x3 : Int32} {i a l : Nat}
theorem boat_both (h : JX z σ Z B U ω n nt μ A) (x1 x2 x3 : Int32) : ∃ v σ' μ' B' ω' n' A', f_X10_boat σ μ z x1 x2 x3 = some (v, σ', μ') ∧ JX z σ' Z B' U ω' n' nt μ' A' ∧ (∀ p, 8 ≤ p → A' p = A p) ∧ ∀ σM Y μM, SX σM z → JM z Y μM A → ∃ w, f_X11_boat σM μM (z + 27) x1 x2 x3 = some (v, w) ∧ JM z Y w A' := by
  have n7 := h.sh.n7
  obtain ⟨v, A', n', T, σ', μ', B', ω', e, h'⟩ := boat_x h x1 x2 x3
  refine ⟨v, σ', μ', B', ω', n', A', e, h', fun p hp => ?_, fun σM Y μM hU m => ?_⟩
  · rcases T with ⟨-, -, q, -⟩ | ⟨-, -, -, q, -⟩ | ⟨-, -, -, q, -⟩
    · rw [q]
    · rw [q]
    · rw [q]
      funext b
      show (if p = 0 then _ else if b = n then (if p = 1 then _ else if p = 2 then _ else if p = 3 then _ else if p = 4 then _ else if p = 5 then _ else if p = 6 then _ else if p = 7 then _ else A p b) else A p b) = A p b
      rw [if_neg (by omega), if_neg (show ¬ p = 1 by omega), if_neg (show ¬ p = 2 by omega), if_neg (show ¬ p = 3 by omega), if_neg (show ¬ p = 4 by omega), if_neg (show ¬ p = 5 by omega), if_neg (show ¬ p = 6 by omega), if_neg (show ¬ p = 7 by omega)]
      by_cases e : b = n
      · rw [if_pos e]
      · rw [if_neg e]
  · obtain ⟨w, w1, w2, -⟩ := boat_m hU m h.nn n7 T
    exact ⟨w, w1, w2⟩
theorem a64 (hi : i ≤ 7) : (x3.toInt64 + 3 * (nI i).toInt64).toInt = x3.toInt + 3 * (i : Int) := by
  have b1 := x3.le_toInt
  have b2 := x3.toInt_lt
  have e3 : (3 : Int64).toInt = 3 := by decide
  rw [Int64.toInt_add, Int64.toInt_mul, e3, Int32.toInt_toInt64, Int32.toInt_toInt64, nI_toInt (by omega)]
  rw [Int.bmod_eq_of_le (n := 3 * (i : Int)) (by omega) (by omega), Int.bmod_eq_of_le (by omega) (by omega)]
theorem in_x3 (hi : i ≤ 7) (hl : l ≤ 40) : (0 ≤ (x3.toInt64 + 3 * (nI i).toInt64) ∧ (0 : Int32) ≤ 3 ∧ (x3.toInt64 + 3 * (nI i).toInt64) + (3 : Int32).toInt64 ≤ (nI l).toInt64) ↔ ∃ a : Nat, a + 3 ≤ l ∧ x3.toInt + 3 * (i : Int) = (a : Int) := by
  have a1 : ((3 : Int32).toInt64).toInt = 3 := by decide
  have a2 : ((nI l).toInt64).toInt = l := by rw [Int32.toInt_toInt64, nI_toInt (by omega)]
  have b1 := x3.le_toInt
  have b2 := x3.toInt_lt
  rw [Int64.le_iff_toInt_le, Int64.le_iff_toInt_le, Int64.toInt_add (x3.toInt64 + 3 * (nI i).toInt64) (Int32.toInt64 3), a1, a2, a64 hi, Int64.toInt_zero, Int.bmod_eq_of_le (by omega) (by omega)]
  constructor
  · rintro ⟨h1, -, h3⟩
    exact ⟨(x3.toInt + 3 * (i : Int)).toNat, by omega, by omega⟩
  · rintro ⟨a, ha, e⟩
    exact ⟨by omega, by decide, by omega⟩
theorem in_m3 (hi : i ≤ 7) (hl : l ≤ 40) : (¬ (x3.toInt64 + 3 * (nI i).toInt64) < 0 ∧ (x3.toInt64 + 3 * (nI i).toInt64) + 2 < (nI l).toInt64) ↔ ∃ a : Nat, a + 3 ≤ l ∧ x3.toInt + 3 * (i : Int) = (a : Int) := by
  have a1 : (2 : Int64).toInt = 2 := by decide
  have a2 : ((nI l).toInt64).toInt = l := by rw [Int32.toInt_toInt64, nI_toInt (by omega)]
  have b1 := x3.le_toInt
  have b2 := x3.toInt_lt
  rw [Int64.lt_iff_toInt_lt, Int64.lt_iff_toInt_lt, Int64.toInt_add (x3.toInt64 + 3 * (nI i).toInt64) 2, a1, a2, a64 hi, Int64.toInt_zero, Int.bmod_eq_of_le (by omega) (by omega)]
  constructor
  · rintro ⟨h1, h3⟩
    exact ⟨(x3.toInt + 3 * (i : Int)).toNat, by omega, by omega⟩
  · rintro ⟨a, ha, e⟩
    exact ⟨by omega, by omega⟩
theorem a32 (hi : i ≤ 7) (ha : a ≤ 40) (e : x3.toInt + 3 * (i : Int) = (a : Int)) : x3 + 3 * nI i = nI a ∧ (x3.toInt64 + 3 * (nI i).toInt64).toInt32 = nI a := by
  have b1 := x3.le_toInt
  have b2 := x3.toInt_lt
  have e3 : (3 : Int32).toInt = 3 := by decide
  constructor
  · apply Int32.toInt_inj.mp
    rw [Int32.toInt_add, Int32.toInt_mul, e3, nI_toInt (by omega), nI_toInt (by omega), Int.bmod_eq_of_le (n := 3 * (i : Int)) (by omega) (by omega), e, Int.bmod_eq_of_le (by omega) (by omega)]
  · apply Int32.toInt_inj.mp
    rw [Int64.toInt_toInt32, a64 hi, e, nI_toInt (by omega), Int.bmod_eq_of_le (by omega) (by omega)]
theorem boats_loop {i0 : Nat} (hi0 : i0 < 4) (hl : l ≤ 40) (x3 : Int32) : ∀ k i cm f σ μ B ω n A, i + k ≤ 7 → k < f → JX z σ Z B U ω n nt μ A → ¬ A 17 i0 = -1 → A 18 i0 = nI l →
    ∃ v σ' μ' B' ω' n' A', f_X10_boats_b76 f σ μ z x3 (nI (i + k)) (z + (15 + 2 * i0)) cm (nI i) = some (v, σ', μ') ∧ JX z σ' Z B' U ω' n' nt μ' A' ∧ ∀ σM Y μM g, SX σM z → k < g → JM z Y μM A → ∃ w, f_X11_boats_b64 g σM μM (z + 27) (nI i0) x3 (nI (i + k)) cm (nI i) = some (v, w) ∧ JM z Y w A' := by
  intro k
  induction k with
  | zero =>
    intro i cm f σ μ B ω n A hi hf h h17 h18
    obtain ⟨f, rfl⟩ : ∃ f', f = f' + 1 := ⟨f - 1, by omega⟩
    refine ⟨cm, σ, μ, B, ω, n, A, ?_, h, fun σM Y μM g hU hg m => ⟨μM, ?_, m⟩⟩
    · show (if nI i ≤ nI i then _ else _) = _
      rw [if_pos (Int32.le_refl _)]
    · obtain ⟨g, rfl⟩ : ∃ g', g = g' + 1 := ⟨g - 1, by omega⟩
      show (if nI i ≤ nI i then _ else _) = _
      rw [if_pos (Int32.le_refl _)]
  | succ k ih =>
    intro i cm f σ μ B ω n A hi hf h h17 h18
    obtain ⟨f, rfl⟩ : ∃ f', f = f' + 1 := ⟨f - 1, by omega⟩
    have hU := h.sh.sx
    have i7 : i ≤ 7 := by omega
    have nl : ¬ nI (i + (k + 1)) ≤ nI i := nI_ge (by omega) (by omega)
    obtain ⟨s1, s2⟩ := h.st i0 hi0
    obtain ⟨g1, l', hl', g2, g3, g4⟩ := s2.resolve_left h17
    have el : l' = l := by
      rw [h18] at g2
      exact ((nI_eq (by omega) (by omega)).mp g2).symm
    subst el
    have hX : ∀ r, ((if (nI (i + (k + 1))) ≤ nI i then some (cm, σ, μ) else oC σ 6 (z + (15 + 2 * i0)) r) = oC σ 6 (z + (15 + 2 * i0)) r) := fun r => if_neg nl
    by_cases c : ∃ a : Nat, a + 3 ≤ l' ∧ x3.toInt + 3 * (i : Int) = (a : Int)
    · obtain ⟨a, ha, ea⟩ := id c
      obtain ⟨e32, e64⟩ := a32 i7 (by omega) ea
      have p0 : A 19 (40 * i0 + a) = μ (z + (16 + 2 * i0)) a := (g4 a (by omega)).symm
      have p1 : A 19 (40 * i0 + (a + 1)) = μ (z + (16 + 2 * i0)) (a + 1) := (g4 (a + 1) (by omega)).symm
      have p2 : A 19 (40 * i0 + (a + 2)) = μ (z + (16 + 2 * i0)) (a + 2) := (g4 (a + 2) (by omega)).symm
      obtain ⟨v1, σ1, μ1, B1, ω1, n1, A1, b1, b2, b3, b4⟩ := boat_both h (μ (z + (16 + 2 * i0)) a) (μ (z + (16 + 2 * i0)) (a + 1)) (μ (z + (16 + 2 * i0)) (a + 2))
      obtain ⟨v, σ', μ', B', ω', n', A', c1, c2, c3⟩ := ih (i + 1) (if v1 < 0 then cm else cm + 1) f σ1 μ1 B1 ω1 n1 A1 (by omega) (by omega) b2 (by rw [b3 17 (by decide)]; exact h17) (by rw [b3 18 (by decide)]; exact h18)
      rw [show i + 1 + k = i + (k + 1) by omega] at c1 c3
      refine ⟨v, σ', μ', B', ω', n', A', ?_, c2, fun σM Y μM g hM hg m => ?_⟩
      · show (if nI (i + (k + 1)) ≤ nI i then _ else _) = _
        rw [if_neg nl, sh_c hU hi0, x_has hU hi0, Option.bind_some, g3, if_pos ((in_x3 i7 hl').mpr c), if_neg n10, e32, x_at h hi0 hl' g3 (by omega), Option.bind_some, nI_1, x_at h hi0 hl' g3 (by omega), Option.bind_some, show nI a + 2 = nI (a + 2) from nI_add a 2, x_at h hi0 hl' g3 (by omega), Option.bind_some, c_0 hU, b1, b3s, nI_1]
        by_cases d : v1 < 0
        · rw [if_pos d]; rw [if_pos d] at c1; exact c1
        · rw [if_neg d]; rw [if_neg d] at c1; exact c1
      · obtain ⟨g, rfl⟩ : ∃ g', g = g' + 1 := ⟨g - 1, by omega⟩
        obtain ⟨w1, d1, d2⟩ := b4 σM Y μM hM m
        obtain ⟨w, e1, e2⟩ := c3 σM Y w1 g hM (by omega) d2
        obtain ⟨m1, m2⟩ := (in_m3 i7 hl').mpr c
        have ix : ∀ j, (40 : Int32) * nI i0 + nI j = nI (40 * i0 + j) := fun j => by rw [show (40 : Int32) = nI 40 from rfl, nI_mul, nI_add]
        refine ⟨w, ?_, e2⟩
        show (if nI (i + (k + 1)) ≤ nI i then _ else _) = _
        rw [if_neg nl, if_neg (fun q => m1 ((lg_lt _ _).1.mp q)), r_27_37 hM, Option.bind_some, a_45 hM (by omega), Option.bind_some, jm_18 m, g2, if_pos ((lg_lt _ _).1.mpr m2), e64, ix, nI_1, show nI (40 * i0 + a) + 2 = nI (40 * i0 + a + 2) from nI_add _ 2]
        simp only [r_27_38 hM, Option.bind_some, a_46 hM (show 40 * i0 + a < 160 by omega), a_46 hM (show 40 * i0 + a + 1 < 160 by omega), a_46 hM (show 40 * i0 + a + 2 < 160 by omega), jm_19 m, c_27 hM]
        rw [p0, show A 19 (40 * i0 + a + 1) = _ from p1, show A 19 (40 * i0 + a + 2) = _ from p2, d1, b2s, nI_1]
        by_cases d : v1 < 0
        · rw [if_pos d]; rw [if_pos d] at e1; exact e1
        · rw [if_neg d]; rw [if_neg d] at e1; exact e1
    · refine ⟨-12, σ, μ, B, ω, n, A, ?_, h, fun σM Y μM g hM hg m => ⟨μM, ?_, m⟩⟩
      · show (if nI (i + (k + 1)) ≤ nI i then _ else _) = _
        rw [if_neg nl, sh_c hU hi0, x_has hU hi0, Option.bind_some, g3, if_neg (fun q => c ((in_x3 i7 hl').mp q)), if_pos rfl]
      · obtain ⟨g, rfl⟩ : ∃ g', g = g' + 1 := ⟨g - 1, by omega⟩
        show (if nI (i + (k + 1)) ≤ nI i then _ else _) = _
        rw [if_neg nl]
        by_cases d : lg_cmp (x3.toInt64 + 3 * (nI i).toInt64) 0 < 0
        · rw [if_pos d]
        · rw [if_neg d, r_27_37 hM, Option.bind_some, a_45 hM (by omega), Option.bind_some, jm_18 m, g2, if_neg (fun q => c ((in_m3 i7 hl').mp ⟨fun q2 => d ((lg_lt _ _).1.mpr q2), (lg_lt _ _).1.mp q⟩))]
theorem boats_both (h : JX z σ Z B U ω n nt μ A) (x1 x2 x3 x4 : Int32) : ∃ v σ' μ' B' ω' n' A', f_X10_boats σ μ z x1 x2 x3 x4 = some (v, σ', μ') ∧ JX z σ' Z B' U ω' n' nt μ' A' ∧ ∀ σM Y μM, SX σM z → JM z Y μM A → ∃ w, f_X11_boats σM μM (z + 27) x1 x2 x3 x4 = some (v, w) ∧ JM z Y w A' := by
  have hU := h.sh.sx
  unfold f_X10_boats f_X11_boats
  have bad : ∀ v : Int32, ∃ v' σ' μ' B' ω' n' A', (some (v, σ, μ) : Option (Int32 × th_S × th_M)) = some (v', σ', μ') ∧ JX z σ' Z B' U ω' n' nt μ' A' ∧ ∀ σM Y μM, SX σM z → JM z Y μM A → ∃ w, (some (v, μM) : Option (Int32 × th_M)) = some (v', w) ∧ JM z Y w A' := fun v => ⟨v, σ, μ, B, ω, n, A, rfl, h, fun σM Y μM _ m => ⟨μM, rfl, m⟩⟩
  rcases s_cases x1 with ⟨i, hi, rfl, e1, e2⟩ | ⟨e1, e2⟩
  · obtain ⟨s1, s2⟩ := h.st i hi
    simp only [e1, e2, Option.bind_some, if_neg n10, m_within]
    by_cases c : 0 ≤ x2 ∧ x2 ≤ 2
    · rw [if_neg (Int32.not_lt.mpr c.1), if_neg (Int32.not_lt.mpr c.2)]
      simp only [if_pos c, if_neg n10]
      by_cases d : 0 ≤ x4 ∧ x4 ≤ 7
      · rw [if_neg (Int32.not_lt.mpr d.1), if_pos d.2]
        simp only [if_pos d, if_neg n10]
        rw [r_0_11 hU, Option.bind_some, sh_q hU hi, Option.bind_some, sh_c hU hi, x_miss h hi, Option.bind_some]
        obtain ⟨k, hk, rfl⟩ : rg x4 7 := rg_in d (by decide) (by decide)
        by_cases e : A 17 i = -1
        · rw [if_pos e, if_neg n10]
          unfold f_X10_boats_b59
          rw [sh_c hU hi, x_miss h hi, Option.bind_some, if_pos e, if_neg n10]
          refine ⟨-11, σ, μ, B, ω, n, A, rfl, h, fun σM Y μM hM m => ⟨μM, ?_, m⟩⟩
          rw [r_27_36 hM, Option.bind_some, a_44 hM hi, Option.bind_some, jm_17 m, if_pos e]
        · rw [if_neg e, if_pos rfl, sh_i hU hi, Option.bind_some, s1]
          by_cases g : A 17 i = x2
          · obtain ⟨g1, l, hl, g2, g3, g4⟩ := s2.resolve_left e
            obtain ⟨v, σ', μ', B', ω', n', A', a1, a2, a3⟩ := boats_loop hi hl x3 k 0 0 8 σ μ B ω n A (by omega) (by omega) h e g2
            rw [Nat.zero_add] at a1 a3
            rw [if_pos g]
            unfold f_X10_boats_b59
            rw [sh_c hU hi, x_miss h hi, Option.bind_some, if_neg e, if_pos rfl]
            refine ⟨v, σ', μ', B', ω', n', A', a1, a2, fun σM Y μM hM m => ?_⟩
            obtain ⟨w, w1, w2⟩ := a3 σM Y μM fu hM (by unfold fu; omega) m
            refine ⟨w, ?_, w2⟩
            rw [r_27_36 hM, Option.bind_some, a_44 hM hi, Option.bind_some, jm_17 m, if_neg e, Option.bind_some, a_44 hM hi, Option.bind_some, jm_17 m, if_pos g]
            exact w1
          · rw [if_neg g]
            refine ⟨-13, σ, μ, B, ω, n, A, rfl, h, fun σM Y μM hM m => ⟨μM, ?_, m⟩⟩
            rw [r_27_36 hM, Option.bind_some, a_44 hM hi, Option.bind_some, jm_17 m, if_neg e, Option.bind_some, a_44 hM hi, Option.bind_some, jm_17 m, if_neg g]
      · simp only [if_neg d, if_pos (show (0 : Int32) = 0 from rfl)]
        by_cases e : x4 < 0
        · rw [if_pos e]; exact bad _
        · rw [if_neg e, if_neg (fun q => d ⟨Int32.not_lt.mp e, q⟩)]; exact bad _
    · simp only [if_neg c, if_pos (show (0 : Int32) = 0 from rfl)]
      by_cases e : x2 < 0
      · rw [if_pos e]; exact bad _
      · rw [if_neg e, if_pos (Int32.not_le.mp (fun q => c ⟨Int32.not_lt.mp e, q⟩))]; exact bad _
  · simp only [e1, e2, Option.bind_some, if_pos (show (0 : Int32) = 0 from rfl)]
    exact bad _
end BS
