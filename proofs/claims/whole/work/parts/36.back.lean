section BK
variable {z : Nat} {σ : th_S} {Z Y : th_M} {B U ω : Nat → Nat} {n nt b t : Nat} {μ μ' μX μM A A' A2 : th_M} {K : Nat → Int32}
theorem x_back (S : SH z σ B U ω n nt K) {no : Nat} (hno : no ≤ n) : ∀ k i f μ, i + k = no → k < f → μ z 1 = nI no → ∃ u, f_X10_back_b36 f σ μ z (nI i) = some (nI no, u) ∧ (∀ q, (∀ b, i ≤ b → b < no → q ≠ B b + 1) → u q = μ q) ∧ ∀ b, i ≤ b → b < no → ∀ j, j < 6 → u (B b + 1) j = μ (B b + 2) j := by
  have hU := S.sx
  have n7 := S.n7
  intro k
  induction k with
  | zero =>
    intro i f μ hi hf h1
    obtain ⟨f, rfl⟩ : ∃ f', f = f' + 1 := ⟨f - 1, by omega⟩
    have e : i = no := by omega
    subst e
    refine ⟨μ, ?_, fun q _ => rfl, fun b h2 h3 => by omega⟩
    show (oI σ μ 10 z 1).bind _ = _
    rw [i_0 hU, Option.bind_some, h1, if_pos (Int32.le_refl _), Option.bind_some]
  | succ k ih =>
    intro i f μ hi hf h1
    obtain ⟨f, rfl⟩ : ∃ f', f = f' + 1 := ⟨f - 1, by omega⟩
    have hin : i < n := by omega
    have nz : ∀ b, b < n → z ≠ B b + 1 := fun b hb q => S.iz hb (j := 1) (k := 0) (by decide) (by decide) (by decide) q.symm
    obtain ⟨u, p1, p4, p5⟩ := ih (i + 1) f (cp6 μ (B i + 2) (B i + 1)) (by omega) (by omega) (by unfold cp6; rw [up_ne _ _ (nz i hin)]; exact h1)
    refine ⟨u, ?_, fun q q2 => by rw [p4 q (fun b h4 h5 => q2 b (by omega) h5)]; unfold cp6; rw [up_ne _ _ (q2 i (Nat.le_refl _) (by omega))], fun b h2 h3 j hj => ?_⟩
    · show (oI σ μ 10 z 1).bind _ = _
      rw [i_0 hU, Option.bind_some, h1, if_neg (nI_ge (by omega) (by omega)), r_0_0 hU, Option.bind_some, S.oq hin, Option.bind_some, S.lay hin, Option.bind_some, nI_1]
      exact p1
    · have c1 : (cp6 μ (B i + 2) (B i + 1)) (B b + 2) = μ (B b + 2) := by
        unfold cp6
        rw [up_ne _ _ (fun q => by have := (S.ij (show b < n by omega) hin (j := 2) (j' := 1) (by decide) (by decide) q).2; omega)]
      by_cases e : b = i
      · subst e
        rw [p4 (B b + 1) (fun b' h4 h5 q => by have := (S.ij (show b < n by omega) (show b' < n by omega) (j := 1) (j' := 1) (by decide) (by decide) q).1; omega)]
        unfold cp6
        rw [up_at, if_pos hj]
      · rw [p5 b (by omega) h3 j hj, c1]
theorem m_back (hU : SX σ z) {no : Nat} (n7 : no ≤ 7) : ∀ k i f μ, i + k = no → k < f → μ (z + 27) 0 = nI no → ∃ w, f_X11_back_b20 f σ μ (z + 27) (nI i) = some (nI no, w) ∧
    (∀ q, q ≠ z + 27 → q ≠ z + 29 → q ≠ z + 30 → q ≠ z + 31 → q ≠ z + 32 → q ≠ z + 33 → q ≠ z + 34 → w q = μ q) ∧
    (∀ k, k ≠ 8 → k ≠ 9 → k ≠ 10 → k ≠ 11 → k ≠ 12 → k ≠ 13 → k ≠ 14 → k ≠ 18 → w (z + 27) k = μ (z + 27) k) ∧
    (∀ b, i ≤ b → b < no → w (z + 30) b = μ (z + 43) (6 * b) ∧ w (z + 31) b = μ (z + 43) (6 * b + 1) ∧ w (z + 32) b = μ (z + 43) (6 * b + 2) ∧ w (z + 29) b = μ (z + 43) (6 * b + 3) ∧ w (z + 33) b = μ (z + 43) (6 * b + 4) ∧ w (z + 34) b = μ (z + 43) (6 * b + 5)) ∧
    (∀ b, b < i → ∀ p, p ≠ 27 → w (z + p) b = μ (z + p) b) ∧
    (w (z + 27) 8 = μ (z + 43) 42 ∧ w (z + 27) 9 = μ (z + 43) 43 ∧ w (z + 27) 10 = μ (z + 43) 44 ∧ w (z + 27) 11 = μ (z + 43) 45 ∧ w (z + 27) 12 = μ (z + 43) 46 ∧ w (z + 27) 13 = μ (z + 43) 47 ∧ w (z + 27) 14 = μ (z + 43) 48 ∧ w (z + 27) 18 = μ (z + 43) 49) := by
  intro k
  induction k with
  | zero =>
    intro i f μ hi hf h1
    obtain ⟨f, rfl⟩ : ∃ f', f = f' + 1 := ⟨f - 1, by omega⟩
    have e : i = no := by omega
    subst e
    have ne : ∀ (μ : th_M) (k : Nat) (v : Int32), th_w μ (z + 27) k v (z + 43) = μ (z + 43) := fun μ k v => th_w_ne _ _ (by omega)
    refine ⟨th_w (th_w (th_w (th_w (th_w (th_w (th_w (th_w μ (z + 27) 8 (μ (z + 43) 42)) (z + 27) 9 (μ (z + 43) 43)) (z + 27) 10 (μ (z + 43) 44)) (z + 27) 11 (μ (z + 43) 45)) (z + 27) 12 (μ (z + 43) 46)) (z + 27) 13 (μ (z + 43) 47)) (z + 27) 14 (μ (z + 43) 48)) (z + 27) 18 (μ (z + 43) 49), ?_, fun q hq _ _ _ _ _ _ => by simp only [th_w_ne _ _ hq], fun k a b c d e f g h => ?_, fun b h2 h3 => by omega, fun b hb p hp => ?_, ?_⟩
    · show (oI σ μ 11 (z + 27) 0).bind _ = _
      simp only [i_27 hU, Option.bind_some, h1, if_pos (Int32.le_refl _), r_27_35 hU, p_27 hU, an_43 hU (show 42 < 50 by decide), an_43 hU (show 43 < 50 by decide), an_43 hU (show 44 < 50 by decide), an_43 hU (show 45 < 50 by decide), an_43 hU (show 46 < 50 by decide), an_43 hU (show 47 < 50 by decide), an_43 hU (show 48 < 50 by decide), an_43 hU (show 49 < 50 by decide), ne]
      simp [th_w_hit, h1]
    · simp only [th_w_hit]
      simp [a, b, c, d, e, f, g, h]
    · have hz : z + p ≠ z + 27 := by omega
      simp only [th_w_ne _ _ hz]
    · simp [th_w_hit]
  | succ k ih =>
    intro i f μ hi hf h1
    obtain ⟨f, rfl⟩ : ∃ f', f = f' + 1 := ⟨f - 1, by omega⟩
    have hin : i < no := by omega
    have i7 : i < 7 := by omega
    let μ6 : th_M := th_w (th_w (th_w (th_w (th_w (th_w μ (z + 30) i (μ (z + 43) (6 * i))) (z + 31) i (μ (z + 43) (6 * i + 1))) (z + 32) i (μ (z + 43) (6 * i + 2))) (z + 29) i (μ (z + 43) (6 * i + 3))) (z + 33) i (μ (z + 43) (6 * i + 4))) (z + 34) i (μ (z + 43) (6 * i + 5))
    have ne : ∀ (μ : th_M) (k : Nat) (v : Int32) (p : Nat), p ≠ 43 → th_w μ (z + p) k v (z + 43) = μ (z + 43) := fun μ k v p hp => th_w_ne _ _ (by omega)
    have g6 : ∀ q, q ≠ z + 29 → q ≠ z + 30 → q ≠ z + 31 → q ≠ z + 32 → q ≠ z + 33 → q ≠ z + 34 → μ6 q = μ q := fun q a b c d e f => by simp only [μ6, th_w_ne _ _ a, th_w_ne _ _ b, th_w_ne _ _ c, th_w_ne _ _ d, th_w_ne _ _ e, th_w_ne _ _ f]
    have g43 : μ6 (z + 43) = μ (z + 43) := g6 _ (by omega) (by omega) (by omega) (by omega) (by omega) (by omega)
    have g27 : μ6 (z + 27) = μ (z + 27) := g6 _ (by omega) (by omega) (by omega) (by omega) (by omega) (by omega)
    have step : f_X11_back_b20 (f + 1) σ μ (z + 27) (nI i) = f_X11_back_b20 f σ μ6 (z + 27) (nI (i + 1)) := by
      show (oI σ μ 11 (z + 27) 0).bind _ = _
      have e6 : (6 : Int32) * nI i = nI (6 * i) := nI_mul 6 i
      have x1 : nI (6 * i) + 2 = nI (6 * i + 2) := nI_add _ 2
      have x2 : nI (6 * i) + 3 = nI (6 * i + 3) := nI_add _ 3
      have x3 : nI (6 * i) + 4 = nI (6 * i + 4) := nI_add _ 4
      have x4 : nI (6 * i) + 5 = nI (6 * i + 5) := nI_add _ 5
      simp only [i_27 hU, Option.bind_some, h1, if_neg (nI_ge hin (by omega)), r_27_35 hU, r_27_3 hU, r_27_4 hU, r_27_5 hU, r_27_2 hU, r_27_6 hU, r_27_7 hU, s_30 hU i7, s_31 hU i7, s_32 hU i7, s_29 hU i7, s_33 hU i7, s_34 hU i7, e6, nI_1, x1, x2, x3, x4, a_43 hU (show 6 * i < 50 by omega), a_43 hU (show 6 * i + 1 < 50 by omega), a_43 hU (show 6 * i + 2 < 50 by omega), a_43 hU (show 6 * i + 3 < 50 by omega), a_43 hU (show 6 * i + 4 < 50 by omega), a_43 hU (show 6 * i + 5 < 50 by omega), ne _ _ _ 30 (by decide), ne _ _ _ 31 (by decide), ne _ _ _ 32 (by decide), ne _ _ _ 29 (by decide), ne _ _ _ 33 (by decide), ne _ _ _ 34 (by decide)]
      rfl
    obtain ⟨w, p1, p2, p2', p3, p4, p5⟩ := ih (i + 1) f μ6 (by omega) (by omega) (by rw [g27]; exact h1)
    refine ⟨w, by rw [step]; exact p1, fun q a b c d e f g => by rw [p2 q a b c d e f g, g6 q b c d e f g], fun k a b c d e f g h => by rw [p2' k a b c d e f g h, g27], fun b h2 h3 => ?_, fun b hb p hp => ?_, ?_⟩
    · by_cases e : b = i
      · subst e
        rw [p4 b (by omega) 30 (by decide), p4 b (by omega) 31 (by decide), p4 b (by omega) 32 (by decide), p4 b (by omega) 29 (by decide), p4 b (by omega) 33 (by decide), p4 b (by omega) 34 (by decide)]
        simp [μ6, th_w_at]
      · have := p3 b (by omega) h3
        rw [g43] at this
        exact this
    · rw [p4 b (by omega) p hp]
      have nb : ¬ b = i := by omega
      simp [μ6, th_w_at, nb]
    · rw [g43] at p5
      exact p5
end BK
