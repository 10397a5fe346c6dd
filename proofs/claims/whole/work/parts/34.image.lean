section IM
variable {z : Nat} {σ : th_S} {Z Y : th_M} {B U ω : Nat → Nat} {n nt b t : Nat} {μ μ' μX μM A A' A2 : th_M} {K : Nat → Int32}
def cp6 (μ : th_M) (a c : Nat) : th_M := va_up μ c (fun k => if k < 6 then μ a k else μ c k)
theorem SH.keep (S : SH z σ B U ω n nt K) (hb : b < n) : fD_keep σ μ (B b) = some (cp6 μ (B b + 1) (B b + 2)) := by
  obtain ⟨k, hk, e⟩ := S.kd b hb
  have hc := S.bc b hb
  rw [e] at hc
  have d : f_X0_keep σ μ (B b) = some (cp6 μ (B b + 1) (B b + 2)) := by
    unfold f_X0_keep
    rw [S.b0 hb, Option.bind_some, S.bk hb, Option.bind_some]
    unfold oXn
    rw [if_pos ⟨(S.b1 b hb).1, (S.b2 b hb).1, by rw [(S.b1 b hb).2]; decide, by rw [(S.b2 b hb).2]; decide⟩, Option.bind_some]
    rfl
  unfold fD_keep
  rw [d]
  rcases k_cases hk with q | q | q | q | q | q <;> subst q <;> rw [hc] <;> rfl
theorem SH.lay (S : SH z σ B U ω n nt K) (hb : b < n) : fD_layBack σ μ (B b) = some (cp6 μ (B b + 2) (B b + 1)) := by
  obtain ⟨k, hk, e⟩ := S.kd b hb
  have hc := S.bc b hb
  rw [e] at hc
  have d : f_X0_layBack σ μ (B b) = some (cp6 μ (B b + 2) (B b + 1)) := by
    unfold f_X0_layBack
    rw [S.bk hb, Option.bind_some, S.b0 hb, Option.bind_some]
    unfold oXn
    rw [if_pos ⟨(S.b2 b hb).1, (S.b1 b hb).1, by rw [(S.b2 b hb).2]; decide, by rw [(S.b1 b hb).2]; decide⟩, Option.bind_some]
    rfl
  unfold fD_layBack
  rw [d]
  rcases k_cases hk with q | q | q | q | q | q <;> subst q <;> rw [hc] <;> rfl
theorem SH.ij (S : SH z σ B U ω n nt K) {b' j j' : Nat} (hb : b < n) (hb' : b' < n) (hj : j < 3) (hj' : j' < 3) (h : B b + j = B b' + j') : b = b' ∧ j = j' := by
  have h1 := S.wb b hb j hj
  rw [h, S.wb b' hb' j' hj'] at h1
  omega
theorem SH.iz (S : SH z σ B U ω n nt K) {j k : Nat} (hb : b < n) (hj : j < 3) (hk : k < 48) (hk2 : k < 23 ∨ 27 ≤ k) : B b + j ≠ z + k := by
  intro q
  have h1 := S.wb b hb j hj
  rw [q, S.wz k hk hk2] at h1
  omega
theorem x_img (S : SH z σ B U ω n nt K) : ∀ k i f μ, i + k = n → k < f → μ z 1 = nI n → ∃ u, f_X10_image_b17 f σ μ z (nI i) = some (nI n, u) ∧ u z 4 = nI n ∧ (∀ j, j ≠ 4 → u z j = μ z j) ∧ (∀ q, q ≠ z → (∀ b, i ≤ b → b < n → q ≠ B b + 2) → u q = μ q) ∧ ∀ b, i ≤ b → b < n → ∀ j, j < 6 → u (B b + 2) j = μ (B b + 1) j := by
  have hU := S.sx
  have n7 := S.n7
  intro k
  induction k with
  | zero =>
    intro i f μ hi hf h1
    obtain ⟨f, rfl⟩ : ∃ f', f = f' + 1 := ⟨f - 1, by omega⟩
    have e : i = n := by omega
    subst e
    refine ⟨th_w μ z 4 (nI i), ?_, th_w_self _ _ _ _, fun j hj => by rw [th_w_hit, if_neg hj], fun q hq _ => th_w_ne _ _ hq, fun b h2 h3 => by omega⟩
    show (oI σ μ 10 z 1).bind _ = _
    rw [i_0 hU, Option.bind_some, h1, if_pos (Int32.le_refl _), Option.bind_some, p_0 hU, Option.bind_some, i_0 hU, Option.bind_some, th_w_hit, if_neg (by decide), h1]
  | succ k ih =>
    intro i f μ hi hf h1
    obtain ⟨f, rfl⟩ : ∃ f', f = f' + 1 := ⟨f - 1, by omega⟩
    have hin : i < n := by omega
    have nz : ∀ b, b < n → z ≠ B b + 2 := fun b hb q => S.iz hb (j := 2) (k := 0) (by decide) (by decide) (by decide) q.symm
    obtain ⟨u, p1, p2, p3, p4, p5⟩ := ih (i + 1) f (cp6 μ (B i + 1) (B i + 2)) (by omega) (by omega) (by unfold cp6; rw [up_ne _ _ (nz i hin)]; exact h1)
    refine ⟨u, ?_, p2, fun j hj => by rw [p3 j hj]; unfold cp6; rw [up_ne _ _ (nz i hin)], fun q q1 q2 => by rw [p4 q q1 (fun b h4 h5 => q2 b (by omega) h5)]; unfold cp6; rw [up_ne _ _ (q2 i (Nat.le_refl _) hin)], fun b h2 h3 j hj => ?_⟩
    · show (oI σ μ 10 z 1).bind _ = _
      rw [i_0 hU, Option.bind_some, h1, if_neg (nI_ge hin (by omega)), r_0_0 hU, Option.bind_some, S.oq hin, Option.bind_some, S.keep hin, Option.bind_some, nI_1]
      exact p1
    · have c1 : (cp6 μ (B i + 1) (B i + 2)) (B b + 1) = μ (B b + 1) := by
        unfold cp6
        rw [up_ne _ _ (fun q => by have := (S.ij h3 hin (j := 1) (j' := 2) (by decide) (by decide) q).2; omega)]
      by_cases e : b = i
      · subst e
        rw [p4 (B b + 2) (fun q => nz b h3 q.symm) (fun b' h4 h5 q => by have := (S.ij h3 h5 (j := 2) (j' := 2) (by decide) (by decide) q).1; omega)]
        unfold cp6
        rw [up_at, if_pos hj]
      · rw [p5 b (by omega) h3 j hj, c1]
theorem m_img (hU : SX σ z) (n7 : n ≤ 7) : ∀ k i f μ, i + k = n → k < f → μ (z + 27) 0 = nI n → ∃ w, f_X11_image_b15 f σ μ (z + 27) (nI i) = some (nI n, w) ∧ (∀ q, q ≠ z + 43 → w q = μ q) ∧
    (∀ b, i ≤ b → b < n → w (z + 43) (6 * b) = μ (z + 30) b ∧ w (z + 43) (6 * b + 1) = μ (z + 31) b ∧ w (z + 43) (6 * b + 2) = μ (z + 32) b ∧ w (z + 43) (6 * b + 3) = μ (z + 29) b ∧ w (z + 43) (6 * b + 4) = μ (z + 33) b ∧ w (z + 43) (6 * b + 5) = μ (z + 34) b) ∧
    (∀ l, l < 6 * i → w (z + 43) l = μ (z + 43) l) ∧
    (w (z + 43) 42 = μ (z + 27) 8 ∧ w (z + 43) 43 = μ (z + 27) 9 ∧ w (z + 43) 44 = μ (z + 27) 10 ∧ w (z + 43) 45 = μ (z + 27) 11 ∧ w (z + 43) 46 = μ (z + 27) 12 ∧ w (z + 43) 47 = μ (z + 27) 13 ∧ w (z + 43) 48 = μ (z + 27) 14 ∧ w (z + 43) 49 = μ (z + 27) 18) := by
  intro k
  induction k with
  | zero =>
    intro i f μ hi hf h1
    obtain ⟨f, rfl⟩ : ∃ f', f = f' + 1 := ⟨f - 1, by omega⟩
    have e : i = n := by omega
    subst e
    have ne : ∀ (μ : th_M) (k : Nat) (v : Int32), th_w μ (z + 43) k v (z + 27) = μ (z + 27) := fun μ k v => th_w_ne _ _ (by omega)
    refine ⟨th_w (th_w (th_w (th_w (th_w (th_w (th_w (th_w μ (z + 43) 42 (μ (z + 27) 8)) (z + 43) 43 (μ (z + 27) 9)) (z + 43) 44 (μ (z + 27) 10)) (z + 43) 45 (μ (z + 27) 11)) (z + 43) 46 (μ (z + 27) 12)) (z + 43) 47 (μ (z + 27) 13)) (z + 43) 48 (μ (z + 27) 14)) (z + 43) 49 (μ (z + 27) 18), ?_, fun q hq => by simp only [th_w_ne _ _ hq], fun b h2 h3 => by omega, fun l hl => ?_, ?_⟩
    · show (oI σ μ 11 (z + 27) 0).bind _ = _
      simp only [i_27 hU, Option.bind_some, h1, if_pos (Int32.le_refl _), r_27_35 hU, sn_43 hU (show 42 < 50 by decide), sn_43 hU (show 43 < 50 by decide), sn_43 hU (show 44 < 50 by decide), sn_43 hU (show 45 < 50 by decide), sn_43 hU (show 46 < 50 by decide), sn_43 hU (show 47 < 50 by decide), sn_43 hU (show 48 < 50 by decide), sn_43 hU (show 49 < 50 by decide), ne]
    · simp only [th_w_hit]
      rw [if_neg (by omega), if_neg (by omega), if_neg (by omega), if_neg (by omega), if_neg (by omega), if_neg (by omega), if_neg (by omega), if_neg (by omega)]
    · simp [th_w_hit]
  | succ k ih =>
    intro i f μ hi hf h1
    obtain ⟨f, rfl⟩ : ∃ f', f = f' + 1 := ⟨f - 1, by omega⟩
    have hin : i < n := by omega
    have i7 : i < 7 := by omega
    have ne : ∀ (μ : th_M) (k : Nat) (v : Int32) (p : Nat), p ≠ 43 → th_w μ (z + 43) k v (z + p) = μ (z + p) := fun μ k v p hp => th_w_ne _ _ (by omega)
    let μ6 : th_M := th_w (th_w (th_w (th_w (th_w (th_w μ (z + 43) (6 * i) (μ (z + 30) i)) (z + 43) (6 * i + 1) (μ (z + 31) i)) (z + 43) (6 * i + 2) (μ (z + 32) i)) (z + 43) (6 * i + 3) (μ (z + 29) i)) (z + 43) (6 * i + 4) (μ (z + 33) i)) (z + 43) (6 * i + 5) (μ (z + 34) i)
    have g6 : ∀ p, p ≠ 43 → μ6 (z + p) = μ (z + p) := fun p hp => by simp only [μ6, ne _ _ _ _ hp]
    have step : f_X11_image_b15 (f + 1) σ μ (z + 27) (nI i) = f_X11_image_b15 f σ μ6 (z + 27) (nI (i + 1)) := by
      show (oI σ μ 11 (z + 27) 0).bind _ = _
      have e6 : (6 : Int32) * nI i = nI (6 * i) := nI_mul 6 i
      have x1 : nI (6 * i) + 2 = nI (6 * i + 2) := nI_add _ 2
      have x2 : nI (6 * i) + 3 = nI (6 * i + 3) := nI_add _ 3
      have x3 : nI (6 * i) + 4 = nI (6 * i + 4) := nI_add _ 4
      have x4 : nI (6 * i) + 5 = nI (6 * i + 5) := nI_add _ 5
      simp only [i_27 hU, Option.bind_some, h1, if_neg (nI_ge hin (by omega)), r_27_35 hU, r_27_3 hU, r_27_4 hU, r_27_5 hU, r_27_2 hU, r_27_6 hU, r_27_7 hU, a_30 hU i7, a_31 hU i7, a_32 hU i7, a_29 hU i7, a_33 hU i7, a_34 hU i7, e6, nI_1, x1, x2, x3, x4, s_43 hU (show 6 * i < 50 by omega), s_43 hU (show 6 * i + 1 < 50 by omega), s_43 hU (show 6 * i + 2 < 50 by omega), s_43 hU (show 6 * i + 3 < 50 by omega), s_43 hU (show 6 * i + 4 < 50 by omega), s_43 hU (show 6 * i + 5 < 50 by omega), ne _ _ _ 30 (by decide), ne _ _ _ 31 (by decide), ne _ _ _ 32 (by decide), ne _ _ _ 29 (by decide), ne _ _ _ 33 (by decide), ne _ _ _ 34 (by decide)]
      rfl
    obtain ⟨w, p1, p2, p3, p4, p5⟩ := ih (i + 1) f μ6 (by omega) (by omega) (by rw [g6 27 (by decide)]; exact h1)
    refine ⟨w, by rw [step]; exact p1, fun q hq => by rw [p2 q hq]; simp only [μ6, th_w_ne _ _ hq], fun b h2 h3 => ?_, fun l hl => ?_, ?_⟩
    · by_cases e : b = i
      · subst e
        rw [p4 _ (by omega), p4 _ (by omega), p4 _ (by omega), p4 _ (by omega), p4 _ (by omega), p4 _ (by omega)]
        simp [μ6, th_w_hit]
      · have := p3 b (by omega) h3
        rw [g6 30 (by decide), g6 31 (by decide), g6 32 (by decide), g6 29 (by decide), g6 33 (by decide), g6 34 (by decide)] at this
        exact this
    · rw [p4 l (by omega)]
      simp only [μ6, th_w_hit]
      rw [if_neg (by omega), if_neg (by omega), if_neg (by omega), if_neg (by omega), if_neg (by omega), if_neg (by omega)]
    · rw [g6 27 (by decide)] at p5
      exact p5
end IM
