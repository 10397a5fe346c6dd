section NJ
variable {z : Nat} {σ σ' : th_S} {Z Y : th_M} {B U ω : Nat → Nat} {n nt b t : Nat} {μ μ' μX μM A A' A2 : th_M} {K : Nat → Int32}
theorem JX.new (h : JX z σ Z B U ω n nt μ A) (hn : n < 7) {k : Nat} (hk : k ≤ 5)
    (F : ∀ q, q < σ.2.2.2 → σ'.1 q = σ.1 q ∧ σ'.2.1 q = σ.2.1 q ∧ σ'.2.2.1 q = σ.2.2.1 q ∧ μ' q = μ q)
    (f1 : σ'.1 σ.2.2.2 = kcls (nI k)) (f2 : σ'.2.2.1 σ.2.2.2 0 = some (σ.2.2.2 + 1) ∧ σ'.2.2.1 σ.2.2.2 1 = some (σ.2.2.2 + 2)) (f3 : σ'.1 (σ.2.2.2 + 1) = 12 ∧ σ'.2.1 (σ.2.2.2 + 1) = 6) (f4 : σ'.1 (σ.2.2.2 + 2) = 12 ∧ σ'.2.1 (σ.2.2.2 + 2) = 6) (f5 : σ'.2.2.2 = σ.2.2.2 + 3)
    (v : μ' (σ.2.2.2 + 1) 0 = A' 3 n ∧ μ' (σ.2.2.2 + 1) 1 = A' 4 n ∧ μ' (σ.2.2.2 + 1) 2 = A' 5 n ∧ μ' (σ.2.2.2 + 1) 3 = A' 2 n ∧ μ' (σ.2.2.2 + 1) 4 = A' 6 n ∧ μ' (σ.2.2.2 + 1) 5 = A' 7 n)
    (r : rg (A' 3 n) 47 ∧ rg (A' 4 n) 999 ∧ rg (A' 5 n) 240 ∧ rg (A' 2 n) 9 ∧ rg (A' 6 n) 2 ∧ (A' 6 n ≠ 0 → rg (A' 7 n) 20000))
    (e0 : A' 0 0 = nI (n + 1)) (e1 : ∀ j, j ≠ 0 → A' 0 j = A 0 j) (e2 : ∀ p b, b ≠ n → 1 ≤ p → p ≤ 7 → A' p b = A p b) (e3 : ∀ p, 8 ≤ p → A' p = A p) (e4 : A' 1 n = nI k) :
    JX z (th_wR σ' (z + 1) n σ.2.2.2) Z (va_up B n σ.2.2.2) U (wB ω n σ.2.2.2) (n + 1) nt (th_w μ' z 1 (nI (n + 1))) A' := by
  have S := h.sh
  have z48 := S.sx.2.2.2
  have hB : ∀ b, b < n → va_up B n σ.2.2.2 b = B b := fun b hb => up_ne _ _ (by omega)
  have hBn : va_up B n σ.2.2.2 n = σ.2.2.2 := up_at _ _ _
  have bN := S.bN
  have uN := S.uN
  have t6 := S.t6.2
  have E : ∀ q, q < σ.2.2.2 → q ≠ z → (th_w μ' z 1 (nI (n + 1))) q = μ q := fun q hq hz => by rw [th_w_ne _ _ hz, (F q hq).2.2.2]
  have Ez : ∀ j, j ≠ 1 → (th_w μ' z 1 (nI (n + 1))) z j = μ z j := fun j hj => by rw [th_w_hit, if_neg hj, (F z (by omega)).2.2.2]
  have bz : ∀ b, b < n → ∀ j, j < 3 → B b + j ≠ z := fun b hb j hj q => S.iz hb hj (k := 0) (by decide) (by decide) q
  have uz : ∀ t, t < nt → ∀ j, j < 4 → U t + j ≠ z := fun t ht j hj q => by
    have h1 := S.wu t ht j hj
    rw [q, show ω z = 0 from S.wz 0 (by decide) (by decide)] at h1
    omega
  have EB : ∀ b, b < n → ∀ j, j < 3 → (th_w μ' z 1 (nI (n + 1))) (B b + j) = μ (B b + j) := fun b hb j hj => by
    have := bN b hb
    exact E _ (by omega) (bz b hb j hj)
  have EU : ∀ t, t < nt → ∀ j, j < 4 → (th_w μ' z 1 (nI (n + 1))) (U t + j) = μ (U t + j) := fun t ht j hj => by
    have := uN t ht
    exact E _ (by omega) (uz t ht j hj)
  have K1 : ∀ b, b < n → A' 1 b = A 1 b := fun b hb => e2 1 b (by omega) (by omega) (by omega)
  refine ⟨S.new hn hk (fun q hq => ⟨(F q hq).1, (F q hq).2.1, (F q hq).2.2.1⟩) f1 f2 f3 f4 f5 K1 e4, fun p hp => ?_, ?_, e0, th_w_self _ _ _ _, fun b hb => ?_, fun b hb => ?_, ?_, ?_, ?_, fun i hi => ?_, by rw [Ez 7 (by decide)]; exact h.xt, by rw [e1 17 (by decide)]; exact h.at, by rw [e1 18 (by decide)]; exact h.ru, fun t ht => ?_, ?_⟩
  · rw [E _ (by omega) (by omega)]; exact h.fz p hp
  · exact ⟨by rw [E _ (by omega) (by omega)]; exact h.fo, fun j hj => by rw [E _ (by omega) (by omega)]; exact h.f0 j hj⟩
  · by_cases e : b = n
    · subst e; rw [hBn, th_w_ne _ _ (by omega)]; exact v
    · have hb' : b < n := by omega
      rw [hB b hb', EB b hb' 1 (by decide), e2 2 b e (by decide) (by decide), e2 3 b e (by decide) (by decide), e2 4 b e (by decide) (by decide), e2 5 b e (by decide) (by decide), e2 6 b e (by decide) (by decide), e2 7 b e (by decide) (by decide)]
      exact h.nw b hb'
  · by_cases e : b = n
    · subst e; exact r
    · have hb' : b < n := by omega
      rw [e2 2 b e (by decide) (by decide), e2 3 b e (by decide) (by decide), e2 4 b e (by decide) (by decide), e2 5 b e (by decide) (by decide), e2 6 b e (by decide) (by decide), e2 7 b e (by decide) (by decide)]
      exact h.rn b hb'
  · rw [E _ (by omega) (by omega), e1 8 (by decide), e1 9 (by decide), e1 11 (by decide), e1 12 (by decide), e1 13 (by decide), e1 10 (by decide), e1 14 (by decide), e1 18 (by decide)]; exact h.lk
  · rw [e1 8 (by decide), e1 9 (by decide), e1 11 (by decide), e1 12 (by decide), e1 13 (by decide), e1 10 (by decide)]; exact h.rl
  · rw [E (z + 5) (by omega) (by omega), E (z + 4) (by omega) (by omega), e1 15 (by decide), e3 8 (by decide)]; exact h.tp
  · rw [E (z + (15 + 2 * i)) (by omega) (by omega), E (z + (16 + 2 * i)) (by omega) (by omega), e3 17 (by decide), e3 18 (by decide), e3 19 (by decide)]; exact h.st i hi
  · have hl : (th_wR σ' (z + 1) n σ.2.2.2).2.1 (U t + 1) = σ.2.1 (U t + 1) := by
      have := uN t ht
      exact (F _ (by omega)).2.1
    rw [EU t ht 1 (by decide), EU t ht 2 (by decide), e3 9 (by decide), e3 10 (by decide), hl]; exact h.cd t ht
  · rw [e1 33 (by decide), e1 34 (by decide), Ez 4 (by decide), E (z + 3) (by omega) (by omega), e3 16 (by decide)]
    rcases h.im with q | ⟨q1, no, q2, q3, q4, q5, q6, q7, q8⟩
    · exact Or.inl q
    · exact Or.inr ⟨q1, no, by omega, q3, q4, q5, q6, q7, fun b hb => by rw [hB b (by omega), EB b (by omega) 2 (by decide)]; exact q8 b hb⟩
end NJ
