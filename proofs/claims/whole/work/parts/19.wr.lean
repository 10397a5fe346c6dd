section WR
variable {z : Nat} {σ : th_S} {Z Y : th_M} {B U ω : Nat → Nat} {n nt b t : Nat} {μ μ' μX μM A A' : th_M}
theorem JX.chg (h : JX z σ Z B U ω n nt μ A) (eμ : ∀ q, ω q ≠ 2 → (∀ b, b < n → q ≠ B b + 1) → μ' q = μ q) (eA : ∀ p, (p = 1 ∨ 8 ≤ p) → A' p = A p) (e0 : ∀ k, k = 0 ∨ k = 15 ∨ k = 17 ∨ k = 33 ∨ k = 34 → A' 0 k = A 0 k)
    (nw' : ∀ b, b < n → μ' (B b + 1) 0 = A' 3 b ∧ μ' (B b + 1) 1 = A' 4 b ∧ μ' (B b + 1) 2 = A' 5 b ∧ μ' (B b + 1) 3 = A' 2 b ∧ μ' (B b + 1) 4 = A' 6 b ∧ μ' (B b + 1) 5 = A' 7 b) (rn' : ∀ b, b < n → rg (A' 3 b) 47 ∧ rg (A' 4 b) 999 ∧ rg (A' 5 b) 240 ∧ rg (A' 2 b) 9 ∧ rg (A' 6 b) 2 ∧ (A' 6 b ≠ 0 → rg (A' 7 b) 20000)) (lk' : μ' (z + 2) 4 = A' 0 8 ∧ μ' (z + 2) 5 = A' 0 9 ∧ μ' (z + 2) 6 = A' 0 11 ∧ μ' (z + 2) 7 = A' 0 12 ∧ μ' (z + 2) 8 = A' 0 13 ∧ μ' (z + 2) 9 = A' 0 10 ∧ μ' (z + 2) 10 = A' 0 14 ∧ μ' (z + 2) 11 = A' 0 18) (rl' : rg (A' 0 8) 47 ∧ rg (A' 0 9) 9 ∧ rg (A' 0 10) 9999 ∧ rg (A' 0 11) 6 ∧ rg (A' 0 12) 9 ∧ rg (A' 0 13) 20 ∧ A' 0 11 ≠ 0 ∧ A' 0 12 ≠ 0) (ru' : ∃ r, r < nt ∧ A' 0 18 = nI r) : JX z σ Z B U ω n nt μ' A' := by
  have S := h.sh
  have n7 := S.n7
  have t6 := S.t6.2
  have E : ∀ k, k < 48 → (k < 23 ∨ 27 ≤ k) → k ≠ 2 → μ' (z + k) = μ (z + k) := fun k h1 h2 h3 => eμ _ (by rw [S.wz k h1 h2]; exact h3) (fun b hb q => h.bz hb (j := 1) (by decide) h1 h2 q.symm)
  have EB : ∀ b, b < n → μ' (B b + 2) = μ (B b + 2) := fun b hb => eμ _ (by rw [S.wb b hb 2 (by decide)]; omega) (fun b' hb' q => by
    have q1 := S.wb b hb 2 (by decide)
    rw [q, S.wb b' hb' 1 (by decide)] at q1
    omega)
  have EU : ∀ t, t < nt → ∀ j, j = 1 ∨ j = 2 → μ' (U t + j) = μ (U t + j) := fun t ht j hj => eμ _ (by rw [S.wu t ht j (by omega)]; omega) (fun b' hb' q => by
    have q1 := S.wu t ht j (by omega)
    rw [q, S.wb b' hb' 1 (by decide)] at q1
    omega)
  have E0 : μ' z = μ z := E 0 (by decide) (by decide) (by decide)
  have a1 := eA 1 (Or.inl rfl)
  have a8 := eA 8 (by omega)
  have a9 := eA 9 (by omega)
  have a10 := eA 10 (by omega)
  have a16 := eA 16 (by omega)
  have a17 := eA 17 (by omega)
  have a18 := eA 18 (by omega)
  have a19 := eA 19 (by omega)
  refine ⟨by rw [a1]; exact S, fun p hp => ?_, ⟨(E 13 (by decide) (by decide) (by decide)).trans h.fo, fun j hj => by rw [E 12 (by decide) (by decide) (by decide)]; exact h.f0 j hj⟩, by rw [e0 0 (by omega)]; exact h.nn, by rw [E0]; exact h.xn, nw', rn', lk', rl', ?_, fun i hi => ?_, by rw [E0]; exact h.xt, by rw [e0 17 (by omega)]; exact h.at, ru', fun t ht => ?_, ?_⟩
  · rw [E (27 + p) (by omega) (by omega) (by omega)]; exact h.fz p hp
  · rw [E 5 (by decide) (by decide) (by decide), E 4 (by decide) (by decide) (by decide), e0 15 (by omega), a8]; exact h.tp
  · rw [E (15 + 2 * i) (by omega) (by omega) (by omega), E (16 + 2 * i) (by omega) (by omega) (by omega), a17, a18, a19]; exact h.st i hi
  · rw [EU t ht 1 (by omega), EU t ht 2 (by omega), a9, a10]; exact h.cd t ht
  · rw [e0 33 (by omega), e0 34 (by omega), E0, E 3 (by decide) (by decide) (by decide), a16]
    rcases h.im with q | ⟨q1, no, q2, q3, q4, q5, q6, q7, q8⟩
    · exact Or.inl q
    · exact Or.inr ⟨q1, no, q2, q3, q4, q5, q6, q7, fun b hb => by rw [EB b (by omega)]; exact q8 b hb⟩
theorem JX.bb (h : JX z σ Z B U ω n nt μ A) {b b' : Nat} (hb : b < n) (hb' : b' < n) (e : b' ≠ b) : B b' + 1 ≠ B b + 1 := by
  intro q
  have h1 := h.sh.wb b hb 1 (by decide)
  rw [← q, h.sh.wb b' hb' 1 (by decide)] at h1
  omega
theorem JX.wnow (h : JX z σ Z B U ω n nt μ A) (hb : b < n) {j p : Nat} {v : Int32} (hj : (j = 0 ∧ p = 3) ∨ (j = 1 ∧ p = 4) ∨ (j = 2 ∧ p = 5) ∨ (j = 3 ∧ p = 2) ∨ (j = 4 ∧ p = 6) ∨ (j = 5 ∧ p = 7))
    (hr : rg ((th_w A p b v) 3 b) 47 ∧ rg ((th_w A p b v) 4 b) 999 ∧ rg ((th_w A p b v) 5 b) 240 ∧ rg ((th_w A p b v) 2 b) 9 ∧ rg ((th_w A p b v) 6 b) 2 ∧ ((th_w A p b v) 6 b ≠ 0 → rg ((th_w A p b v) 7 b) 20000)) : JX z σ Z B U ω n nt (th_w μ (B b + 1) j v) (th_w A p b v) := by
  have hp : p ≠ 0 ∧ p ≠ 1 ∧ p < 8 := by omega
  have z0 : th_w A p b v 0 = A 0 := th_w_ne _ _ (by omega)
  have ml : th_w μ (B b + 1) j v (z + 2) = μ (z + 2) := th_w_ne _ _ (fun q => h.bz hb (j := 1) (k := 2) (by decide) (by decide) (by decide) q.symm)
  refine h.chg (fun q _ q2 => th_w_ne _ _ (q2 b hb)) (fun q hq => th_w_ne _ _ (by omega)) (fun k _ => by rw [z0]) (fun b' hb' => ?_) (fun b' hb' => ?_) (by rw [z0, ml]; exact h.lk) (by rw [z0]; exact h.rl) (by rw [z0]; exact h.ru)
  · by_cases e : b' = b
    · subst e
      obtain ⟨w0, w1, w2, w3, w4, w5⟩ := h.nw b' hb'
      simp only [th_w_hit, th_w_at]
      rcases hj with ⟨c, d⟩ | ⟨c, d⟩ | ⟨c, d⟩ | ⟨c, d⟩ | ⟨c, d⟩ | ⟨c, d⟩ <;> subst c <;> subst d <;> simp [w0, w1, w2, w3, w4, w5]
    · rw [th_w_ne _ _ (h.bb hb hb' e)]
      have ea : ∀ p', th_w A p b v p' b' = A p' b' := fun p' => by rw [th_w_at, if_neg (fun q => e q.2)]
      simp only [ea]
      exact h.nw b' hb'
  · by_cases e : b' = b
    · subst e; exact hr
    · have ea : ∀ p', th_w A p b v p' b' = A p' b' := fun p' => by rw [th_w_at, if_neg (fun q => e q.2)]
      simp only [ea]
      exact h.rn b' hb'
theorem JX.wlake (h : JX z σ Z B U ω n nt μ A) {k j : Nat} {v : Int32} (hj : (k = 4 ∧ j = 8) ∨ (k = 5 ∧ j = 9) ∨ (k = 6 ∧ j = 11) ∨ (k = 7 ∧ j = 12) ∨ (k = 8 ∧ j = 13) ∨ (k = 9 ∧ j = 10) ∨ (k = 10 ∧ j = 14) ∨ (k = 11 ∧ j = 18))
    (hr : rg ((th_w A 0 j v) 0 8) 47 ∧ rg ((th_w A 0 j v) 0 9) 9 ∧ rg ((th_w A 0 j v) 0 10) 9999 ∧ rg ((th_w A 0 j v) 0 11) 6 ∧ rg ((th_w A 0 j v) 0 12) 9 ∧ rg ((th_w A 0 j v) 0 13) 20 ∧ (th_w A 0 j v) 0 11 ≠ 0 ∧ (th_w A 0 j v) 0 12 ≠ 0) (hu : ∃ r, r < nt ∧ (th_w A 0 j v) 0 18 = nI r) : JX z σ Z B U ω n nt (th_w μ (z + 2) k v) (th_w A 0 j v) := by
  have o2 := h.sh.wz 2 (by decide) (by decide)
  refine h.chg (fun q q1 _ => th_w_ne _ _ (fun c => q1 (by rw [c, o2]))) (fun q hq => th_w_ne _ _ (by omega)) (fun i hi => ?_) (fun b hb => ?_) (fun b hb => ?_) ?_ hr hu
  · rw [th_w_at, if_neg (by omega)]
  · rw [th_w_ne _ _ (h.bz hb (j := 1) (by decide) (by decide) (by decide))]
    simp only [th_w_at]
    simpa using h.nw b hb
  · simp only [th_w_at]
    simpa using h.rn b hb
  · obtain ⟨w0, w1, w2, w3, w4, w5, w6, w7⟩ := h.lk
    simp only [th_w_hit, th_w_at]
    rcases hj with ⟨c, d⟩ | ⟨c, d⟩ | ⟨c, d⟩ | ⟨c, d⟩ | ⟨c, d⟩ | ⟨c, d⟩ | ⟨c, d⟩ | ⟨c, d⟩ <;> subst c <;> subst d <;> simp [w0, w1, w2, w3, w4, w5, w6, w7]
end WR
