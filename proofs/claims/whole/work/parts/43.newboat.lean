section NB
variable {z : Nat} {σ σ' : th_S} {Z Y : th_M} {B U ω : Nat → Nat} {n nt b t : Nat} {μ μ' μX μM A A' A2 : th_M} {K : Nat → Int32}
theorem new_boat {k : Nat} (hk : k ≤ 5) (x1 x2 : Int32) : ∃ σ' μ', f_X10_newBoat σ μ (nI k) x1 x2 = some (σ.2.2.2, σ', μ') ∧
    (∀ q, q < σ.2.2.2 → σ'.1 q = σ.1 q ∧ σ'.2.1 q = σ.2.1 q ∧ σ'.2.2.1 q = σ.2.2.1 q ∧ μ' q = μ q) ∧
    σ'.1 σ.2.2.2 = kcls (nI k) ∧ (σ'.2.2.1 σ.2.2.2 0 = some (σ.2.2.2 + 1) ∧ σ'.2.2.1 σ.2.2.2 1 = some (σ.2.2.2 + 2)) ∧ (σ'.1 (σ.2.2.2 + 1) = 12 ∧ σ'.2.1 (σ.2.2.2 + 1) = 6) ∧ (σ'.1 (σ.2.2.2 + 2) = 12 ∧ σ'.2.1 (σ.2.2.2 + 2) = 6) ∧ σ'.2.2.2 = σ.2.2.2 + 3 ∧
    (μ' (σ.2.2.2 + 1) 0 = x1 / 100 ∧ μ' (σ.2.2.2 + 1) 1 = jrem x2 1000 ∧ μ' (σ.2.2.2 + 1) 2 = x2 / 1000 ∧ μ' (σ.2.2.2 + 1) 3 = jrem x1 100 ∧ μ' (σ.2.2.2 + 1) 4 = 0 ∧ μ' (σ.2.2.2 + 1) 5 = -1) := by
  rcases k_cases hk with q | q | q | q | q | q <;> subst q
  · obtain ⟨s, u, e, r⟩ := x0_init (σ := σ) (μ := μ) (c := 0) rfl x1 x2
    refine ⟨s, u, ?_, r⟩
    show b2 (f_X0_init (th_nS σ 0 2) (th_nM σ μ) σ.2.2.2 x1 x2) _ = _
    rw [e, b2s]
  · obtain ⟨s, u, e, r⟩ := x0_init (σ := σ) (μ := μ) (c := 7) rfl x1 x2
    refine ⟨s, u, ?_, r⟩
    show b2 (b2 (f_X0_init (th_nS σ 7 2) (th_nM σ μ) σ.2.2.2 x1 x2) _) _ = _
    rw [e, b2s, b2s]
  · obtain ⟨s, u, e, r⟩ := x0_init (σ := σ) (μ := μ) (c := 4) rfl x1 x2
    refine ⟨s, u, ?_, r⟩
    show b2 (b2 (f_X0_init (th_nS σ 4 2) (th_nM σ μ) σ.2.2.2 x1 x2) _) _ = _
    rw [e, b2s, b2s]
  · obtain ⟨s, u, e, r⟩ := x0_init (σ := σ) (μ := μ) (c := 2) rfl x1 x2
    refine ⟨s, u, ?_, r⟩
    show b2 (b2 (b2 (f_X0_init (th_nS σ 2 2) (th_nM σ μ) σ.2.2.2 x1 x2) _) _) _ = _
    rw [e, b2s, b2s, b2s]
  · obtain ⟨s, u, e, r⟩ := x0_init (σ := σ) (μ := μ) (c := 1) rfl x1 x2
    refine ⟨s, u, ?_, r⟩
    show b2 (b2 (b2 (f_X0_init (th_nS σ 1 2) (th_nM σ μ) σ.2.2.2 x1 x2) _) _) _ = _
    rw [e, b2s, b2s, b2s]
  · obtain ⟨s, u, e, r⟩ := x0_init (σ := σ) (μ := μ) (c := 3) rfl x1 x2
    refine ⟨s, u, ?_, r⟩
    show b2 (b2 (f_X0_init (th_nS σ 3 2) (th_nM σ μ) σ.2.2.2 x1 x2) _) _ = _
    rw [e, b2s, b2s]
theorem SX.up (h : SX σ z) (F : ∀ q, q < σ.2.2.2 → σ'.1 q = σ.1 q ∧ σ'.2.1 q = σ.2.1 q ∧ (q ≠ z + 1 → q ≠ z + 8 → σ'.2.2.1 q = σ.2.2.1 q)) (hN : σ.2.2.2 ≤ σ'.2.2.2) : SX σ' z := by
  obtain ⟨h1, h2, h3, h4⟩ := h
  have l1 : ∀ q ∈ sxL, q.1 < 48 := by decide
  have l2 : ∀ q ∈ sxR, q.1 < 48 ∧ q.1 ≠ 1 ∧ q.1 ≠ 8 := by decide
  refine ⟨fun k hk => by rw [(F (z + k) (by omega)).1]; exact h1 k hk, fun q hq => ?_, fun q hq => ?_, by omega⟩
  · have := l1 q hq
    rw [(F (z + q.1) (by omega)).2.1]; exact h2 q hq
  · have := l2 q hq
    rw [(F (z + q.1) (by omega)).2.2 (by omega) (by omega)]; exact h3 q hq
def wB (ω : Nat → Nat) (n a : Nat) : Nat → Nat := fun q => if a ≤ q ∧ q < a + 3 then 1000 + 10 * n + (q - a) else ω q
theorem SH.new (S : SH z σ B U ω n nt K) (hn : n < 7) {k : Nat} (hk : k ≤ 5)
    (F : ∀ q, q < σ.2.2.2 → σ'.1 q = σ.1 q ∧ σ'.2.1 q = σ.2.1 q ∧ σ'.2.2.1 q = σ.2.2.1 q)
    (f1 : σ'.1 σ.2.2.2 = kcls (nI k)) (f2 : σ'.2.2.1 σ.2.2.2 0 = some (σ.2.2.2 + 1) ∧ σ'.2.2.1 σ.2.2.2 1 = some (σ.2.2.2 + 2)) (f3 : σ'.1 (σ.2.2.2 + 1) = 12 ∧ σ'.2.1 (σ.2.2.2 + 1) = 6) (f4 : σ'.1 (σ.2.2.2 + 2) = 12 ∧ σ'.2.1 (σ.2.2.2 + 2) = 6) (f5 : σ'.2.2.2 = σ.2.2.2 + 3)
    {K' : Nat → Int32} (hK : ∀ b, b < n → K' b = K b) (hKn : K' n = nI k) :
    SH z (th_wR σ' (z + 1) n σ.2.2.2) (va_up B n σ.2.2.2) U (wB ω n σ.2.2.2) (n + 1) nt K' := by
  obtain ⟨ha, hf⟩ : σ.2.2.2 = σ.2.2.2 ∧ True := ⟨rfl, trivial⟩
  have z48 := S.sx.2.2.2
  have hB : ∀ b, b < n → va_up B n σ.2.2.2 b = B b := fun b hb => up_ne _ _ (by omega)
  have hBn : va_up B n σ.2.2.2 n = σ.2.2.2 := up_at _ _ _
  have g1 : ∀ q, (th_wR σ' (z + 1) n σ.2.2.2).1 q = σ'.1 q := fun q => rfl
  have g2 : ∀ q, (th_wR σ' (z + 1) n σ.2.2.2).2.1 q = σ'.2.1 q := fun q => rfl
  have g3 : ∀ q, q ≠ z + 1 → (th_wR σ' (z + 1) n σ.2.2.2).2.2.1 q = σ'.2.2.1 q := fun q hq => up_ne _ _ hq
  have w0 : ∀ q, q < σ.2.2.2 → wB ω n σ.2.2.2 q = ω q := fun q hq => by unfold wB; rw [if_neg (by omega)]
  have bN := S.bN
  have uN := S.uN
  have bz : ∀ b, b < n → B b ≠ z + 1 := fun b hb q => S.iz hb (j := 0) (k := 1) (by decide) (by decide) (by decide) q
  have uz : ∀ t, t < nt → U t ≠ z + 1 := fun t ht q => by
    have h1 := S.wu t ht 0 (by decide)
    rw [show U t + 0 = z + 1 from q, S.wz 1 (by decide) (by decide)] at h1
    omega
  refine ⟨S.sx.up (fun q hq => ⟨by rw [g1]; exact (F q hq).1, by rw [g2]; exact (F q hq).2.1, fun h1 _ => by rw [g3 q h1]; exact (F q hq).2.2⟩) (by show σ.2.2.2 ≤ σ'.2.2.2; omega), fun b hb => ?_, fun b hb => ?_, fun b hb => ?_, fun b hb => ?_, fun b hb => ?_, fun b hb => ?_, fun b hb => ?_, by omega, fun k hk hk2 => by rw [w0 _ (by omega)]; exact S.wz k hk hk2, fun b hb j hj => ?_, fun t ht j hj => by have := uN t ht; rw [w0 _ (by omega)]; exact S.wu t ht j hj, S.t6, fun t ht => ?_, fun t ht => ?_, fun t ht => ?_, fun t ht => ?_, fun t ht => ?_, fun t ht => ?_, fun t ht => by have := uN t ht; show U t + 4 ≤ σ'.2.2.2; omega⟩
  · show va_up σ'.2.2.1 (z + 1) (va_up (σ'.2.2.1 (z + 1)) n (some σ.2.2.2)) (z + 1) b = _
    rw [up_at]
    by_cases e : b = n
    · subst e; rw [up_at, hBn]
    · rw [up_ne _ _ e, hB b (by omega), (F (z + 1) (by omega)).2.2]; exact S.fl b (by omega)
  · rw [g1]
    by_cases e : b = n
    · subst e; rw [hBn, f1, hKn]
    · have := bN b (by omega)
      rw [hB b (by omega), (F _ (by omega)).1, hK b (by omega)]; exact S.bc b (by omega)
  · by_cases e : b = n
    · subst e; rw [hKn]; exact ⟨k, hk, rfl⟩
    · rw [hK b (by omega)]; exact S.kd b (by omega)
  · by_cases e : b = n
    · subst e; rw [hBn, g3 _ (by omega)]; exact f2
    · have := bN b (by omega)
      rw [hB b (by omega), g3 _ (bz b (by omega)), (F _ (by omega)).2.2]; exact S.br b (by omega)
  · rw [g1, g2]
    by_cases e : b = n
    · subst e; rw [hBn]; exact f3
    · have := bN b (by omega)
      rw [hB b (by omega), (F _ (by omega)).1, (F _ (by omega)).2.1]; exact S.b1 b (by omega)
  · rw [g1, g2]
    by_cases e : b = n
    · subst e; rw [hBn]; exact f4
    · have := bN b (by omega)
      rw [hB b (by omega), (F _ (by omega)).1, (F _ (by omega)).2.1]; exact S.b2 b (by omega)
  · show va_up B n σ.2.2.2 b + 3 ≤ σ'.2.2.2
    by_cases e : b = n
    · subst e; rw [hBn]; omega
    · have := bN b (by omega)
      rw [hB b (by omega)]; omega
  · by_cases e : b = n
    · subst e; rw [hBn]; unfold wB; rw [if_pos (by omega)]; omega
    · have := bN b (by omega)
      rw [hB b (by omega), w0 _ (by omega)]; exact S.wb b (by omega) j hj
  · rw [g3 _ (by omega), (F _ (by omega)).2.2]; exact S.ur t ht
  · have := uN t ht
    rw [g1, (F _ (by omega)).1]; exact S.uc t ht
  · have := uN t ht
    rw [g3 _ (uz t ht), (F _ (by omega)).2.2]; exact S.uf t ht
  · have := uN t ht
    rw [g1, g2, (F _ (by omega)).1, (F _ (by omega)).2.1]; exact S.u1 t ht
  · have := uN t ht
    rw [g1, g2, (F _ (by omega)).1, (F _ (by omega)).2.1]; exact S.u2 t ht
  · have := uN t ht
    rw [g1, g2, (F _ (by omega)).1, (F _ (by omega)).2.1]; exact S.u3 t ht
end NB
