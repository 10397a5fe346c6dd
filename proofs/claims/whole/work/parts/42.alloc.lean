section AL
variable {z : Nat} {σ : th_S} {Z Y : th_M} {B U ω : Nat → Nat} {n nt b t : Nat} {μ μ' μX μM A A' A2 : th_M} {K : Nat → Int32}
theorem x0_init {c : Nat} (hc : th_b c = true) (x1 x2 : Int32) : ∃ σ' μ', f_X0_init (th_nS σ c 2) (th_nM σ μ) σ.2.2.2 x1 x2 = some (σ', μ') ∧
    (∀ q, q < σ.2.2.2 → σ'.1 q = σ.1 q ∧ σ'.2.1 q = σ.2.1 q ∧ σ'.2.2.1 q = σ.2.2.1 q ∧ μ' q = μ q) ∧
    σ'.1 σ.2.2.2 = c ∧ (σ'.2.2.1 σ.2.2.2 0 = some (σ.2.2.2 + 1) ∧ σ'.2.2.1 σ.2.2.2 1 = some (σ.2.2.2 + 2)) ∧ (σ'.1 (σ.2.2.2 + 1) = 12 ∧ σ'.2.1 (σ.2.2.2 + 1) = 6) ∧ (σ'.1 (σ.2.2.2 + 2) = 12 ∧ σ'.2.1 (σ.2.2.2 + 2) = 6) ∧ σ'.2.2.2 = σ.2.2.2 + 3 ∧
    (μ' (σ.2.2.2 + 1) 0 = x1 / 100 ∧ μ' (σ.2.2.2 + 1) 1 = jrem x2 1000 ∧ μ' (σ.2.2.2 + 1) 2 = x2 / 1000 ∧ μ' (σ.2.2.2 + 1) 3 = jrem x1 100 ∧ μ' (σ.2.2.2 + 1) 4 = 0 ∧ μ' (σ.2.2.2 + 1) 5 = -1) := by
  obtain ⟨k, l, R, a⟩ := σ
  let s5 : th_S := th_wR (th_nS (th_wR (th_nS (th_nS (k, l, R, a) c 2) 12 6) a 0 (a + 1)) 12 6) a 1 (a + 2)
  let m3 : th_M := th_nM (th_wR (th_nS (th_nS (k, l, R, a) c 2) 12 6) a 0 (a + 1)) (th_nM (th_nS (k, l, R, a) c 2) (th_nM (k, l, R, a) μ))
  let m9 : th_M := th_w (th_w (th_w (th_w (th_w (th_w m3 (a + 1) 0 (x1 / 100)) (a + 1) 3 (jrem x1 100)) (a + 1) 2 (x2 / 1000)) (a + 1) 1 (jrem x2 1000)) (a + 1) 4 0) (a + 1) 5 (-1)
  have hne : ¬ a = a + 1 + 1 := by omega
  have k5 : s5.1 a = c := by simp [s5, th_wR, th_nS, va_up, hne]
  have k51 : s5.1 (a + 1) = 12 := by simp [s5, th_wR, th_nS, va_up, hne]
  have l51 : s5.2.1 (a + 1) = 6 := by simp [s5, th_wR, th_nS, va_up, hne]
  have r5 : s5.2.2.1 a 0 = some (a + 1) := by simp [s5, th_wR, th_nS, va_up, hne]
  have ob : oB s5 a 0 = some (a + 1) := by unfold oB; rw [k5, if_pos hc, r5]
  have sn : ∀ (μ : th_M) (j : Nat) (v : Int32), j < 6 → oSn s5 μ (a + 1) j v = some (th_w μ (a + 1) j v) := fun μ j v hj => by unfold oSn; rw [if_pos ⟨k51, by rw [l51]; exact hj⟩]
  have p1 : oPB (th_nS (th_nS (k, l, R, a) c 2) 12 6) a 0 (a + 1) = some (th_wR (th_nS (th_nS (k, l, R, a) c 2) 12 6) a 0 (a + 1)) := by
    unfold oPB
    rw [if_pos (by simp [th_nS, va_up, hc])]
  have p2 : oPB (th_nS (th_wR (th_nS (th_nS (k, l, R, a) c 2) 12 6) a 0 (a + 1)) 12 6) a 1 (a + 2) = some s5 := by
    unfold oPB
    rw [if_pos (by simp [th_wR, th_nS, va_up, hc, hne])]
  refine ⟨s5, m9, ?_, fun q hq => ?_, k5, ⟨r5, ?_⟩, ⟨k51, l51⟩, ⟨?_, ?_⟩, ?_, ?_⟩
  · unfold f_X0_init
    show (oPB (th_nS (th_nS (k, l, R, a) c 2) 12 6) a 0 (a + 1)).bind _ = _
    rw [p1, Option.bind_some]
    show (oPB (th_nS (th_wR (th_nS (th_nS (k, l, R, a) c 2) 12 6) a 0 (a + 1)) 12 6) a 1 (a + 2)).bind _ = _
    rw [p2, Option.bind_some]
    simp only [ob, Option.bind_some, sn _ 0 _ (by decide), sn _ 1 _ (by decide), sn _ 2 _ (by decide), sn _ 3 _ (by decide), sn _ 4 _ (by decide), sn _ 5 _ (by decide)]
    rfl
  · have hq : q < a := hq
    have h0 : q ≠ a := by omega
    have h1 : q ≠ a + 1 := by omega
    have h2 : q ≠ a + 2 := by omega
    have h3 : q ≠ a + 1 + 1 := by omega
    refine ⟨by simp [s5, th_wR, th_nS, va_up, h0, h1, h2, h3], by simp [s5, th_wR, th_nS, va_up, h0, h1, h2, h3], by simp [s5, th_wR, th_nS, va_up, h0, h1, h2, h3], ?_⟩
    simp only [m9, th_w_ne _ _ h1]
    simp [m3, th_nM, th_wR, th_nS, va_up, h0, h1, h2, h3]
  · simp [s5, th_wR, th_nS, va_up, hne]
  · simp [s5, th_wR, th_nS, va_up, hne]
  · simp [s5, th_wR, th_nS, va_up, hne]
  · rfl
  · simp [m9, th_w_hit]
end AL
