section OM
variable {z : Nat} {σ : th_S} {Z Y : th_M} {B U ω : Nat → Nat} {n nt b t : Nat} {μ μ' μX μM A A' A2 : th_M} {K : Nat → Int32}
theorem m_onL_loop (hU : SX σ z) (m : JM z Y μM A) (hn : A 0 0 = nI n) (n7 : n ≤ 7) {s : Nat} (hs : s < 128) : ∀ k i f, i + k = n → k < f → ∃ v, f_X11_onTheLake_b18 f σ μM (z + 27) (nI s) (nI i) = some v ∧ (v = 0 ∨ v = 1) ∧ (v = 1 ↔ ∀ b, i ≤ b → b < n → s.testBit b = true → A 6 b = 0) := by
  intro k
  induction k with
  | zero =>
    intro i f hi hf
    obtain ⟨f, rfl⟩ : ∃ f', f = f' + 1 := ⟨f - 1, by omega⟩
    have e : i = n := by omega
    subst e
    refine ⟨1, ?_, Or.inr rfl, fun _ b h1 h2 => by omega, fun _ => rfl⟩
    show (oI σ μM 11 (z + 27) 0).bind _ = _
    rw [i_27 hU, Option.bind_some, jm_0_0 m, hn, if_pos (Int32.le_refl _)]
  | succ k ih =>
    intro i f hi hf
    obtain ⟨f, rfl⟩ : ∃ f', f = f' + 1 := ⟨f - 1, by omega⟩
    have hin : i < n := by omega
    have i7 : i < 7 := by omega
    have nl : ¬ nI n ≤ nI i := nI_ge hin (by omega)
    obtain ⟨v, v1, v2, v3⟩ := ih (i + 1) f (by omega) (by omega)
    have st : f_X11_onTheLake_b18 (f + 1) σ μM (z + 27) (nI s) (nI i) = if (jshr (nI s) (nI i)) &&& 1 = 1 then (if A 6 i = 0 then f_X11_onTheLake_b18 f σ μM (z + 27) (nI s) (nI (i + 1)) else some 0) else f_X11_onTheLake_b18 f σ μM (z + 27) (nI s) (nI (i + 1)) := by
      show (oI σ μM 11 (z + 27) 0).bind _ = _
      simp only [i_27 hU, Option.bind_some, jm_0_0 m, hn, if_neg nl, r_27_6 hU, a_33 hU i7, jm_6 m, nI_1]
    rw [st]
    by_cases c : s.testBit i = true
    · rw [if_pos ((shr_bit s hs i i7).mpr c)]
      by_cases d : A 6 i = 0
      · rw [if_pos d]
        refine ⟨v, v1, v2, v3.trans ⟨fun q b h1 h2 h3 => ?_, fun q b h1 h2 h3 => q b (by omega) h2 h3⟩⟩
        by_cases e : b = i
        · rw [e]; exact d
        · exact q b (by omega) h2 h3
      · rw [if_neg d]
        exact ⟨0, rfl, Or.inl rfl, fun q => absurd q (by decide), fun q => absurd (q i (Nat.le_refl _) hin c) d⟩
    · rw [if_neg (fun q => c ((shr_bit s hs i i7).mp q))]
      refine ⟨v, v1, v2, v3.trans ⟨fun q b h1 h2 h3 => ?_, fun q b h1 h2 h3 => q b (by omega) h2 h3⟩⟩
      by_cases e : b = i
      · rw [e] at h3; exact absurd h3 c
      · exact q b (by omega) h2 h3
theorem m_onL (hU : SX σ z) (m : JM z Y μM A) (hn : A 0 0 = nI n) (n7 : n ≤ 7) (x : Int32) : ∃ v, f_X11_onTheLake σ μM (z + 27) x = some v ∧ (v = 0 ∨ v = 1) ∧ (v = 1 ↔ onL A n x) := by
  have p7 := pow_le7 n7
  unfold f_X11_onTheLake
  rw [i_27 hU, Option.bind_some, jm_0_0 m, hn, shl_n n (by omega)]
  by_cases c : x < 0
  · rw [if_pos c]
    refine ⟨0, rfl, Or.inl rfl, fun q => absurd q (by decide), ?_⟩
    rintro ⟨s, hs, rfl, -⟩
    exact absurd c (nI_pos (by omega))
  · rw [if_neg c]
    by_cases d : x < nI (2 ^ n)
    · rw [if_pos d]
      have c' : 0 ≤ x.toInt := by
        rw [Int32.lt_iff_toInt_lt, Int32.toInt_zero] at c
        omega
      have hx := nI_asI c'
      have hl : x.toInt.toNat < 2 ^ n := by
        rw [Int32.lt_iff_toInt_lt, nI_toInt (by omega)] at d
        omega
      obtain ⟨v, v1, v2, v3⟩ := m_onL_loop hU m hn n7 (s := x.toInt.toNat) (by omega) n 0 fu (Nat.zero_add _) (by unfold fu; omega)
      rw [← hx] at v1
      refine ⟨v, v1, v2, v3.trans ⟨fun q => ⟨_, hl, hx, fun b hb hbit => q b (by omega) hb hbit⟩, ?_⟩⟩
      rintro ⟨s, hs, e, hb⟩ b - h2 h3
      have es : x.toInt.toNat = s := by
        rw [e, nI_toInt (by omega)]
        omega
      rw [es] at h3
      exact hb b h2 h3
    · rw [if_neg d]
      refine ⟨0, rfl, Or.inl rfl, fun q => absurd q (by decide), ?_⟩
      rintro ⟨s, hs, rfl, -⟩
      exact absurd (nI_lt hs (by omega)) d
end OM
