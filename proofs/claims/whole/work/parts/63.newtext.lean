section NT
variable {z : Nat} {σ σ' : th_S} {Z Y : th_M} {B U ω : Nat → Nat} {n nt b t e2 : Nat} {μ μ' μX μM A A' A2 : th_M} {K : Nat → Int32}
theorem x_ruleRead (hU : XT σ z) (z48 : z + 8 ≤ σ.2.2.2) (he : e2 ≤ 160) (h3 : μ (z + 4) 3 = nI e2) : ∃ σ' μ', f_X8_ruleRead σ μ (z + 4) = some (σ.2.2.2, σ', μ') ∧
    (∀ q, q < σ.2.2.2 → σ'.1 q = σ.1 q ∧ σ'.2.1 q = σ.2.1 q ∧ σ'.2.2.1 q = σ.2.2.1 q ∧ μ' q = μ q) ∧
    σ'.1 σ.2.2.2 = 5 ∧ (σ'.2.2.1 σ.2.2.2 0 = some (σ.2.2.2 + 1) ∧ σ'.2.2.1 σ.2.2.2 1 = some (σ.2.2.2 + 2) ∧ σ'.2.2.1 σ.2.2.2 2 = some (σ.2.2.2 + 3)) ∧ (σ'.1 (σ.2.2.2 + 1) = 12 ∧ σ'.2.1 (σ.2.2.2 + 1) = e2) ∧ (σ'.1 (σ.2.2.2 + 2) = 12 ∧ σ'.2.1 (σ.2.2.2 + 2) = 3) ∧ (σ'.1 (σ.2.2.2 + 3) = 12 ∧ σ'.2.1 (σ.2.2.2 + 3) = 31) ∧ σ'.2.2.2 = σ.2.2.2 + 4 ∧
    (∀ i, μ' (σ.2.2.2 + 1) i = μ (z + 6) i) ∧ (∀ i, μ' (σ.2.2.2 + 2) i = μ (z + 7) i) ∧ σ'.2.1 σ.2.2.2 = 4 ∧ ∀ q, σ.2.2.2 + 4 ≤ q → μ' q = μ q := by
  have U2 : ∀ {σ : th_S} (c n : Nat), z + 8 ≤ σ.2.2.2 → XT σ z → XT (th_nS σ c n) z := fun {σ} c n z8 h => h.up (fun q hq => ⟨up_ne _ _ (by omega), up_ne _ _ (by omega), up_ne _ _ (by omega)⟩)
  have S2 := U2 5 4 z48 hU
  have S7 := U2 12 e2 (Nat.le_succ_of_le z48) S2
  obtain ⟨k, l, R, a⟩ := σ
  have z48 : z + 8 ≤ a := z48
  have n1 : ¬ a = a + 1 := by omega
  have n2 : ¬ a = a + 1 + 1 := by omega
  have n3 : ¬ a = a + 1 + 1 + 1 := by omega
  have n4 : ¬ a + 1 = a + 1 + 1 := by omega
  have n5 : ¬ a + 1 = a + 1 + 1 + 1 := by omega
  have n6 : ¬ a + 1 + 1 = a + 1 + 1 + 1 := by omega
  have n7 : ¬ a + 1 = a := by omega
  have n8 : ¬ a + 1 + 1 = a := by omega
  have n9 : ¬ a + 1 + 1 + 1 = a := by omega
  let s0 : th_S := (k, l, R, a)
  let s2 : th_S := th_nS s0 5 4
  let s7 : th_S := th_nS s2 12 e2
  let sB : th_S := th_nS s7 12 3
  let sA : th_S := th_nS sB 12 31
  let sF : th_S := th_wR (th_wR (th_wR sA a 2 (a + 3)) a 0 (a + 1)) a 1 (a + 2)
  let m3 : th_M := th_nM s0 μ
  let m8 : th_M := va_up m3 (a + 1) (m3 (z + 6))
  let m12 : th_M := va_up m8 (a + 2) (m8 (z + 7))
  let mF : th_M := th_nM sB m12
  have r3 : ∀ q, q < a → m3 q = μ q := fun q hq => up_ne _ _ (show q ≠ a by omega)
  have r8 : ∀ q, q < a → m8 q = μ q := fun q hq => by show va_up m3 (a + 1) (m3 (z + 6)) q = _; rw [up_ne _ _ (by omega), r3 q hq]
  have r12 : ∀ q, q < a → m12 q = μ q := fun q hq => by show va_up m8 (a + 2) (m8 (z + 7)) q = _; rw [up_ne _ _ (by omega), r8 q hq]
  have rF : ∀ q, q < a → mF q = μ q := fun q hq => by show va_up m12 (a + 1 + 1 + 1) (fun _ => 0) q = _; rw [up_ne _ _ (by omega), r12 q hq]
  have c6 : oCp s2 m3 (z + 6) (nI e2) = some (a + 1, s7, m8) := by
    unfold oCp
    rw [if_pos ⟨S2.2.2.1.1, nI_pos (by omega), by rw [nI_clamp (by omega), S2.2.2.1.2]; exact he, by rw [S2.2.2.1.2]; decide⟩, nI_clamp (by omega)]
    rfl
  have c7 : oCp s7 m8 (z + 7) 3 = some (a + 2, sB, m12) := by
    unfold oCp
    rw [if_pos ⟨S7.2.2.2.1.1, by decide, by rw [S7.2.2.2.1.2]; decide, by rw [S7.2.2.2.1.2]; decide⟩]
    rfl
  have kA : sA.1 a = 5 := by simp [sA, sB, s7, s2, s0, th_nS, va_up, n1, n2, n3]
  have p2 : oPR sA 5 a 2 (a + 3) = some (th_wR sA a 2 (a + 3)) := by unfold oPR; rw [if_pos kA]
  have p0 : oPR (th_wR sA a 2 (a + 3)) 5 a 0 (a + 1) = some (th_wR (th_wR sA a 2 (a + 3)) a 0 (a + 1)) := by unfold oPR; rw [if_pos (show (th_wR sA a 2 (a + 3)).1 a = 5 from kA)]
  have p1 : oPR (th_wR (th_wR sA a 2 (a + 3)) a 0 (a + 1)) 5 a 1 (a + 2) = some sF := by unfold oPR; rw [if_pos (show (th_wR (th_wR sA a 2 (a + 3)) a 0 (a + 1)).1 a = 5 from kA)]
  refine ⟨sF, mF, ?_, fun q hq => ?_, kA, ⟨?_, ?_, ?_⟩, ⟨?_, ?_⟩, ⟨?_, ?_⟩, ⟨?_, ?_⟩, rfl, fun i => ?_, fun i => ?_, ?_, fun q hq => ?_⟩
  · unfold f_X8_ruleRead
    show (oR s2 8 (z + 4) 2).bind (fun a4 => (oI s2 m3 8 (z + 4) 3).bind fun v5 => b3 (f_J7_copyOf_59c91 s2 m3 a4 v5) fun a6 σ7 μ8 => (oR σ7 8 (z + 4) 4).bind fun a9 => b3 (f_J7_copyOf_59c91 σ7 μ8 a9 3) fun a10 σ11 μ12 => b2 (f_X5_init σ11 μ12 a a6 a10) fun σ13 μ14 => some (a, σ13, μ14)) = _
    rw [tr_4_2 S2, Option.bind_some, ti_4 S2, Option.bind_some, r3 (z + 4) (by omega), h3, show f_J7_copyOf_59c91 s2 m3 (z + 6) (nI e2) = _ from c6, b3s, tr_4_4 S7, Option.bind_some, show f_J7_copyOf_59c91 s7 m8 (z + 7) 3 = _ from c7, b3s]
    show b2 ((oPR sA 5 a 2 (a + 3)).bind fun σ4 => (oPR σ4 5 a 0 (a + 1)).bind fun σ5 => (oPR σ5 5 a 1 (a + 2)).bind fun σ6 => some (σ6, mF)) _ = _
    rw [p2, Option.bind_some, p0, Option.bind_some, p1, Option.bind_some, b2s]
  · have hq : q < a := hq
    have m0 : ¬ q = a := by omega
    have m1 : ¬ q = a + 1 := by omega
    have m2 : ¬ q = a + 1 + 1 := by omega
    have m3' : ¬ q = a + 1 + 1 + 1 := by omega
    exact ⟨by simp [sF, sA, sB, s7, s2, s0, th_wR, th_nS, va_up, m0, m1, m2, m3'], by simp [sF, sA, sB, s7, s2, s0, th_wR, th_nS, va_up, m0, m1, m2, m3'], by simp [sF, sA, sB, s7, s2, s0, th_wR, th_nS, va_up, m0, m1, m2, m3'], rF q hq⟩
  · simp [sF, th_wR, va_up]
  · simp [sF, th_wR, va_up]
  · simp [sF, th_wR, va_up]
  · simp [sF, sA, sB, s7, s2, s0, th_wR, th_nS, va_up, n4, n5]
  · simp [sF, sA, sB, s7, s2, s0, th_wR, th_nS, va_up, n4, n5]
  · simp [sF, sA, sB, s7, s2, s0, th_wR, th_nS, va_up, n6]
  · simp [sF, sA, sB, s7, s2, s0, th_wR, th_nS, va_up, n6]
  · simp [sF, sA, sB, s7, s2, s0, th_wR, th_nS, va_up]
  · simp [sF, sA, sB, s7, s2, s0, th_wR, th_nS, va_up]
  · show va_up m12 (a + 1 + 1 + 1) (fun _ => 0) (a + 1) i = _
    rw [up_ne _ _ n5]
    show va_up m8 (a + 2) (m8 (z + 7)) (a + 1) i = _
    rw [up_ne _ _ (by omega)]
    show va_up m3 (a + 1) (m3 (z + 6)) (a + 1) i = _
    rw [up_at, r3 _ (by omega)]
  · show va_up m12 (a + 1 + 1 + 1) (fun _ => 0) (a + 1 + 1) i = _
    rw [up_ne _ _ n6]
    show va_up m8 (a + 2) (m8 (z + 7)) (a + 2) i = _
    rw [up_at, r8 _ (by omega)]
  · simp [sF, sA, sB, s7, s2, s0, th_wR, th_nS, va_up, n1, n2, n3]
  · have hq : a + 4 ≤ q := hq
    show va_up m12 (a + 1 + 1 + 1) (fun _ => 0) q = _
    rw [up_ne _ _ (by omega)]
    show va_up m8 (a + 2) (m8 (z + 7)) q = _
    rw [up_ne _ _ (by omega)]
    show va_up m3 (a + 1) (m3 (z + 6)) q = _
    rw [up_ne _ _ (by omega)]
    show va_up μ a (fun _ => 0) q = _
    rw [up_ne _ _ (by omega)]
def wU (ω : Nat → Nat) (nt a : Nat) : Nat → Nat := fun q => if a ≤ q ∧ q < a + 4 then 2000 + 10 * nt + (q - a) else ω q
theorem SH.newT (S : SH z σ B U ω n nt K) (hn : nt < 6) (he : e2 ≤ 160)
    (F : ∀ q, q < σ.2.2.2 → σ'.1 q = σ.1 q ∧ σ'.2.1 q = σ.2.1 q ∧ σ'.2.2.1 q = σ.2.2.1 q)
    (f1 : σ'.1 σ.2.2.2 = 5) (f2 : σ'.2.2.1 σ.2.2.2 0 = some (σ.2.2.2 + 1) ∧ σ'.2.2.1 σ.2.2.2 1 = some (σ.2.2.2 + 2) ∧ σ'.2.2.1 σ.2.2.2 2 = some (σ.2.2.2 + 3)) (f3 : σ'.1 (σ.2.2.2 + 1) = 12 ∧ σ'.2.1 (σ.2.2.2 + 1) = e2) (f4 : σ'.1 (σ.2.2.2 + 2) = 12 ∧ σ'.2.1 (σ.2.2.2 + 2) = 3) (f5 : σ'.1 (σ.2.2.2 + 3) = 12 ∧ σ'.2.1 (σ.2.2.2 + 3) = 31) (f6 : σ'.2.2.2 = σ.2.2.2 + 4) :
    SH z (th_wR σ' (z + 8) nt σ.2.2.2) B (va_up U nt σ.2.2.2) (wU ω nt σ.2.2.2) n (nt + 1) K := by
  have z48 := S.sx.2.2.2
  have hB : ∀ t, t < nt → va_up U nt σ.2.2.2 t = U t := fun t ht => up_ne _ _ (by omega)
  have hBn : va_up U nt σ.2.2.2 nt = σ.2.2.2 := up_at _ _ _
  have g1 : ∀ q, (th_wR σ' (z + 8) nt σ.2.2.2).1 q = σ'.1 q := fun q => rfl
  have g2 : ∀ q, (th_wR σ' (z + 8) nt σ.2.2.2).2.1 q = σ'.2.1 q := fun q => rfl
  have g3 : ∀ q, q ≠ z + 8 → (th_wR σ' (z + 8) nt σ.2.2.2).2.2.1 q = σ'.2.2.1 q := fun q hq => up_ne _ _ hq
  have w0 : ∀ q, q < σ.2.2.2 → wU ω nt σ.2.2.2 q = ω q := fun q hq => by unfold wU; rw [if_neg (by omega)]
  have bN := S.bN
  have uN := S.uN
  have n7 := S.n7
  have bz : ∀ b, b < n → B b ≠ z + 8 := fun b hb q => S.iz hb (j := 0) (k := 8) (by decide) (by decide) (by decide) q
  have uz : ∀ t, t < nt → U t ≠ z + 8 := fun t ht q => by
    have h1 := S.wu t ht 0 (by decide)
    rw [show U t + 0 = z + 8 from q, S.wz 8 (by decide) (by decide)] at h1
    omega
  refine ⟨S.sx.up (fun q hq => ⟨by rw [g1]; exact (F q hq).1, by rw [g2]; exact (F q hq).2.1, fun _ h2 => by rw [g3 q h2]; exact (F q hq).2.2⟩) (by show σ.2.2.2 ≤ σ'.2.2.2; omega), fun b hb => ?_, fun b hb => ?_, S.kd, fun b hb => ?_, fun b hb => ?_, fun b hb => ?_, fun b hb => ?_, S.n7, fun k hk hk2 => by rw [w0 _ (by omega)]; exact S.wz k hk hk2, fun b hb j hj => ?_, fun t ht j hj => ?_, by omega, fun t ht => ?_, fun t ht => ?_, fun t ht => ?_, fun t ht => ?_, fun t ht => ?_, fun t ht => ?_, fun t ht => ?_⟩
  · rw [g3 _ (by omega), (F _ (by omega)).2.2]; exact S.fl b hb
  · have := bN b hb
    rw [g1, (F _ (by omega)).1]; exact S.bc b hb
  · have := bN b hb
    rw [g3 _ (bz b hb), (F _ (by omega)).2.2]; exact S.br b hb
  · have := bN b hb
    rw [g1, g2, (F _ (by omega)).1, (F _ (by omega)).2.1]; exact S.b1 b hb
  · have := bN b hb
    rw [g1, g2, (F _ (by omega)).1, (F _ (by omega)).2.1]; exact S.b2 b hb
  · have := bN b hb
    show B b + 3 ≤ σ'.2.2.2
    omega
  · have := bN b hb
    rw [w0 _ (by omega)]; exact S.wb b hb j hj
  · by_cases e : t = nt
    · subst e; rw [hBn]; unfold wU; rw [if_pos (by omega)]; omega
    · have := uN t (by omega)
      rw [hB t (by omega), w0 _ (by omega)]; exact S.wu t (by omega) j hj
  · show va_up σ'.2.2.1 (z + 8) (va_up (σ'.2.2.1 (z + 8)) nt (some σ.2.2.2)) (z + 8) t = _
    rw [up_at]
    by_cases e : t = nt
    · subst e; rw [up_at, hBn]
    · rw [up_ne _ _ e, hB t (by omega), (F (z + 8) (by omega)).2.2]; exact S.ur t (by omega)
  · rw [g1]
    by_cases e : t = nt
    · subst e; rw [hBn]; exact f1
    · have := uN t (by omega)
      rw [hB t (by omega), (F _ (by omega)).1]; exact S.uc t (by omega)
  · by_cases e : t = nt
    · subst e; rw [hBn, g3 _ (by omega)]; exact f2
    · have := uN t (by omega)
      rw [hB t (by omega), g3 _ (uz t (by omega)), (F _ (by omega)).2.2]; exact S.uf t (by omega)
  · rw [g1, g2]
    by_cases e : t = nt
    · subst e; rw [hBn, f3.2]; exact ⟨f3.1, he⟩
    · have := uN t (by omega)
      rw [hB t (by omega), (F _ (by omega)).1, (F _ (by omega)).2.1]; exact S.u1 t (by omega)
  · rw [g1, g2]
    by_cases e : t = nt
    · subst e; rw [hBn]; exact f4
    · have := uN t (by omega)
      rw [hB t (by omega), (F _ (by omega)).1, (F _ (by omega)).2.1]; exact S.u2 t (by omega)
  · rw [g1, g2]
    by_cases e : t = nt
    · subst e; rw [hBn]; exact f5
    · have := uN t (by omega)
      rw [hB t (by omega), (F _ (by omega)).1, (F _ (by omega)).2.1]; exact S.u3 t (by omega)
  · show va_up U nt σ.2.2.2 t + 4 ≤ σ'.2.2.2
    by_cases e : t = nt
    · subst e; rw [hBn]; omega
    · have := uN t (by omega)
      rw [hB t (by omega)]; omega
/-- the abstract state's code rows beyond the texts do not matter -/
theorem JX.acd (h : JX z σ Z B U ω n nt μ A) (e : ∀ p, p ≠ 9 → p ≠ 10 → A' p = A p) (e9 : ∀ j, j < 170 * nt → A' 9 j = A 9 j) (e10 : ∀ j, j < 4 * nt → A' 10 j = A 10 j) : JX z σ Z B U ω n nt μ A' := by
  obtain ⟨h1, h2, h3, h4, h5, h6, h7, h8, h9, h10, h11, h12, h13, h14, h15, h16⟩ := h
  refine ⟨by rw [e 1 (by decide) (by decide)]; exact h1, h2, h3, by rw [e 0 (by decide) (by decide)]; exact h4, h5, ?_, ?_, by rw [e 0 (by decide) (by decide)]; exact h8, by rw [e 0 (by decide) (by decide)]; exact h9, by rw [e 0 (by decide) (by decide), e 8 (by decide) (by decide)]; exact h10, ?_, h12, by rw [e 0 (by decide) (by decide)]; exact h13, by rw [e 0 (by decide) (by decide)]; exact h14, fun t ht => ?_, ?_⟩
  · rw [e 2 (by decide) (by decide), e 3 (by decide) (by decide), e 4 (by decide) (by decide), e 5 (by decide) (by decide), e 6 (by decide) (by decide), e 7 (by decide) (by decide)]; exact h6
  · rw [e 2 (by decide) (by decide), e 3 (by decide) (by decide), e 4 (by decide) (by decide), e 5 (by decide) (by decide), e 6 (by decide) (by decide), e 7 (by decide) (by decide)]; exact h7
  · rw [e 17 (by decide) (by decide), e 18 (by decide) (by decide), e 19 (by decide) (by decide)]; exact h11
  · obtain ⟨e0, e1, e2, c1, c2, c3, c4, c5, c6, c7, c8, c9, c10, c11, c12, c13, c14⟩ := h15 t ht
    have l160 : e2 ≤ 160 := by rw [← c3]; exact (h1.u1 t ht).2
    have ext : ∀ k i h, i + k ≤ e2 → hg (fun i => A 9 (170 * t + i)) k i h → hg (fun i => A' 9 (170 * t + i)) k i h := by
      intro k
      induction k with
      | zero => intro i h _ a; exact a
      | succ k ih =>
        intro i h hi a
        obtain ⟨a1, a2⟩ := a
        have ei : A' 9 (170 * t + i) = A 9 (170 * t + i) := e9 _ (by omega)
        refine ⟨by show tkOk (A' 9 (170 * t + i)); rw [ei]; exact a1, ?_⟩
        show (if (-7 : Int32) < A' 9 (170 * t + i) then h < 31 ∧ hg (fun i => A' 9 (170 * t + i)) k (i + 1) (h + 1) else if A' 9 (170 * t + i) = -13 ∨ A' 9 (170 * t + i) = -19 then 1 ≤ h ∧ hg (fun i => A' 9 (170 * t + i)) k (i + 1) h else 2 ≤ h ∧ hg (fun i => A' 9 (170 * t + i)) k (i + 1) (h - 1))
        rw [ei]
        by_cases q1 : (-7 : Int32) < A 9 (170 * t + i)
        · rw [if_pos q1] at a2 ⊢
          exact ⟨a2.1, ih _ _ (by omega) a2.2⟩
        · rw [if_neg q1] at a2 ⊢
          by_cases q2 : A 9 (170 * t + i) = -13 ∨ A 9 (170 * t + i) = -19
          · rw [if_pos q2] at a2 ⊢
            exact ⟨a2.1, ih _ _ (by omega) a2.2⟩
          · rw [if_neg q2] at a2 ⊢
            exact ⟨a2.1, ih _ _ (by omega) a2.2⟩
    exact ⟨e0, e1, e2, c1, c2, c3, c4, c5, c6, by rw [e10 _ (by omega)]; exact c7, by rw [e10 _ (by omega)]; exact c8, by rw [e10 _ (by omega)]; exact c9, by rw [e10 _ (by omega)]; exact c10, fun i hi => by rw [e9 _ (by omega)]; exact c11 i hi, ext _ _ _ (by omega) c12, ext _ _ _ (by omega) c13, ext _ _ _ (by omega) c14⟩
  · rw [e 0 (by decide) (by decide), e 16 (by decide) (by decide)]; exact h16
theorem JX.newT (h : JX z σ Z B U ω n nt μ A) (hn : nt < 6) (he : e2 ≤ 160)
    (F : ∀ q, q < σ.2.2.2 → σ'.1 q = σ.1 q ∧ σ'.2.1 q = σ.2.1 q ∧ σ'.2.2.1 q = σ.2.2.1 q ∧ μ' q = μ q)
    (f1 : σ'.1 σ.2.2.2 = 5) (f2 : σ'.2.2.1 σ.2.2.2 0 = some (σ.2.2.2 + 1) ∧ σ'.2.2.1 σ.2.2.2 1 = some (σ.2.2.2 + 2) ∧ σ'.2.2.1 σ.2.2.2 2 = some (σ.2.2.2 + 3)) (f3 : σ'.1 (σ.2.2.2 + 1) = 12 ∧ σ'.2.1 (σ.2.2.2 + 1) = e2) (f4 : σ'.1 (σ.2.2.2 + 2) = 12 ∧ σ'.2.1 (σ.2.2.2 + 2) = 3) (f5 : σ'.1 (σ.2.2.2 + 3) = 12 ∧ σ'.2.1 (σ.2.2.2 + 3) = 31) (f6 : σ'.2.2.2 = σ.2.2.2 + 4)
    (a17 : A' 0 17 = nI (nt + 1)) (a0 : ∀ j, j ≠ 17 → A' 0 j = A 0 j) (ap : ∀ p, p ≠ 0 → A' p = A p)
    (c : ∃ e0 e1, e0 ≤ e1 ∧ e1 ≤ e2 ∧ μ' (σ.2.2.2 + 2) 0 = nI e0 ∧ μ' (σ.2.2.2 + 2) 1 = nI e1 ∧ μ' (σ.2.2.2 + 2) 2 = nI e2 ∧ A 10 (4 * nt) = 0 ∧ A 10 (4 * nt + 1) = nI e0 ∧ A 10 (4 * nt + 2) = nI e1 ∧ A 10 (4 * nt + 3) = nI e2 ∧ (∀ i, i < e2 → μ' (σ.2.2.2 + 1) i = tk (A 9 (170 * nt + i))) ∧ hg (fun i => A 9 (170 * nt + i)) e0 0 0 ∧ hg (fun i => A 9 (170 * nt + i)) (e1 - e0) e0 0 ∧ hg (fun i => A 9 (170 * nt + i)) (e2 - e1) e1 0) :
    JX z (th_wR σ' (z + 8) nt σ.2.2.2) Z B (va_up U nt σ.2.2.2) (wU ω nt σ.2.2.2) n (nt + 1) (th_w μ' z 7 (nI (nt + 1))) A' := by
  have S := h.sh
  have z48 := S.sx.2.2.2
  have n7 := S.n7
  have bN := S.bN
  have uN := S.uN
  have hB : ∀ t, t < nt → va_up U nt σ.2.2.2 t = U t := fun t ht => up_ne _ _ (by omega)
  have hBn : va_up U nt σ.2.2.2 nt = σ.2.2.2 := up_at _ _ _
  have E : ∀ q, q < σ.2.2.2 → q ≠ z → (th_w μ' z 7 (nI (nt + 1))) q = μ q := fun q hq hz => by rw [th_w_ne _ _ hz, (F q hq).2.2.2]
  have Ez : ∀ j, j ≠ 7 → (th_w μ' z 7 (nI (nt + 1))) z j = μ z j := fun j hj => by rw [th_w_hit, if_neg hj, (F z (by omega)).2.2.2]
  have bz : ∀ b, b < n → ∀ j, j < 3 → B b + j ≠ z := fun b hb j hj q => S.iz hb hj (k := 0) (by decide) (by decide) q
  have uz : ∀ t, t < nt → ∀ j, j < 4 → U t + j ≠ z := fun t ht j hj q => by
    have h1 := S.wu t ht j hj
    rw [q, show ω z = 0 from S.wz 0 (by decide) (by decide)] at h1
    omega
  have EB : ∀ b, b < n → ∀ j, j < 3 → (th_w μ' z 7 (nI (nt + 1))) (B b + j) = μ (B b + j) := fun b hb j hj => by
    have := bN b hb
    exact E _ (by omega) (bz b hb j hj)
  have EU : ∀ t, t < nt → ∀ j, j < 4 → (th_w μ' z 7 (nI (nt + 1))) (U t + j) = μ (U t + j) := fun t ht j hj => by
    have := uN t ht
    exact E _ (by omega) (uz t ht j hj)
  refine ⟨by rw [ap 1 (by decide)]; exact S.newT hn he (fun q hq => ⟨(F q hq).1, (F q hq).2.1, (F q hq).2.2.1⟩) f1 f2 f3 f4 f5 f6, fun p hp => ?_, ⟨?_, fun j hj => ?_⟩, by rw [a0 0 (by decide)]; exact h.nn, by rw [Ez 1 (by decide)]; exact h.xn, fun b hb => ?_, fun b hb => ?_, ?_, ?_, ?_, fun i hi => ?_, th_w_self _ _ _ _, a17, ?_, fun t ht => ?_, ?_⟩
  · rw [E _ (by omega) (by omega)]; exact h.fz p hp
  · rw [E _ (by omega) (by omega)]; exact h.fo
  · rw [E _ (by omega) (by omega)]; exact h.f0 j hj
  · rw [EB b hb 1 (by decide), ap 2 (by decide), ap 3 (by decide), ap 4 (by decide), ap 5 (by decide), ap 6 (by decide), ap 7 (by decide)]; exact h.nw b hb
  · rw [ap 2 (by decide), ap 3 (by decide), ap 4 (by decide), ap 5 (by decide), ap 6 (by decide), ap 7 (by decide)]; exact h.rn b hb
  · rw [E _ (by omega) (by omega), a0 8 (by decide), a0 9 (by decide), a0 11 (by decide), a0 12 (by decide), a0 13 (by decide), a0 10 (by decide), a0 14 (by decide), a0 18 (by decide)]; exact h.lk
  · rw [a0 8 (by decide), a0 9 (by decide), a0 11 (by decide), a0 12 (by decide), a0 13 (by decide), a0 10 (by decide)]; exact h.rl
  · rw [E (z + 5) (by omega) (by omega), E (z + 4) (by omega) (by omega), a0 15 (by decide), ap 8 (by decide)]; exact h.tp
  · rw [E (z + (15 + 2 * i)) (by omega) (by omega), E (z + (16 + 2 * i)) (by omega) (by omega), ap 17 (by decide), ap 18 (by decide), ap 19 (by decide)]; exact h.st i hi
  · rw [a0 18 (by decide)]
    obtain ⟨r, r1, r2⟩ := h.ru
    exact ⟨r, by omega, r2⟩
  · rw [ap 9 (by decide), ap 10 (by decide)]
    by_cases e : t = nt
    · subst e
      rw [hBn]
      obtain ⟨e0, e1, c1, c2, c3, c4, c5, c6, c7, c8, c9, c10, c11, c12, c13⟩ := c
      have k1 : (th_w μ' z 7 (nI (t + 1))) (σ.2.2.2 + 1) = μ' (σ.2.2.2 + 1) := th_w_ne _ _ (by omega)
      have k2 : (th_w μ' z 7 (nI (t + 1))) (σ.2.2.2 + 2) = μ' (σ.2.2.2 + 2) := th_w_ne _ _ (by omega)
      rw [k1, k2]
      exact ⟨e0, e1, e2, c1, c2, f3.2, c3, c4, c5, c6, c7, c8, c9, c10, c11, c12, c13⟩
    · have ht' : t < nt := by omega
      have := uN t ht'
      have hl : (th_wR σ' (z + 8) nt σ.2.2.2).2.1 (U t + 1) = σ.2.1 (U t + 1) := (F _ (by omega)).2.1
      rw [hB t ht', EU t ht' 1 (by decide), EU t ht' 2 (by decide), hl]; exact h.cd t ht'
  · rw [a0 33 (by decide), a0 34 (by decide), Ez 4 (by decide), E (z + 3) (by omega) (by omega), ap 16 (by decide)]
    rcases h.im with q | ⟨q1, no, q2, q3, q4, q5, q6, ⟨r, r1, r2⟩, q8⟩
    · exact Or.inl q
    · exact Or.inr ⟨q1, no, q2, q3, q4, q5, q6, ⟨r, by omega, r2⟩, fun b hb => by rw [EB b (by omega) 2 (by decide)]; exact q8 b hb⟩
end NT
