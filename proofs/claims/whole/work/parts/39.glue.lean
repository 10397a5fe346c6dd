section GL
variable {z : Nat} {σ : th_S} {Z Y : th_M} {B U ω : Nat → Nat} {n nt b t : Nat} {μ μ' μX μM A A' A2 : th_M} {K : Nat → Int32}
/-- the reference's cells are other ones: the class's picture stands -/
theorem JX.mm (h : JX z σ Z B U ω n nt μ A) (e : ∀ q, (q < z + 27 ∨ z + 48 ≤ q) → μ' q = μ q) : JX z σ (fun p => if p = 21 then μ' (z + 13) else μ' (z + (27 + p))) B U ω n nt μ' A := by
  have S := h.sh
  have n7 := S.n7
  have t6 := S.t6.2
  have V : ∀ q, (ω q < 27 ∨ 48 ≤ ω q) → μ' q = μ q := fun q hq => e q (by
    by_cases c : q < z + 27 ∨ z + 48 ≤ q
    · exact c
    · have := S.wz (q - z) (by omega) (by omega)
      rw [show z + (q - z) = q by omega] at this
      omega)
  have E : ∀ k, k < 23 → μ' (z + k) = μ (z + k) := fun k h1 => V _ (by rw [S.wz k (by omega) (by omega)]; omega)
  have EB : ∀ b, b < n → ∀ j, j < 3 → μ' (B b + j) = μ (B b + j) := fun b hb j hj => V _ (by rw [S.wb b hb j hj]; omega)
  have EU : ∀ t, t < nt → ∀ j, j < 4 → μ' (U t + j) = μ (U t + j) := fun t ht j hj => V _ (by rw [S.wu t ht j hj]; omega)
  have E0 : μ' z = μ z := E 0 (by decide)
  refine ⟨S, fun p hp => ?_, ?_, h.nn, by rw [E0]; exact h.xn, fun b hb => ?_, h.rn, ?_, h.rl, ?_, fun i hi => ?_, by rw [E0]; exact h.xt, h.at, h.ru, fun t ht => ?_, ?_⟩
  · show _ = if p = 21 then _ else _
    rw [if_neg (by omega)]
  · exact ⟨by show _ = if 21 = 21 then _ else _; rw [if_pos rfl], fun j hj => by rw [E 12 (by decide)]; exact h.f0 j hj⟩
  · rw [EB b hb 1 (by decide)]; exact h.nw b hb
  · rw [E 2 (by decide)]; exact h.lk
  · rw [E 5 (by decide), E 4 (by decide)]; exact h.tp
  · rw [E (15 + 2 * i) (by omega), E (16 + 2 * i) (by omega)]; exact h.st i hi
  · rw [EU t ht 1 (by decide), EU t ht 2 (by decide)]; exact h.cd t ht
  · rw [E0, E 3 (by decide)]
    rcases h.im with q | ⟨q1, no, q2, q3, q4, q5, q6, q7, q8⟩
    · exact Or.inl q
    · exact Or.inr ⟨q1, no, q2, q3, q4, q5, q6, q7, fun b hb => by rw [EB b (by omega) 2 (by decide)]; exact q8 b hb⟩
/-- a call's two answers, one behind the other in one memory -/
theorem step_of {fX fM : th_M → Option (Int32 × th_M)} (H : ∀ (Z Y μX μM : th_M), JX z σ Z B U ω n nt μX A → JM z Y μM A → Z 21 = Y (z + 42) → ∃ n', LW z σ Z Y B U ω n' nt (fX μX) (fM μM))
    (h : JX z σ Z B U ω n nt μ A) (m : JM z Y μ A) (hzy : Z 21 = Y (z + 42)) :
    ∃ v u w n' Z' Y' A', fX μ = some (v, u) ∧ fM u = some (v, w) ∧ JX z σ Z' B U ω n' nt w A' ∧ JM z Y' w A' ∧ Z' 21 = Y' (z + 42) := by
  obtain ⟨n1, A1, Z1, Y1, z1, y1, e1, v, u, w0, x1, x2, hX1, hM1⟩ := H Z Y μ μ h m hzy
  have uM : ∀ p, p ≤ 20 → u (z + (27 + p)) = μ (z + (27 + p)) := fun p hp => by rw [hX1.fz p hp, z1 p hp, h.fz p hp]
  have m2 : JM z u u A := ⟨fun p k hp hs => by rw [uM p hp]; exact m.1 p k hp hs, fun _ _ => rfl⟩
  have e2 : Z 21 = u (z + 42) := by rw [hzy, ← m.2 (z + 42) (Or.inr (Or.inr rfl))]; exact (uM 15 (by decide)).symm
  obtain ⟨n2, A2, Z2, Y2, z2, y2, e3, v2, u2, w, x3, x4, hX2, hM2⟩ := H Z u μ u h m2 e2
  have e4 : v2 = v ∧ u2 = u := by
    rw [x1] at x3
    have := Option.some.inj x3
    exact ⟨(congrArg Prod.fst this).symm, (congrArg Prod.snd this).symm⟩
  obtain ⟨rfl, rfl⟩ := e4
  have ew : ∀ q, (q < z + 27 ∨ z + 48 ≤ q) → w q = u2 q := fun q hq => by rw [hM2.2 q (by omega), y2 q hq]
  refine ⟨v2, u2, w, n2, _, Y2, A2, x1, x4, hX2.mm ew, hM2, ?_⟩
  show (if 21 = 21 then w (z + 13) else _) = _
  rw [if_pos rfl, ew _ (by omega), hX2.fo, e3]
end GL
