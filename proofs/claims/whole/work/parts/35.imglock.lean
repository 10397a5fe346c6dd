section IL
variable {z : Nat} {σ : th_S} {Z Y : th_M} {B U ω : Nat → Nat} {n nt b t : Nat} {μ μ' μX μM A A' A2 : th_M} {K : Nat → Int32}
theorem image_lock (h : JX z σ Z B U ω n nt μX A) (m : JM z Y μM A) : LK z σ Z Y B U ω n nt (f_X10_image σ μX z) (f_X11_image σ μM (z + 27)) := by
  have S := h.sh
  have hU := S.sx
  have n7 := S.n7
  have t6 := S.t6.2
  -- the class
  let μ1 : th_M := va_up μX (z + 3) (fun k => if k < 12 then μX (z + 2) k else μX (z + 3) k)
  have n1 : ∀ q, q ≠ z + 3 → μ1 q = μX q := fun q hq => up_ne _ _ hq
  obtain ⟨u, p1, p2, p3, p4, p5⟩ := x_img S n 0 fu μ1 (Nat.zero_add _) (by unfold fu; omega) (by rw [n1 _ (by omega)]; exact h.xn)
  have hX : f_X10_image σ μX z = some (nI n, u) := by
    unfold f_X10_image
    rw [r_0_2 hU, Option.bind_some, r_0_3 hU, Option.bind_some]
    unfold oXn
    rw [if_pos ⟨sk_2 hU, sk_3 hU, by rw [sl_2 hU]; decide, by rw [sl_3 hU]; decide⟩, Option.bind_some]
    exact p1
  -- the reference
  have m0 : JM z Y (th_w (th_w μM (z + 27) 33 1) (z + 27) 34 (nI n)) (th_w (th_w A 0 33 1) 0 34 (nI n)) := (m.w (p := 0) (by decide)).w (p := 0) (by decide)
  obtain ⟨w, q1, q2, q3, q4, q5⟩ := m_img hU n7 n 0 fu (th_w (th_w μM (z + 27) 33 1) (z + 27) 34 (nI n)) (Nat.zero_add _) (by unfold fu; omega) (by rw [th_w_hit, if_neg (by decide), th_w_hit, if_neg (by decide), jm_0_0 m, h.nn])
  have hM : f_X11_image σ μM (z + 27) = some (nI n, w) := by
    unfold f_X11_image
    rw [p_27 hU, Option.bind_some, i_27 hU, Option.bind_some, p_27 hU, Option.bind_some, th_w_hit, if_neg (by decide), jm_0_0 m, h.nn]
    exact q1
  have mw := m0.row (μ' := w) (p := 16) (by decide) q2
  have r0 : ∀ p, p ≠ 0 → p ≠ 16 → rowA (th_w (th_w A 0 33 1) 0 34 (nI n)) 16 (w (z + (27 + 16))) p = A p := fun p h1 h2 => by rw [rowA_ne _ _ h2, th_w_ne _ _ h1, th_w_ne _ _ h1]
  have s0 : ∀ k, k ≠ 33 → k ≠ 34 → rowA (th_w (th_w A 0 33 1) 0 34 (nI n)) 16 (w (z + (27 + 16))) 0 k = A 0 k := fun k h1 h2 => by rw [rowA_ne _ _ (by decide), th_w_hit, if_neg h2, th_w_hit, if_neg h1]
  have s33 : rowA (th_w (th_w A 0 33 1) 0 34 (nI n)) 16 (w (z + (27 + 16))) 0 33 = 1 := by rw [rowA_ne _ _ (by decide), th_w_hit, if_neg (by decide), th_w_self]
  have s34 : rowA (th_w (th_w A 0 33 1) 0 34 (nI n)) 16 (w (z + (27 + 16))) 0 34 = nI n := by rw [rowA_ne _ _ (by decide), th_w_self]
  have s16 : rowA (th_w (th_w A 0 33 1) 0 34 (nI n)) 16 (w (z + (27 + 16))) 16 = w (z + 43) := rowA_eq _ _ _
  generalize rowA (th_w (th_w A 0 33 1) 0 34 (nI n)) 16 (w (z + (27 + 16))) = A' at mw r0 s0 s33 s34 s16
  refine ⟨A', nI n, u, w, hX, hM, ?_, mw⟩
  have V : ∀ q, ω q ≠ 0 → ω q ≠ 3 → (∀ b, b < n → ω q ≠ 1000 + 10 * b + 2) → u q = μX q := fun q h1 h2 h3 => by
    rw [p4 q (fun c => h1 (by rw [c]; exact S.wz 0 (by decide) (by decide))) (fun b _ hb c => h3 b hb (by rw [c]; exact S.wb b hb 2 (by decide))), n1 q (fun c => h2 (by rw [c]; exact S.wz 3 (by decide) (by decide)))]
  have E : ∀ k, k < 48 → (k < 23 ∨ 27 ≤ k) → k ≠ 0 → k ≠ 3 → u (z + k) = μX (z + k) := fun k h1 h2 h3 h4 => V _ (by rw [S.wz k h1 h2]; exact h3) (by rw [S.wz k h1 h2]; exact h4) (fun b hb => by rw [S.wz k h1 h2]; omega)
  have EB : ∀ b, b < n → u (B b + 1) = μX (B b + 1) := fun b hb => V _ (by rw [S.wb b hb 1 (by decide)]; omega) (by rw [S.wb b hb 1 (by decide)]; omega) (fun b' hb' => by rw [S.wb b hb 1 (by decide)]; omega)
  have EU : ∀ t, t < nt → ∀ j, j < 4 → u (U t + j) = μX (U t + j) := fun t ht j hj => V _ (by rw [S.wu t ht j hj]; omega) (by rw [S.wu t ht j hj]; omega) (fun b' hb' => by rw [S.wu t ht j hj]; omega)
  have E0 : ∀ j, j ≠ 4 → u z j = μX z j := fun j hj => by rw [p3 j hj, n1 _ (by omega)]
  have E3 : ∀ k, k < 12 → u (z + 3) k = μX (z + 2) k := fun k hk => by
    rw [p4 (z + 3) (by omega) (fun b _ hb q => S.iz hb (j := 2) (k := 3) (by decide) (by decide) (by decide) q.symm)]
    show va_up μX (z + 3) _ (z + 3) k = _
    rw [up_at, if_pos hk]
  have E2 : ∀ b, b < n → ∀ j, j < 6 → u (B b + 2) j = μX (B b + 1) j := fun b hb j hj => by rw [p5 b (by omega) hb j hj, n1 _ (S.iz hb (j := 1) (k := 3) (by decide) (by decide) (by decide))]
  have g : ∀ p, p ≠ 27 → (th_w (th_w μM (z + 27) 33 1) (z + 27) 34 (nI n)) (z + p) = μM (z + p) := fun p hp => by rw [th_w_ne _ _ (by omega), th_w_ne _ _ (by omega)]
  have g0 : ∀ k, k ≠ 33 → k ≠ 34 → (th_w (th_w μM (z + 27) 33 1) (z + 27) 34 (nI n)) (z + 27) k = μM (z + 27) k := fun k h1 h2 => by rw [th_w_hit, if_neg h2, th_w_hit, if_neg h1]
  obtain ⟨l0, l1, l2, l3, l4, l5, l6, l7⟩ := h.lk
  obtain ⟨o0, o1, o2, o3, o4, o5, o6, o7⟩ := q5
  rw [g0 _ (by decide) (by decide)] at o0 o1 o2 o3 o4 o5 o6 o7
  rw [jm_0_8 m] at o0
  rw [jm_0_9 m] at o1
  rw [jm_0_10 m] at o2
  rw [jm_0_11 m] at o3
  rw [jm_0_12 m] at o4
  rw [jm_0_13 m] at o5
  rw [jm_0_14 m] at o6
  rw [jm_0_18 m] at o7
  refine ⟨by rw [r0 1 (by decide) (by decide)]; exact S, fun p hp => ?_, ⟨by rw [E 13 (by decide) (by decide) (by decide) (by decide)]; exact h.fo, fun j hj => by rw [E 12 (by decide) (by decide) (by decide) (by decide)]; exact h.f0 j hj⟩, by rw [s0 0 (by decide) (by decide)]; exact h.nn, by rw [E0 1 (by decide)]; exact h.xn, fun b hb => ?_, fun b hb => ?_, ?_, ?_, ?_, fun i hi => ?_, by rw [E0 7 (by decide)]; exact h.xt, by rw [s0 17 (by decide) (by decide)]; exact h.at, by rw [s0 18 (by decide) (by decide)]; exact h.ru, fun t ht => ?_, Or.inr ⟨s33, n, Nat.le_refl _, s34, p2, ?_, ?_, ?_, fun b hb => ?_⟩⟩
  · rw [E (27 + p) (by omega) (by omega) (by omega) (by omega)]; exact h.fz p hp
  · rw [EB b hb, r0 2 (by decide) (by decide), r0 3 (by decide) (by decide), r0 4 (by decide) (by decide), r0 5 (by decide) (by decide), r0 6 (by decide) (by decide), r0 7 (by decide) (by decide)]; exact h.nw b hb
  · rw [r0 2 (by decide) (by decide), r0 3 (by decide) (by decide), r0 4 (by decide) (by decide), r0 5 (by decide) (by decide), r0 6 (by decide) (by decide), r0 7 (by decide) (by decide)]; exact h.rn b hb
  · rw [E 2 (by decide) (by decide) (by decide) (by decide), s0 8 (by decide) (by decide), s0 9 (by decide) (by decide), s0 11 (by decide) (by decide), s0 12 (by decide) (by decide), s0 13 (by decide) (by decide), s0 10 (by decide) (by decide), s0 14 (by decide) (by decide), s0 18 (by decide) (by decide)]; exact h.lk
  · rw [s0 8 (by decide) (by decide), s0 9 (by decide) (by decide), s0 11 (by decide) (by decide), s0 12 (by decide) (by decide), s0 13 (by decide) (by decide), s0 10 (by decide) (by decide)]; exact h.rl
  · rw [E 5 (by decide) (by decide) (by decide) (by decide), E 4 (by decide) (by decide) (by decide) (by decide), s0 15 (by decide) (by decide), r0 8 (by decide) (by decide)]; exact h.tp
  · rw [E (15 + 2 * i) (by omega) (by omega) (by omega) (by omega), E (16 + 2 * i) (by omega) (by omega) (by omega) (by omega), r0 17 (by decide) (by decide), r0 18 (by decide) (by decide), r0 19 (by decide) (by decide)]; exact h.st i hi
  · rw [EU t ht 1 (by decide), EU t ht 2 (by decide), r0 9 (by decide) (by decide), r0 10 (by decide) (by decide)]; exact h.cd t ht
  · rw [s16, E3 4 (by decide), E3 5 (by decide), E3 6 (by decide), E3 7 (by decide), E3 8 (by decide), E3 9 (by decide), E3 10 (by decide), E3 11 (by decide), o0, o1, o2, o3, o4, o5, o6, o7]
    exact ⟨l0, l1, l2, l3, l4, l5, l6, l7⟩
  · rw [s16, o0, o1, o2, o3, o4, o5]
    obtain ⟨c0, c1, c2, c3, c4, c5, c6, c7⟩ := h.rl
    exact ⟨c0, c1, c2, c3, c4, c5, c6, c7⟩
  · rw [s16, o7]; exact h.ru
  · obtain ⟨d0, d1, d2, d3, d4, d5⟩ := q3 b (by omega) hb
    rw [g 30 (by decide), jm_3 m] at d0
    rw [g 31 (by decide), jm_4 m] at d1
    rw [g 32 (by decide), jm_5 m] at d2
    rw [g 29 (by decide), jm_2 m] at d3
    rw [g 33 (by decide), jm_6 m] at d4
    rw [g 34 (by decide), jm_7 m] at d5
    have d0' : w (z + 43) (6 * b + 0) = A 3 b := d0
    rw [s16, d0', d0, d1, d2, d3, d4, d5, E2 b hb 0 (by decide), E2 b hb 1 (by decide), E2 b hb 2 (by decide), E2 b hb 3 (by decide), E2 b hb 4 (by decide), E2 b hb 5 (by decide)]
    exact ⟨h.nw b hb, h.rn b hb⟩
end IL
