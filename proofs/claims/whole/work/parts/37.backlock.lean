section BL
variable {z : Nat} {σ : th_S} {Z Y : th_M} {B U ω : Nat → Nat} {n nt b t : Nat} {μ μ' μX μM A A' A2 : th_M} {K : Nat → Int32}
theorem SH.less (S : SH z σ B U ω n nt K) {no : Nat} (hn : no ≤ n) : SH z σ B U ω no nt K :=
  ⟨S.sx, fun b hb => S.fl b (by omega), fun b hb => S.bc b (by omega), fun b hb => S.kd b (by omega), fun b hb => S.br b (by omega), fun b hb => S.b1 b (by omega), fun b hb => S.b2 b (by omega), fun b hb => S.bN b (by omega), by have := S.n7; omega, S.wz, fun b hb => S.wb b (by omega), S.wu, S.t6, S.ur, S.uc, S.uf, S.u1, S.u2, S.u3, S.uN⟩
def backA (z : Nat) (w A : th_M) : th_M := fun p k => if p = 0 ∨ (2 ≤ p ∧ p ≤ 7) then w (z + (27 + p)) k else A p k
theorem JM.back (m : JM z Y μ A) (e : ∀ q, q ≠ z + 27 → q ≠ z + 29 → q ≠ z + 30 → q ≠ z + 31 → q ≠ z + 32 → q ≠ z + 33 → q ≠ z + 34 → μ' q = μ q) : JM z Y μ' (backA z μ' A) := by
  refine ⟨fun p k hp hs => ?_, fun q hq => ?_⟩
  · unfold backA
    by_cases c : p = 0 ∨ (2 ≤ p ∧ p ≤ 7)
    · rw [if_pos c]
    · rw [if_neg c, e _ (by omega) (by omega) (by omega) (by omega) (by omega) (by omega) (by omega)]
      exact m.1 p k hp hs
  · rw [e q (by omega) (by omega) (by omega) (by omega) (by omega) (by omega) (by omega)]
    exact m.2 q hq
theorem back_lock (h : JX z σ Z B U ω n nt μX A) (m : JM z Y μM A) : ∃ n', LK z σ Z Y B U ω n' nt (f_X10_back σ μX z) (f_X11_back σ μM (z + 27)) := by
  have S := h.sh
  have hU := S.sx
  have n7 := S.n7
  have t6 := S.t6.2
  rcases h.im with ⟨i1, i2⟩ | ⟨i1, no, i2, i3, i4, i5, i6, i7, i8⟩
  · refine ⟨n, ?_⟩
    unfold f_X10_back f_X11_back
    rw [i_0 hU, Option.bind_some, i2, if_pos rfl, i_27 hU, Option.bind_some, jm_0_33 m, i1, if_pos rfl]
    exact (LA.mk h m _).k
  · refine ⟨no, ?_⟩
    let μ1 : th_M := va_up μX (z + 2) (fun k => if k < 12 then μX (z + 3) k else μX (z + 2) k)
    have n1 : ∀ q, q ≠ z + 2 → μ1 q = μX q := fun q hq => up_ne _ _ hq
    obtain ⟨u, p1, p4, p5⟩ := x_back S i2 no 0 fu (th_w μ1 z 1 (nI no)) (Nat.zero_add _) (by unfold fu; omega) (th_w_self _ _ _ _)
    have hX : f_X10_back σ μX z = some (nI no, u) := by
      unfold f_X10_back
      rw [i_0 hU, Option.bind_some, i4, if_neg (fun q => by have := nI_pos (n := no) (by omega); rw [q] at this; exact this (by decide)), r_0_3 hU, Option.bind_some, r_0_2 hU, Option.bind_some]
      unfold oXn
      rw [if_pos ⟨sk_3 hU, sk_2 hU, by rw [sl_3 hU]; decide, by rw [sl_2 hU]; decide⟩, Option.bind_some]
      show (oI σ μ1 10 z 4).bind _ = _
      rw [i_0 hU, Option.bind_some, n1 z (by omega), i4, p_0 hU, Option.bind_some]
      exact p1
    have m0 : JM z Y (th_w μM (z + 27) 0 (nI no)) (th_w A 0 0 (nI no)) := m.w (p := 0) (by decide)
    obtain ⟨w, q1, q2, q2', q3, -, q5⟩ := m_back hU (show no ≤ 7 by omega) no 0 fu (th_w μM (z + 27) 0 (nI no)) (Nat.zero_add _) (by unfold fu; omega) (th_w_self _ _ _ _)
    have hM : f_X11_back σ μM (z + 27) = some (nI no, w) := by
      unfold f_X11_back
      rw [i_27 hU, Option.bind_some, jm_0_33 m, i1, if_neg n10, i_27 hU, Option.bind_some, jm_0_34 m, i3, p_27 hU, Option.bind_some]
      exact q1
    have mw := m0.back q2
    have old : (th_w μM (z + 27) 0 (nI no)) (z + 43) = A 16 := by funext k; rw [th_w_ne _ _ (by omega), jm_16 m]
    rw [old] at q5
    have r0 : ∀ p, (p = 1 ∨ 8 ≤ p) → backA z w (th_w A 0 0 (nI no)) p = A p := fun p hp => by
      funext k
      unfold backA
      rw [if_neg (by omega), th_w_ne _ _ (by omega)]
    have s : ∀ k, backA z w (th_w A 0 0 (nI no)) 0 k = w (z + 27) k := fun k => by unfold backA; rw [if_pos (by omega)]
    have rr : ∀ p, 2 ≤ p → p ≤ 7 → backA z w (th_w A 0 0 (nI no)) p = w (z + (27 + p)) := fun p h1 h2 => by funext k; unfold backA; rw [if_pos (by omega)]
    have sk : ∀ k, (k = 15 ∨ k = 17 ∨ k = 33 ∨ k = 34) → backA z w (th_w A 0 0 (nI no)) 0 k = A 0 k := fun k hk => by
      rw [s, q2' k (by omega) (by omega) (by omega) (by omega) (by omega) (by omega) (by omega) (by omega), th_w_hit, if_neg (by omega)]
      exact jm_0 m (by unfold scr; omega)
    have s00 : backA z w (th_w A 0 0 (nI no)) 0 0 = nI no := by rw [s, q2' 0 (by decide) (by decide) (by decide) (by decide) (by decide) (by decide) (by decide) (by decide), th_w_self]
    have R2 := rr 2 (by decide) (by decide)
    have R3 := rr 3 (by decide) (by decide)
    have R4 := rr 4 (by decide) (by decide)
    have R5 := rr 5 (by decide) (by decide)
    have R6 := rr 6 (by decide) (by decide)
    have R7 := rr 7 (by decide) (by decide)
    generalize backA z w (th_w A 0 0 (nI no)) = A' at mw r0 s sk s00 R2 R3 R4 R5 R6 R7
    refine ⟨A', nI no, u, w, hX, hM, ?_, mw⟩
    have V : ∀ q, ω q ≠ 0 → ω q ≠ 2 → (∀ b, b < no → ω q ≠ 1000 + 10 * b + 1) → u q = μX q := fun q h1 h2 h3 => by
      rw [p4 q (fun b _ hb c => h3 b hb (by rw [c]; exact S.wb b (by omega) 1 (by decide))), th_w_ne _ _ (fun c => h1 (by rw [c]; exact S.wz 0 (by decide) (by decide))), n1 q (fun c => h2 (by rw [c]; exact S.wz 2 (by decide) (by decide)))]
    have E : ∀ k, k < 48 → (k < 23 ∨ 27 ≤ k) → k ≠ 0 → k ≠ 2 → u (z + k) = μX (z + k) := fun k h1 h2 h3 h4 => V _ (by rw [S.wz k h1 h2]; exact h3) (by rw [S.wz k h1 h2]; exact h4) (fun b hb => by rw [S.wz k h1 h2]; omega)
    have EB : ∀ b, b < no → u (B b + 2) = μX (B b + 2) := fun b hb => V _ (by rw [S.wb b (by omega) 2 (by decide)]; omega) (by rw [S.wb b (by omega) 2 (by decide)]; omega) (fun b' hb' => by rw [S.wb b (by omega) 2 (by decide)]; omega)
    have EU : ∀ t, t < nt → ∀ j, j < 4 → u (U t + j) = μX (U t + j) := fun t ht j hj => V _ (by rw [S.wu t ht j hj]; omega) (by rw [S.wu t ht j hj]; omega) (fun b' hb' => by rw [S.wu t ht j hj]; omega)
    have nzb : ∀ b, b < no → z ≠ B b + 1 := fun b hb q => S.iz (show b < n by omega) (j := 1) (k := 0) (by decide) (by decide) (by decide) q.symm
    have E0 : ∀ j, j ≠ 1 → u z j = μX z j := fun j hj => by rw [p4 z (fun b _ hb => nzb b hb), th_w_hit, if_neg hj, n1 z (by omega)]
    have E01 : u z 1 = nI no := by rw [p4 z (fun b _ hb => nzb b hb), th_w_self]
    have E2 : ∀ k, k < 12 → u (z + 2) k = μX (z + 3) k := fun k hk => by
      rw [p4 (z + 2) (fun b _ hb q => S.iz (show b < n by omega) (j := 1) (k := 2) (by decide) (by decide) (by decide) q.symm), th_w_ne _ _ (by omega)]
      show va_up μX (z + 2) _ (z + 2) k = _
      rw [up_at, if_pos hk]
    have E1 : ∀ b, b < no → ∀ j, j < 6 → u (B b + 1) j = μX (B b + 2) j := fun b hb j hj => by rw [p5 b (by omega) hb j hj, th_w_ne _ _ (show B b + 2 ≠ z from fun q => S.iz (show b < n by omega) (j := 2) (k := 0) (by decide) (by decide) (by decide) q), n1 _ (S.iz (show b < n by omega) (j := 2) (k := 2) (by decide) (by decide) (by decide))]
    obtain ⟨o0, o1, o2, o3, o4, o5, o6, o7⟩ := q5
    have D : ∀ b, b < no → (μX (B b + 2) 0 = A' 3 b ∧ μX (B b + 2) 1 = A' 4 b ∧ μX (B b + 2) 2 = A' 5 b ∧ μX (B b + 2) 3 = A' 2 b ∧ μX (B b + 2) 4 = A' 6 b ∧ μX (B b + 2) 5 = A' 7 b) ∧ (rg (A' 3 b) 47 ∧ rg (A' 4 b) 999 ∧ rg (A' 5 b) 240 ∧ rg (A' 2 b) 9 ∧ rg (A' 6 b) 2 ∧ (A' 6 b ≠ 0 → rg (A' 7 b) 20000)) := by
      intro b hb
      obtain ⟨d0, d1, d2, d3, d4, d5⟩ := q3 b (by omega) hb
      rw [old] at d0 d1 d2 d3 d4 d5
      obtain ⟨e1, e2⟩ := i8 b hb
      have f0 : w (z + (27 + 3)) b = A 16 (6 * b + 0) := d0
      have f1 : w (z + (27 + 4)) b = A 16 (6 * b + 1) := d1
      have f2 : w (z + (27 + 5)) b = A 16 (6 * b + 2) := d2
      have f3 : w (z + (27 + 2)) b = A 16 (6 * b + 3) := d3
      have f4 : w (z + (27 + 6)) b = A 16 (6 * b + 4) := d4
      have f5 : w (z + (27 + 7)) b = A 16 (6 * b + 5) := d5
      rw [R2, R3, R4, R5, R6, R7, f0, f1, f2, f3, f4, f5]
      exact ⟨e1, e2⟩
    refine ⟨by rw [r0 1 (by omega)]; exact S.less i2, fun p hp => ?_, ⟨by rw [E 13 (by decide) (by decide) (by decide) (by decide)]; exact h.fo, fun j hj => by rw [E 12 (by decide) (by decide) (by decide) (by decide)]; exact h.f0 j hj⟩, s00, E01, fun b hb => ?_, fun b hb => (D b hb).2, ?_, ?_, ?_, fun i hi => ?_, by rw [E0 7 (by decide)]; exact h.xt, by rw [sk 17 (by omega)]; exact h.at, by rw [s, o7]; exact i7, fun t ht => ?_, Or.inr ⟨by rw [sk 33 (by omega)]; exact i1, no, Nat.le_refl _, by rw [sk 34 (by omega)]; exact i3, by rw [E0 4 (by decide)]; exact i4, ?_, ?_, ?_, fun b hb => ?_⟩⟩
    · rw [E (27 + p) (by omega) (by omega) (by omega) (by omega)]; exact h.fz p hp
    · rw [E1 b hb 0 (by decide), E1 b hb 1 (by decide), E1 b hb 2 (by decide), E1 b hb 3 (by decide), E1 b hb 4 (by decide), E1 b hb 5 (by decide)]; exact (D b hb).1
    · rw [E2 4 (by decide), E2 5 (by decide), E2 6 (by decide), E2 7 (by decide), E2 8 (by decide), E2 9 (by decide), E2 10 (by decide), E2 11 (by decide), s, s, s, s, s, s, s, s, o0, o1, o2, o3, o4, o5, o6, o7]
      obtain ⟨k0, k1, k2, k3, k4, k5, k6, k7⟩ := i5
      exact ⟨k0, k1, k2, k3, k4, k5, k6, k7⟩
    · rw [s, s, s, s, s, s, o0, o1, o2, o3, o4, o5]
      exact i6
    · rw [E 5 (by decide) (by decide) (by decide) (by decide), E 4 (by decide) (by decide) (by decide) (by decide), sk 15 (by omega), r0 8 (by omega)]; exact h.tp
    · rw [E (15 + 2 * i) (by omega) (by omega) (by omega) (by omega), E (16 + 2 * i) (by omega) (by omega) (by omega) (by omega), r0 17 (by omega), r0 18 (by omega), r0 19 (by omega)]; exact h.st i hi
    · rw [EU t ht 1 (by decide), EU t ht 2 (by decide), r0 9 (by omega), r0 10 (by omega)]; exact h.cd t ht
    · rw [E 3 (by decide) (by decide) (by decide) (by decide), r0 16 (by omega)]; exact i5
    · rw [r0 16 (by omega)]; exact i6
    · rw [r0 16 (by omega)]; exact i7
    · rw [EB b hb, r0 16 (by omega)]; exact i8 b hb
end BL
