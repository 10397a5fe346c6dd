section OW
variable {z : Nat} {σ : th_S} {Z Y : th_M} {B U ω : Nat → Nat} {n nt b t : Nat} {μ μ' μX μM A A' A2 : th_M}
theorem owe_lock (h : JX z σ Z B U ω n nt μX A) (g : AG A A2 (A 0 9)) (m : JM z Y μM A2) (hb : b < n) {mi : Int32} (hmi : rg mi 20000) :
    ∃ v μX' μM', f_X10_owed σ μX z (nI b) mi = some (v, μX') ∧ f_X11_owes σ μM (z + 27) (nI b) mi = some (v, μM') ∧ JX z σ Z B U ω n nt μX' A ∧ JM z Y μM' A2 := by
  have S := h.sh
  have hU := S.sx
  have n7 := S.n7
  obtain ⟨r, hr, er⟩ := h.ru
  obtain ⟨f, f12, fx, fm⟩ := far_eq (h.rn b hb).1
  obtain ⟨μ1, p1, p2, p3⟩ := x_names h hb (mi := mi) (w := A 0 9) fx
  have h1 : JX z σ Z B U ω n nt μ1 A := by
    have o9 := S.wz 9 (by decide) (by decide)
    refine h.sc (fun q q1 q2 => p2 q (fun c => q1 (by rw [c, o9]; unfold XSC; omega))) (by rw [p2 _ (by omega)])
  obtain ⟨v, μ2, μ3, a1, a2, a3, a4, a5⟩ := clause_lock h1 g m hb er hr (cl := 0) (by decide) fm p3
  rw [show nI 0 = 0 from rfl] at a1 a2
  obtain ⟨w0, w1, w2, w3, w4, w5⟩ := a3.nw b hb
  obtain ⟨r3, ro, rp, rn, r6, r7⟩ := h.rn b hb
  have l := h.lk
  refine ⟨sOwe (A 1 b) (jmax 0 (mi - (A 4 b + A 5 b))) (jmax 0 (jmin 99 v)) (A 2 b), μ2, μ3, ?_, ?_, a3, a4⟩
  · unfold f_X10_owed
    rw [r_0_0 hU, Option.bind_some, S.oq hb, Option.bind_some, S.b0 hb, Option.bind_some, S.ban hb (by decide), Option.bind_some, r_0_2 hU, Option.bind_some, an_2 hU (by decide), Option.bind_some, c_0 hU, l.2.1, (h.nw b hb).1, p1, Option.bind_some, x_rule h1 er hr, Option.bind_some, r_0_8 hU, Option.bind_some, S.uC hr, a1, b2s, Option.bind_some, S.oq hb, Option.bind_some, Option.bind_some, S.oq hb, Option.bind_some, S.due hb, Option.bind_some, w1, w2, S.owes hb (late_rg hmi ro rp) (price_rg v) (by rw [w3]; exact rn), Option.bind_some, w3]
  · unfold f_X11_owes sOwe
    simp only [r_27_3 hU, Option.bind_some, a_30 hU (show b < 7 by omega), c_27 hU, jm_3 m, g.1 3 (by omega), a2, b2s, r_27_4 hU, a_31 hU (show b < 7 by omega), r_27_5 hU, a_32 hU (show b < 7 by omega), r_27_1 hU, a_28 hU (show b < 7 by omega), r_27_2 hU, a_29 hU (show b < 7 by omega), jm_4 a4, jm_5 a4, jm_1 a4, jm_2 a4, g.1 4 (by omega), g.1 5 (by omega), g.1 1 (by omega), g.1 2 (by omega), i_sub3]
    repeat' split
    all_goals first | rfl | (exfalso; simp_all; done) | simp_all
theorem jmax0_le {v : Int32} {m : Nat} (h : rg v m) (hm : m < 2 ^ 31) : rg (jmax 0 (v - 1)) m := by
  obtain ⟨k, hk, rfl⟩ := h
  rcases Nat.eq_zero_or_pos k with e | e
  · subst e; exact ⟨0, by omega, by decide⟩
  · obtain ⟨j, rfl⟩ : ∃ j, k = j + 1 := ⟨k - 1, by omega⟩
    rw [nI_pred, jmax0 (nI_pos' (by omega))]
    exact ⟨j, by omega, rfl⟩
theorem in_lock (h : JX z σ Z B U ω n nt μX A) (m : JM z Y μM A) (hb : b < n) {mi : Int32} (hmi : rg mi 20000) :
    ∃ μX' μM' A', f_X10_comeIn σ μX z (nI b) mi = some μX' ∧ f_X11_comesIn σ μM (z + 27) (nI b) mi = some μM' ∧ JX z σ Z B U ω n nt μX' A' ∧ JM z Y μM' A' ∧ (∀ b', b' ≠ b → A' 6 b' = A 6 b' ∧ A' 7 b' = A 7 b') ∧ A' 0 10 = A 0 10 := by
  have S := h.sh
  have hU := S.sx
  have n7 := S.n7
  have mA : JM z Y (th_w (th_w μM (z + 33) b 2) (z + 34) b mi) (th_w (th_w A 6 b 2) 7 b mi) := (m.w (p := 6) (k := b) (v := 2) (by decide)).w (p := 7) (by decide)
  have gA : AG A (th_w (th_w A 6 b 2) 7 b mi) (A 0 9) := ⟨fun p hp => by rw [th_w_ne _ _ (by omega), th_w_ne _ _ (by omega)], by rw [th_w_ne _ _ (by decide), th_w_ne _ _ (by decide)], by rw [th_w_ne _ _ (by decide), th_w_ne _ _ (by decide)], by rw [th_w_ne _ _ (by decide), th_w_ne _ _ (by decide)]⟩
  obtain ⟨v, u1, u2, x1, x2, x3, x4⟩ := owe_lock h gA mA hb hmi
  let C1 : th_M := th_w A 0 14 (A 0 14 + v)
  let C2 : th_M := th_w C1 0 13 (jmax 0 (A 0 13 - 1))
  let C3 : th_M := th_w C2 7 b mi
  let C4 : th_M := th_w C3 6 b 2
  have q0 : ∀ p, p ≠ 0 → C2 p = A p := fun p hp => by
    show th_w (th_w A 0 14 (A 0 14 + v)) 0 13 _ p = A p
    rw [th_w_ne _ _ hp, th_w_ne _ _ hp]
  have hC1 : JX z σ Z B U ω n nt (th_w u1 (z + 2) 10 (A 0 14 + v)) C1 := x3.wlake (by omega) (by
    simp only [th_w_at]
    simpa using x3.rl) (by
    simp only [th_w_at]
    simpa using x3.ru)
  have hC2 : JX z σ Z B U ω n nt (th_w (th_w u1 (z + 2) 10 (A 0 14 + v)) (z + 2) 8 (jmax 0 (A 0 13 - 1))) C2 := hC1.wlake (by omega) (by
    obtain ⟨l0, l1, l2, l3, l4, l5, l6, l7⟩ := h.rl
    simp only [C1, th_w_at]
    simp [l0, l1, l2, l3, l4, l6, l7, jmax0_le l5 (by decide)]) (by
    simp only [C1, th_w_at]
    simpa using x3.ru)
  have hC3 : JX z σ Z B U ω n nt (th_w (th_w (th_w u1 (z + 2) 10 (A 0 14 + v)) (z + 2) 8 (jmax 0 (A 0 13 - 1))) (B b + 1) 5 mi) C3 := hC2.wnow hb (by omega) (by
    obtain ⟨c0, c1, c2, c3, c4, c5⟩ := h.rn b hb
    simp only [th_w_at, q0 2 (by decide), q0 3 (by decide), q0 4 (by decide), q0 5 (by decide), q0 6 (by decide), q0 7 (by decide)]
    simp [c0, c1, c2, c3, c4, hmi])
  have hC4 : JX z σ Z B U ω n nt (th_w (th_w (th_w (th_w u1 (z + 2) 10 (A 0 14 + v)) (z + 2) 8 (jmax 0 (A 0 13 - 1))) (B b + 1) 5 mi) (B b + 1) 4 2) C4 := hC3.wnow hb (by omega) (by
    obtain ⟨c0, c1, c2, c3, c4, c5⟩ := h.rn b hb
    simp only [C3, th_w_at, q0 2 (by decide), q0 3 (by decide), q0 4 (by decide), q0 5 (by decide), q0 6 (by decide), q0 7 (by decide)]
    simp [c0, c1, c2, c3, hmi]
    exact ⟨2, by decide, rfl⟩)
  have eX : th_w (th_w (th_w (th_w u1 (z + 2) 10 (A 0 14 + v)) (z + 2) 8 (jmax 0 (A 0 13 - 1))) (B b + 1) 5 mi) (B b + 1) 4 2 = th_w (th_w (th_w (th_w u1 (z + 2) 10 (A 0 14 + v)) (z + 2) 8 (jmax 0 (A 0 13 - 1))) (B b + 1) 4 2) (B b + 1) 5 mi := by
    funext p k
    simp only [th_w_at]
    by_cases c : k = 4 <;> by_cases d : k = 5 <;> simp [c, d]
  have eM : th_w (th_w (th_w (th_w A 6 b 2) 7 b mi) 0 14 (A 0 14 + v)) 0 13 (jmax 0 (A 0 13 - 1)) = C4 := by
    funext p k
    simp only [C4, C3, C2, C1, th_w_at]
    by_cases c : p = 6 <;> by_cases d : p = 7 <;> by_cases e : p = 0 <;> simp [c, d, e]
  have l2 := x3.lk
  refine ⟨_, th_w (th_w u2 (z + 27) 14 (A 0 14 + v)) (z + 27) 13 (jmax 0 (A 0 13 - 1)), C4, ?_, ?_, hC4, ?_, ?_, ?_⟩
  · unfold f_X10_comeIn
    have l := h.lk
    rw [r_0_2 hU, Option.bind_some, an_2 hU (by decide), Option.bind_some, c_0 hU, x1, b2s, l.2.2.2.2.2.2.1, sn_2 hU (by decide), Option.bind_some, Option.bind_some, Option.bind_some, an_2 hU (by decide), Option.bind_some, th_w_hit, if_neg (by decide), l2.2.2.2.2.1, sn_2 hU (by decide), Option.bind_some, r_0_0 hU, Option.bind_some, S.oq hb, Option.bind_some, S.b0 hb, Option.bind_some, S.bsn hb (by decide), Option.bind_some, Option.bind_some, S.oq hb, Option.bind_some, S.b0 hb, Option.bind_some, S.bsn hb (by decide), Option.bind_some, eX]
  · have x13 : u2 (z + 27) 13 = A 0 13 := by rw [jm_0_13 x4, th_w_ne _ _ (by decide), th_w_ne _ _ (by decide)]
    unfold f_X11_comesIn
    rw [r_27_6 hU, Option.bind_some, s_33 hU (by omega), Option.bind_some, r_27_7 hU, Option.bind_some, s_34 hU (by omega), Option.bind_some, i_27 hU, Option.bind_some, c_27 hU, x2, b2s, jm_0_14 mA, th_w_ne _ _ (by decide), th_w_ne _ _ (by decide), p_27 hU, Option.bind_some, i_27 hU, Option.bind_some, th_w_hit, if_neg (by decide), x13, p_27 hU, Option.bind_some]
  · rw [← eM]
    exact (x4.w (p := 0) (by decide)).w (p := 0) (by decide)
  · intro b' hb'
    simp only [C4, C3, C2, C1, th_w_at]
    simp [hb']
  · simp only [C4, C3, C2, C1, th_w_at]
    simp
end OW
