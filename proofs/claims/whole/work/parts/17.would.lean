/-! a clause, WOULD COME and OWES in lockstep -/
section WD
variable {z : Nat} {σ : th_S} {Z Y : th_M} {B U ω : Nat → Nat} {n nt b t : Nat} {μ μ' μX μM A A2 : th_M}
theorem th_w_id (A : th_M) (a k : Nat) : th_w A a k (A a k) = A := by
  funext q j
  rw [th_w_at]
  by_cases c : q = a ∧ j = k
  · rw [if_pos c, c.1, c.2]
  · rw [if_neg c]
theorem i_sub3 (a b c : Int32) : a - b - c = a - (b + c) := by
  rw [Int32.sub_eq_add_neg, Int32.sub_eq_add_neg, Int32.sub_eq_add_neg, Int32.neg_add, Int32.sub_eq_add_neg, Int32.add_assoc]
def AG (A A2 : th_M) (w : Int32) : Prop := (∀ p, p = 1 ∨ p = 2 ∨ p = 3 ∨ p = 4 ∨ p = 5 ∨ p = 9 ∨ p = 10 → A2 p = A p) ∧ A2 0 8 = A 0 8 ∧ A2 0 18 = A 0 18 ∧ A2 0 9 = w
theorem AG.refl (A : th_M) : AG A A (A 0 9) := ⟨fun _ _ => rfl, rfl, rfl, rfl⟩
theorem AG.wind (A : th_M) (w : Int32) : AG A (th_w A 0 9 w) w := ⟨fun p hp => th_w_ne _ _ (by omega), by rw [th_w_at, if_neg (by decide)], by rw [th_w_at, if_neg (by decide)], th_w_self _ _ _ _⟩
theorem x_clause (h : JX z σ Z B U ω n nt μX A) {r cl : Nat} (hn : r < nt) (hcl : cl < 3) : ∃ s k e, s + k = e ∧ e ≤ σ.2.1 (U r + 1) ∧ μX (U r + 2) cl = nI e ∧ A 10 (4 * r + cl) = nI s ∧ A 10 (4 * r + cl + 1) = nI e ∧ hg (fun i => A 9 (170 * r + i)) k s 0 ∧ (∀ i, i < e → μX (U r + 1) i = tk (A 9 (170 * r + i))) ∧
    f_X5_value σ μX (U r) (nI cl) (z + 9) = f_X5_value_b22 fu σ (th_w μX (U r) 3 0) (U r) (nI cl) (z + 9) (nI s) := by
  have S := h.sh
  obtain ⟨e0, e1, e2, l1, l2, l3, u0, u1, u2, a0, a1, a2, a3, hc, g0, g1, g2⟩ := h.cd r hn
  rcases (by omega : cl = 0 ∨ cl = 1 ∨ cl = 2) with q | q | q <;> subst q
  · refine ⟨0, e0, e0, by omega, by omega, u0, a0, a1, g0, fun i hi => hc i (by omega), ?_⟩
    unfold f_X5_value
    rw [S.up hn, Option.bind_some, if_pos (show nI 0 = 0 from by decide)]
    exact congrArg (f_X5_value_b22 fu σ (th_w μX (U r) 3 0) (U r) (nI 0) (z + 9)) (show (0 : Int32) = nI 0 from rfl)
  · refine ⟨e0, e1 - e0, e1, by omega, by omega, u1, a1, a2, g1, fun i hi => hc i (by omega), ?_⟩
    unfold f_X5_value
    rw [S.up hn, Option.bind_some, if_neg (by decide), S.ur1 hn, Option.bind_some, show nI 1 - 1 = nI 0 from by decide, S.u2a hn (by decide), Option.bind_some, th_w_ne _ _ (by omega), u0]
  · refine ⟨e1, e2 - e1, e2, by omega, by omega, u2, a2, a3, g2, fun i hi => hc i (by omega), ?_⟩
    unfold f_X5_value
    rw [S.up hn, Option.bind_some, if_neg (by decide), S.ur1 hn, Option.bind_some, show nI 2 - 1 = nI 1 from by decide, S.u2a hn (by decide), Option.bind_some, th_w_ne _ _ (by omega), u1]
theorem clause_lock (h : JX z σ Z B U ω n nt μX A) {w cell mi : Int32} (g : AG A A2 w) (m : JM z Y μM A2) (hb : b < n) {r cl f : Nat} (hr : A 0 18 = nI r) (hn : r < nt) (hcl : cl < 3) (hf : f_X11_far cell 0 = some (nI f)) (hN : ∀ j, j < 6 → μX (z + 9) j = sNm A b cell mi w (nI f) j) :
    ∃ v μX' μM', f_X5_value σ μX (U r) (nI cl) (z + 9) = some (v, μX') ∧ f_X11_rules σ μM (z + 27) (nI cl) (nI b) cell mi = some (v, μM') ∧ JX z σ Z B U ω n nt μX' A ∧ JM z Y μM' A2 ∧ (∀ q, q ≠ U r → q ≠ U r + 3 → μX' q = μX q) := by
  have S := h.sh
  have hU := S.sx
  have n7 := S.n7
  have t6 := S.t6.2
  obtain ⟨s, k, e, hk, hel, x1, x2, x3, x4, x5, x6⟩ := x_clause h hn hcl
  have e160 : e ≤ 160 := by have := (S.u1 r hn).2; omega
  have s9 : ∀ (μ : th_M) (v : Int32), oS σ μ (z + 39) 3 v = some (th_w μ (z + 39) 3 v) := fun μ v => s_39 hU (b := 3) (by decide)
  let μ6 : th_M := th_w (th_w (th_w (th_w (th_w (th_w μM (z + 39) 0 (nI f)) (z + 39) 1 w) (z + 39) 2 (mi - A 4 b - A 5 b)) (z + 39) 3 (sHid (A 0 8) cell)) (z + 39) 4 (nI b)) (z + 39) 5 mi
  have f6 : ∀ q, q ≠ z + 39 → μ6 q = μM q := by
    intro q hq
    simp only [μ6, th_w_ne _ _ hq]
  have m6 : JM z Y μ6 A2 := m.sc (fun q _ q2 _ _ _ _ => f6 q q2)
  have r18 : μ6 (z + 27) 18 = nI r := by rw [jm_0_18 m6, g.2.2.1, hr]
  have i10 : 4 * nI r = nI (4 * r) := (Int32.ofNat_mul 4 r).symm
  have b10 : ∀ j, μ6 (z + 37) j = A 10 j := fun j => by rw [jm_10 m6, g.1 10 (by omega)]
  have tail : f_X11_rules_b81 σ (th_w (th_w (th_w μM (z + 39) 0 (nI f)) (z + 39) 1 w) (z + 39) 2 (mi - A 4 b - A 5 b)) (z + 27) (nI cl) (nI b) mi (z + 39) 3 (sHid (A 0 8) cell) = f_X11_rules_b132 fu σ μ6 (z + 27) (nI e) (nI 0) (nI s) := by
    unfold f_X11_rules_b81
    rw [s9, Option.bind_some, r_27_28 hU, Option.bind_some, sn_39 hU (by decide), Option.bind_some, Option.bind_some, sn_39 hU (by decide), Option.bind_some, r_27_20 hU, Option.bind_some, i_27 hU, Option.bind_some]
    show (oA σ μ6 (z + 37) ((4 * μ6 (z + 27) 18 + nI cl) + 1)).bind _ = _
    rw [r18, i10, nI_add, nI_1, a_37 hU (by omega), Option.bind_some, Option.bind_some, Option.bind_some]
    show (oA σ μ6 (z + 37) (4 * μ6 (z + 27) 18 + nI cl)).bind _ = _
    rw [r18, i10, nI_add, a_37 hU (by omega), Option.bind_some, b10, b10, x3, x2]
    exact congrArg (fun y => f_X11_rules_b132 fu σ μ6 (z + 27) (nI e) y (nI s)) (show (0 : Int32) = nI 0 from rfl)
  have hM : f_X11_rules σ μM (z + 27) (nI cl) (nI b) cell mi = f_X11_rules_b132 fu σ μ6 (z + 27) (nI e) (nI 0) (nI s) := by
    rw [← tail]
    have e4 : ∀ v, (th_w (th_w μM (z + 39) 0 (nI f)) (z + 39) 1 v) (z + 31) b = A 4 b := fun v => by rw [th_w_ne _ _ (by omega), th_w_ne _ _ (by omega), jm_4 m, g.1 4 (by omega)]
    have e5 : ∀ v, (th_w (th_w μM (z + 39) 0 (nI f)) (z + 39) 1 v) (z + 32) b = A 5 b := fun v => by rw [th_w_ne _ _ (by omega), th_w_ne _ _ (by omega), jm_5 m, g.1 5 (by omega)]
    have e9 : (th_w μM (z + 39) 0 (nI f)) (z + 27) 9 = w := by rw [th_w_ne _ _ (by omega), jm_0_9 m, g.2.2.2]
    have e8 : ∀ v u, (th_w (th_w (th_w μM (z + 39) 0 (nI f)) (z + 39) 1 v) (z + 39) 2 u) (z + 27) 8 = A 0 8 := fun v u => by rw [th_w_ne _ _ (by omega), th_w_ne _ _ (by omega), th_w_ne _ _ (by omega), jm_0_8 m, g.2.1]
    unfold f_X11_rules
    rw [r_27_28 hU, Option.bind_some, hf, Option.bind_some, sn_39 hU (by decide), Option.bind_some, Option.bind_some, i_27 hU, Option.bind_some, e9, sn_39 hU (by decide), Option.bind_some, Option.bind_some, r_27_4 hU, Option.bind_some, a_31 hU (by omega), Option.bind_some, e4, r_27_5 hU, Option.bind_some, a_32 hU (by omega), Option.bind_some, e5, sn_39 hU (by decide), Option.bind_some, Option.bind_some, i_27 hU, Option.bind_some, e8]
    unfold sHid
    by_cases c : cell / 8 = A 0 8 / 8
    · rw [if_pos c, if_pos c, Option.bind_some]
      by_cases d : jrem cell 8 ≤ jrem (A 0 8) 8
      · rw [if_pos d, if_pos d]
      · rw [if_neg d, if_neg d]
    · rw [if_neg c, if_neg c]
  have w1 : z + 9 ≠ U r := fun q => h.uz hn (j := 0) (k := 9) (by decide) (by decide) (by decide) q.symm
  have w2 : z + 9 ≠ U r + 3 := fun q => h.uz hn (j := 3) (k := 9) (by decide) (by decide) (by decide) q.symm
  obtain ⟨v, μX', μM', a1, a2, a3, a4⟩ := ev_lock S hn (c := fun i => A 9 (170 * r + i)) (r := r) (cl := cl) (e := e) (by omega) hcl hel w1 w2 k s 0 fu fu (th_w μX (U r) 3 0) μ6 (by decide) (by unfold fu; omega) (by unfold fu; omega) hk x4
    (fun j hj => by rw [th_w_ne _ _ (by omega)]; exact x5 j hj)
    (fun j hj => by rw [jm_9 m6, g.1 9 (by omega)]) r18 (by rw [th_w_ne _ _ (by omega)]; exact x1) (by rw [th_w_self]; rfl) (fun j hj => absurd hj (by omega))
    (fun j hj => by
      rw [th_w_ne _ _ w1, hN j hj]
      simp only [μ6, th_w_hit]
      unfold sNm
      rcases (by omega : j = 0 ∨ j = 1 ∨ j = 2 ∨ j = 3 ∨ j = 4 ∨ j = 5) with q | q | q | q | q | q <;> subst q <;> first | rfl | exact (i_sub3 _ _ _).symm)
  have F : ∀ q, q ≠ U r → q ≠ U r + 3 → μX' q = μX q := fun q q1 q2 => by rw [a3 q q1 q2, th_w_ne _ _ q1]
  have o0 := S.wu r hn 0 (by decide)
  have o3 := S.wu r hn 3 (by decide)
  refine ⟨v, μX', μM', by rw [x6]; exact a1, by rw [hM]; exact a2, h.sc (fun q q1 q2 => F q (fun c => q1 ?_) (fun c => q1 ?_)) ?_, m6.sc (fun q q1 _ _ _ _ _ => a4 q q1), F⟩
  · rw [c, show U r = U r + 0 from rfl, o0]; unfold XSC; omega
  · rw [c, o3]; unfold XSC; omega
  · rw [F (z + 4) (fun q => h.uz hn (j := 0) (k := 4) (by decide) (by decide) (by decide) q.symm) (fun q => h.uz hn (j := 3) (k := 4) (by decide) (by decide) (by decide) q.symm)]
end WD
