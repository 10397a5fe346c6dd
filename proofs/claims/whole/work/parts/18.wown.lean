section WO
variable {z : Nat} {σ : th_S} {Z Y : th_M} {B U ω : Nat → Nat} {n nt b t : Nat} {μ μ' μX μM A A2 : th_M} {K : Nat → Int32}
theorem nI_mul (a b : Nat) : nI a * nI b = nI (a * b) := (Int32.ofNat_mul a b).symm
theorem nI_div {a b : Nat} (ha : a < 2 ^ 31) (hb : b < 2 ^ 31) : nI a / nI b = nI (a / b) := by
  have hd : a / b ≤ a := Nat.div_le_self a b
  apply Int32.toInt_inj.mp
  rw [Int32.toInt_div, nI_toInt ha, nI_toInt hb, nI_toInt (by omega), ← Int.ofNat_tdiv]
  generalize a / b = q at *
  rw [Int.bmod_eq_of_le (by omega) (by omega)]
theorem jmax0 {v : Int32} (h : 0 ≤ v) : jmax 0 v = v := by
  unfold jmax
  by_cases c : 0 < v
  · rw [if_pos c]
  · rw [if_neg c]
    exact Int32.le_antisymm h (Int32.not_lt.mp c)
theorem jmax0_rg {v : Int32} {m : Nat} (h : v.toInt ≤ m) (hm : m < 2 ^ 31) : rg (jmax 0 v) m := by
  unfold jmax
  by_cases c : 0 < v
  · rw [if_pos c]
    rw [Int32.lt_iff_toInt_lt] at c
    have a : (0 : Int32).toInt = 0 := by decide
    rw [a] at c
    exact rg_of (by omega) h hm
  · rw [if_neg c]
    exact ⟨0, by omega, by decide⟩
theorem price_rg (v : Int32) : rg (jmax 0 (jmin 99 v)) 99 := by
  refine jmax0_rg ?_ (by decide)
  unfold jmin
  have a : (99 : Int32).toInt = 99 := by decide
  by_cases c : v < 99
  · rw [if_pos c]
    rw [Int32.lt_iff_toInt_lt, a] at c
    omega
  · rw [if_neg c, a]; decide
theorem late_rg {mi o p : Int32} (hm : rg mi 20000) (ho : rg o 999) (hp : rg p 240) : rg (jmax 0 (mi - (o + p))) 20000 := by
  obtain ⟨a, ha, rfl⟩ := hm
  obtain ⟨b, hb, rfl⟩ := ho
  obtain ⟨c, hc, rfl⟩ := hp
  refine jmax0_rg ?_ (by decide)
  rw [nI_add, Int32.toInt_sub, nI_toInt (by omega), nI_toInt (by omega), Int.bmod_eq_of_le (by omega) (by omega)]
  omega
theorem SH.owes (S : SH z σ B U ω n nt K) (hb : b < n) {late price : Int32} (hl : rg late 20000) (hp : rg price 99) (hm : rg (μ (B b + 1) 3) 9) : fD_owesBy σ μ (B b) late price = some (sOwe (K b) late price (μ (B b + 1) 3)) := by
  obtain ⟨k, hk, e⟩ := S.kd b hb
  have hc := S.bc b hb
  have ht := S.tb hb
  have h0 := S.b0 hb
  have h3 := S.ban (μ := μ) hb (k := 3) (by decide)
  obtain ⟨l, hl, el⟩ := hl
  obtain ⟨p, hp, ep⟩ := hp
  obtain ⟨m, hm, em⟩ := hm
  have p1 : (late + 14) / 15 * price = nI ((l + 14) / 15 * p) := by
    rw [el, ep, show (14 : Int32) = nI 14 from rfl, show (15 : Int32) = nI 15 from rfl, nI_add, nI_div (by omega) (by omega), nI_mul]
  have b1 : (l + 14) / 15 * p ≤ 1400 * 99 := Nat.mul_le_mul (by omega) hp
  have j1 : jmax 0 (nI ((l + 14) / 15 * p)) = nI ((l + 14) / 15 * p) := jmax0 (nI_pos' (by omega))
  have d1 : nI ((l + 14) / 15 * p) / 2 = nI ((l + 14) / 15 * p / 2) := nI_div (b := 2) (by omega) (by omega)
  have j2 : jmax 0 (nI ((l + 14) / 15 * p / 2)) = nI ((l + 14) / 15 * p / 2) := jmax0 (nI_pos' (by omega))
  have j3 : jmax 0 (nI ((l + 14) / 15 * p / 2) + 2) = nI ((l + 14) / 15 * p / 2) + 2 := by
    rw [show (2 : Int32) = nI 2 from rfl, nI_add]
    exact jmax0 (nI_pos' (by omega))
  have j4 : jmax 0 (nI ((l + 14) / 15 * p) + nI m) = nI ((l + 14) / 15 * p) + nI m := by
    rw [nI_add]
    exact jmax0 (nI_pos' (by omega))
  rw [e] at hc
  rw [em] at h3
  unfold sOwe
  rw [em, e, p1, d1]
  have z0 : jmax 0 0 = 0 := by decide
  rcases k_cases hk with q | q | q | q | q | q <;> subst q
  · rw [show kcls (nI 0) = 0 from rfl] at hc
    simp [fD_owesBy, f_X0_owesBy, fD_owes, f_X0_owes, hc, p1, j1]
    rfl
  · rw [show kcls (nI 1) = 7 from rfl] at hc
    simp [fD_owesBy, f_X0_owesBy, fD_owes, f_X0_owes, hc, p1, j1]
    rfl
  · rw [show kcls (nI 2) = 4 from rfl] at hc
    simp [fD_owesBy, f_X0_owesBy, fD_owes, f_X4_owes, f_X0_owes, hc, oG, ht, th_b, p1, d1, j2]
    intro c
    exact absurd (by decide) c
  · rw [show kcls (nI 3) = 2 from rfl] at hc
    simp [fD_owesBy, f_X0_owesBy, fD_owes, f_X2_owes, hc, z0]
    rfl
  · rw [show kcls (nI 4) = 1 from rfl] at hc
    simp [fD_owesBy, f_X0_owesBy, fD_owes, f_X1_owes, f_X4_owes, f_X0_owes, hc, oG, ht, th_b, p1, d1, j3]
    rfl
  · rw [show kcls (nI 5) = 3 from rfl] at hc
    show _ = some (if nI ((l + 14) / 15 * p) ≤ 0 then 0 else nI ((l + 14) / 15 * p) + nI m)
    by_cases c : nI ((l + 14) / 15 * p) ≤ 0 <;> simp [fD_owesBy, f_X0_owesBy, fD_owes, f_X3_owes, f_X0_owes, hc, oG, ht, th_b, h0, h3, p1, c, z0, j4]
theorem m_hearing (m : JM z Y μM A) (hU : SX σ z) (hb : b < 7) : f_X11_hearing σ μM (z + 27) (nI b) = some (sHear (A 1 b) (A 0 9) (A 2 b)) := by
  unfold f_X11_hearing sHear
  simp only [i_27 hU, r_27_1 hU, a_28 hU hb, r_27_2 hU, a_29 hU hb, jm_1 m, jm_0_9 m, jm_2 m, Option.bind_some]
  repeat' split
  all_goals first | rfl | (exfalso; simp_all; done) | simp_all
theorem m_rows (m : JM z Y μM A) (hU : SX σ z) (hb : b < 7) : f_X11_rows σ μM (z + 27) (nI b) = some (sRows (A 1 b) (A 0 9) (A 2 b)) := by
  unfold f_X11_rows sRows
  simp only [i_27 hU, r_27_1 hU, a_28 hU hb, r_27_2 hU, a_29 hU hb, jm_1 m, jm_0_9 m, jm_2 m, Option.bind_some]
  repeat' split
  all_goals first | rfl | (exfalso; simp_all; done) | simp_all
theorem would_lock (h : JX z σ Z B U ω n nt μX A) {w cell mi : Int32} (g0 : AG A A2 w) (m : JM z Y μM A2) (hb : b < n) (hc : rg cell 47) (hw : rg w 9) :
    ∃ v μX' μM', f_X10_wouldCome σ μX z (nI b) cell mi w = some (v, μX') ∧ f_X11_would σ μM (z + 27) (nI b) cell mi = some (v, μM') ∧ (v = 0 ∨ v = 1) ∧ JX z σ Z B U ω n nt μX' A ∧ JM z Y μM' A2 := by
  have S := h.sh
  have hU := S.sx
  have n7 := S.n7
  obtain ⟨f, f12, fx, fm⟩ := far_eq hc
  obtain ⟨r, hr, er⟩ := h.ru
  have n3 : μX (B b + 1) 3 = A 2 b := (h.nw b hb).2.2.2.1
  have hx : fD_hearsBy σ μX (B b) w = some (sHear (A 1 b) w (A 2 b)) := by
    have := S.hears (μ := μX) hb hw (by rw [n3]; exact (h.rn b hb).2.2.2.1)
    rw [this, n3]
  have hm : f_X11_hearing σ μM (z + 27) (nI b) = some (sHear (A 1 b) w (A 2 b)) := by
    have := m_hearing m hU (show b < 7 by omega)
    rw [this, g0.1 1 (by omega), g0.1 2 (by omega), g0.2.2.2]
  obtain ⟨μ1, p1, p2, p3⟩ := x_names h hb (mi := mi) (w := w) fx
  have h1 : JX z σ Z B U ω n nt μ1 A := by
    have o9 := S.wz 9 (by decide) (by decide)
    refine h.sc (fun q q1 q2 => p2 q (fun c => q1 (by rw [c, o9]; unfold XSC; omega))) (by rw [p2 _ (by omega)])
  unfold f_X10_wouldCome f_X11_would
  rw [fx, Option.bind_some, r_0_0 hU, Option.bind_some, S.oq hb, Option.bind_some, hx, Option.bind_some, fm, Option.bind_some, c_27 hU, hm, Option.bind_some]
  by_cases c : nI f ≤ sHear (A 1 b) w (A 2 b)
  · rw [if_pos c, if_neg (Int32.not_lt.mpr c), c_0 hU, p1, Option.bind_some, x_rule h1 er hr, Option.bind_some, r_0_8 hU, Option.bind_some, S.uC hr]
    obtain ⟨v, μX1, μM1, a1, a2, a3, a4, a5⟩ := clause_lock h1 g0 m hb er hr (cl := 1) (by decide) fm p3
    rw [show nI 1 = 1 from rfl] at a1 a2
    rw [a1, b2s, a2, b2s]
    by_cases d : v = 0
    · rw [if_pos d, if_pos d]
      exact ⟨0, μX1, μM1, rfl, rfl, Or.inl rfl, a3, a4⟩
    · rw [if_neg d, if_neg d, x_rule a3 er hr, Option.bind_some, Option.bind_some, S.uC hr]
      have w1 : z + 9 ≠ U r := fun q => h.uz hr (j := 0) (k := 9) (by decide) (by decide) (by decide) q.symm
      have w2 : z + 9 ≠ U r + 3 := fun q => h.uz hr (j := 3) (k := 9) (by decide) (by decide) (by decide) q.symm
      obtain ⟨v2, μX2, μM2, b1, b2', b3', b4, b5⟩ := clause_lock a3 g0 a4 hb er hr (cl := 2) (by decide) fm (fun j hj => by rw [a5 _ w1 w2]; exact p3 j hj)
      rw [show nI 2 = 2 from rfl] at b1 b2'
      rw [b1, b2s, b2', b2s]
      by_cases g : v2 = 0
      · rw [if_pos g, if_pos g]
        exact ⟨0, μX2, μM2, rfl, rfl, Or.inl rfl, b3', b4⟩
      · rw [if_neg g, if_neg g]
        exact ⟨1, μX2, μM2, rfl, rfl, Or.inr rfl, b3', b4⟩
  · rw [if_neg c, if_pos (Int32.not_le.mp c)]
    exact ⟨0, μX, μM, rfl, rfl, Or.inl rfl, h, m⟩
theorem JM.same (m : JM z Y μM A) : JM z Y μM (th_w A 0 9 (A 0 9)) := by rw [th_w_id]; exact m
theorem JX.q0 (h : JX z σ Z B U ω n nt μ A) (hb : b < n) {j : Nat} (hj : j < 6) : ((oR σ 10 z 0).bind fun a1 => (oQ σ 13 a1 (nI b)).bind fun a2 => (oB σ a2 0).bind fun a3 => oAn σ μ a3 j) = some (μ (B b + 1) j) := by
  rw [r_0_0 h.sh.sx, Option.bind_some, h.sh.oq hb, Option.bind_some, h.sh.b0 hb, Option.bind_some, h.sh.ban hb hj]
/-- WOULD COME now -/
theorem now_lock (h : JX z σ Z B U ω n nt μX A) (m : JM z Y μM A) (hb : b < n) :
    ∃ v μX' μM', f_X10_wouldComeNow σ μX z (nI b) = some (v, μX') ∧ f_X11_would_ σ μM (z + 27) (nI b) = some (v, μM') ∧ (v = 0 ∨ v = 1) ∧ JX z σ Z B U ω n nt μX' A ∧ JM z Y μM' A := by
  have S := h.sh
  have hU := S.sx
  have n7 := S.n7
  obtain ⟨v, μX', μM', a1, a2, a3, a4, a5⟩ := would_lock h (AG.refl A) m hb (mi := A 0 10) (h.rn b hb).1 h.rl.2.1
  have l := h.lk
  have g : v &&& 1 = v := by rcases a3 with e | e <;> rw [e] <;> decide
  refine ⟨v, μX', μM', ?_, ?_, a3, a4, a5⟩
  · unfold f_X10_wouldComeNow
    rw [r_0_0 hU, Option.bind_some, S.oq hb, Option.bind_some, S.b0 hb, Option.bind_some, S.ban hb (by decide), Option.bind_some, r_0_2 hU, Option.bind_some, an_2 hU (by decide), Option.bind_some, Option.bind_some, an_2 hU (by decide), Option.bind_some, c_0 hU, l.2.2.2.2.2.1, l.2.1, (h.nw b hb).1, a1, b2s]
    unfold oG
    rw [if_pos g]
  · unfold f_X11_would_
    rw [r_27_3 hU, Option.bind_some, a_30 hU (by omega), Option.bind_some, i_27 hU, Option.bind_some, c_27 hU, jm_3 m, jm_0_10 m, a2, b2s]
    unfold oG
    rw [if_pos g]
theorem needs_lock (h : JX z σ Z B U ω n nt μX A) (m : JM z Y μM A) (hb : b < n) : ∃ k, k ≤ 240 ∧ f_X10_needs σ μX z (nI b) = some (nI k) ∧ f_X11_needs σ μM (z + 27) (nI b) = some (nI k) := by
  have S := h.sh
  have hU := S.sx
  have n7 := S.n7
  have l := h.lk
  obtain ⟨f, f12, fx, fm⟩ := far_eq (h.rn b hb).1
  have n3 : μX (B b + 1) 3 = A 2 b := (h.nw b hb).2.2.2.1
  have r2 := (h.rn b hb).2.2.2.1
  have hx : fD_rowsBy σ μX (B b) (A 0 9) = some (sRows (A 1 b) (A 0 9) (A 2 b)) := by
    rw [S.rows (μ := μX) hb h.rl.2.1 (by rw [n3]; exact r2), n3]
  obtain ⟨k, hk, ek⟩ := S.kd b hb
  obtain ⟨w, hw, ew⟩ := h.rl.2.1
  obtain ⟨d, hd, ed⟩ := r2
  obtain ⟨⟨q, hq, eq⟩, -⟩ := sRows_r k (by omega) w (by omega) d (by omega)
  refine ⟨f * q, by have := Nat.mul_le_mul f12 hq; omega, ?_, ?_⟩
  · unfold f_X10_needs
    rw [r_0_0 hU, Option.bind_some, S.oq hb, Option.bind_some, S.b0 hb, Option.bind_some, S.ban hb (by decide), Option.bind_some, (h.nw b hb).1, fx, Option.bind_some, Option.bind_some, S.oq hb, Option.bind_some, r_0_2 hU, Option.bind_some, an_2 hU (by decide), Option.bind_some, l.2.1, hx, Option.bind_some, ek, ew, ed, eq, nI_mul]
  · unfold f_X11_needs
    rw [r_27_3 hU, Option.bind_some, a_30 hU (by omega), Option.bind_some, jm_3 m, fm, Option.bind_some, c_27 hU, m_rows m hU (by omega), Option.bind_some, ek, ew, ed, eq, nI_mul]
end WO
