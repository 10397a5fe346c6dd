section BT
variable {z : Nat} {σ σ' σM : th_S} {Z Y : th_M} {B U ω : Nat → Nat} {n nt b t : Nat} {μ μ' μX μM A A' A2 : th_M} {K : Nat → Int32} {x1 x2 x3 : Int32}
theorem jrem_nI {w c : Nat} (hw : w < 2 ^ 31) (hc : c < 2 ^ 31) : jrem (nI w) (nI c) = nI (w % c) := by
  unfold jrem
  rw [nI_div hw hc, nI_mul]
  have e : nI w = nI (w % c) + nI (w / c * c) := by
    rw [nI_add]
    congr 1
    have := Nat.mod_add_div w c
    rw [Nat.mul_comm] at this
    omega
  rw [e, Int32.add_sub_cancel]
theorem le_nI {a b : Nat} (ha : a < 2 ^ 31) (hb : b < 2 ^ 31) : nI a ≤ nI b ↔ a ≤ b := by
  rw [Int32.le_iff_toInt_le, nI_toInt ha, nI_toInt hb]
  omega
/-- the numbers of a boat -/
def okB (k what time : Int32) : Prop := ∃ j w t, j ≤ 5 ∧ w ≤ 4709 ∧ w % 100 ≤ 9 ∧ 5000 ≤ t ∧ t ≤ 240999 ∧ k = nI j ∧ what = nI w ∧ time = nI t
theorem x_bad (h : ¬ okB x1 x2 x3) : f_X10_boat σ μ z x1 x2 x3 = some (-2, σ, μ) := by
  unfold f_X10_boat
  by_cases a : x1 < 0
  · rw [if_pos a]
  rw [if_neg a]
  by_cases b : 5 < x1
  · rw [if_pos b]
  rw [if_neg b]
  by_cases c : x2 < 0
  · rw [if_pos c]
  rw [if_neg c]
  by_cases d : 0 ≤ x3
  · rw [if_pos d]
    have a' : 0 ≤ x1.toInt := by rw [Int32.lt_iff_toInt_lt, Int32.toInt_zero] at a; omega
    have c' : 0 ≤ x2.toInt := by rw [Int32.lt_iff_toInt_lt, Int32.toInt_zero] at c; omega
    have d' : 0 ≤ x3.toInt := by rw [Int32.le_iff_toInt_le, Int32.toInt_zero] at d; exact d
    have e1 := nI_asI a'
    have e2 := nI_asI c'
    have e3 := nI_asI d'
    have l1 := x1.toInt_lt
    have l2 := x2.toInt_lt
    have l3 := x3.toInt_lt
    generalize x1.toInt.toNat = j at e1
    have b2 : x2.toInt.toNat < 2 ^ 31 := by omega
    have b3 : x3.toInt.toNat < 2 ^ 31 := by omega
    generalize x2.toInt.toNat = w at e2 b2
    generalize x3.toInt.toNat = t at e3 b3
    have hj : j ≤ 5 ∨ ¬ j < 2 ^ 31 := by
      by_cases q : j < 2 ^ 31
      · left
        rw [e1, Int32.not_lt, show (5 : Int32) = nI 5 from rfl, le_nI q (by decide)] at b
        exact b
      · exact Or.inr q
    rw [fit_0, Option.bind_some]
    by_cases p : 0 ≤ x2 / 100 ∧ x2 / 100 ≤ 47
    · rw [if_pos p, if_neg n10, fit_3, Option.bind_some]
      by_cases q : 0 ≤ jrem x2 100 ∧ jrem x2 100 ≤ 9
      · rw [if_pos q, if_neg n10, fit_2, Option.bind_some]
        by_cases r : 5 ≤ x3 / 1000 ∧ x3 / 1000 ≤ 240
        · exfalso
          have p2 := p.2
          have q2 := q.2
          obtain ⟨r1, r2⟩ := r
          rw [e2, show (100 : Int32) = nI 100 from rfl, nI_div b2 (by decide), show (47 : Int32) = nI 47 from rfl, le_nI (by omega) (by decide)] at p2
          rw [e2, show (100 : Int32) = nI 100 from rfl, jrem_nI b2 (by decide), show (9 : Int32) = nI 9 from rfl, le_nI (by omega) (by decide)] at q2
          rw [e3, show (1000 : Int32) = nI 1000 from rfl, nI_div b3 (by decide), show (5 : Int32) = nI 5 from rfl, le_nI (by decide) (by omega)] at r1
          rw [e3, show (1000 : Int32) = nI 1000 from rfl, nI_div b3 (by decide), show (240 : Int32) = nI 240 from rfl, le_nI (by omega) (by decide)] at r2
          have hj5 : ∃ j', j' ≤ 5 ∧ x1 = nI j' := by
            have hh : rg x1 5 := rg_in (lo := 0) ⟨Int32.not_lt.mp a, Int32.not_lt.mp b⟩ (by decide) (by decide)
            exact hh
          obtain ⟨j', hj', ej⟩ := hj5
          exact h ⟨j', w, t, hj', by omega, by omega, by omega, by omega, ej, e2, e3⟩
        · rw [if_neg r, if_pos rfl]
      · rw [if_neg q, if_pos rfl]
    · rw [if_neg p, if_pos rfl]
  · rw [if_neg d]
theorem m_bad (h : ¬ okB x1 x2 x3) : f_X11_boat σ μ t x1 x2 x3 = some (-2, μ) := by
  unfold f_X11_boat
  rw [m_within, m_within, m_within, Option.bind_some, Option.bind_some, Option.bind_some]
  by_cases a : 0 ≤ x1 ∧ x1 ≤ 5
  · rw [if_pos a, if_neg n10]
    by_cases b : 0 ≤ x2 ∧ x2 ≤ 4709
    · rw [if_pos b, if_neg n10]
      by_cases c : 9 < jrem x2 100
      · rw [if_pos c]
      · rw [if_neg c]
        by_cases d : 5000 ≤ x3 ∧ x3 ≤ 240999
        · exfalso
          obtain ⟨j, hj, ej⟩ : rg x1 5 := rg_in a (by decide) (by decide)
          obtain ⟨w, hw, ew⟩ : rg x2 4709 := rg_in b (by decide) (by decide)
          obtain ⟨t, ht, et⟩ : rg x3 240999 := rg_in d (by decide) (by decide)
          have d1 := d.1
          rw [et, show (5000 : Int32) = nI 5000 from rfl, le_nI (by decide) (by omega)] at d1
          rw [ew, show (100 : Int32) = nI 100 from rfl, jrem_nI (by omega) (by decide), Int32.not_lt, show (9 : Int32) = nI 9 from rfl, le_nI (by omega) (by decide)] at c
          exact h ⟨j, w, t, hj, hw, c, d1, ht, ej, ew, et⟩
        · rw [if_neg d, if_pos rfl]
    · rw [if_neg b, if_pos rfl]
  · rw [if_neg a, if_pos rfl]
end BT
