/-! RULES: the class's postfix and the reference's are reckoned alike -/
section RL
variable {z : Nat} {σ : th_S} {B U ω : Nat → Nat} {n nt t : Nat} {K : Nat → Int32} {μ : th_M}
theorem SH.ui (S : SH z σ B U ω n nt K) (ht : t < nt) {k : Nat} : oI σ μ 5 (U t) k = some (μ (U t) k) := by
  unfold oI
  rw [if_pos (S.uc t ht)]
theorem SH.up (S : SH z σ B U ω n nt K) (ht : t < nt) {k : Nat} {v : Int32} : oPI σ μ 5 (U t) k v = some (th_w μ (U t) k v) := by
  unfold oPI
  rw [if_pos (S.uc t ht)]
theorem SH.uC (S : SH z σ B U ω n nt K) (ht : t < nt) {α : Type} {x : Option α} : oC σ 5 (U t) x = x := by
  unfold oC
  rw [if_pos (S.uc t ht)]
theorem SH.ur0 (S : SH z σ B U ω n nt K) (ht : t < nt) : oR σ 5 (U t) 0 = some (U t + 1) := by
  unfold oR
  rw [if_pos (S.uc t ht)]
  exact (S.uf t ht).1
theorem SH.ur1 (S : SH z σ B U ω n nt K) (ht : t < nt) : oR σ 5 (U t) 1 = some (U t + 2) := by
  unfold oR
  rw [if_pos (S.uc t ht)]
  exact (S.uf t ht).2.1
theorem SH.ur2 (S : SH z σ B U ω n nt K) (ht : t < nt) : oR σ 5 (U t) 2 = some (U t + 3) := by
  unfold oR
  rw [if_pos (S.uc t ht)]
  exact (S.uf t ht).2.2
theorem SH.uL (S : SH z σ B U ω n nt K) (ht : t < nt) : oL σ (U t + 3) = some 31 := by
  unfold oL
  rw [(S.u3 t ht).1, (S.u3 t ht).2]
  rfl
theorem SH.u3s (S : SH z σ B U ω n nt K) (ht : t < nt) {h : Nat} {v : Int32} (hh : h < 31) : oS σ μ (U t + 3) (nI h) v = some (th_w μ (U t + 3) h v) := oS_nI (S.u3 t ht).1 (S.u3 t ht).2 (by decide) hh
theorem SH.u3a (S : SH z σ B U ω n nt K) (ht : t < nt) {h : Nat} (hh : h < 31) : oA σ μ (U t + 3) (nI h) = some (μ (U t + 3) h) := oA_nI (S.u3 t ht).1 (S.u3 t ht).2 (by decide) hh
theorem SH.u2a (S : SH z σ B U ω n nt K) (ht : t < nt) {h : Nat} (hh : h < 3) : oA σ μ (U t + 2) (nI h) = some (μ (U t + 2) h) := oA_nI (S.u2 t ht).1 (S.u2 t ht).2 (by decide) hh
theorem SH.u1a (S : SH z σ B U ω n nt K) (ht : t < nt) {i : Nat} (hi : i < σ.2.1 (U t + 1)) : oA σ μ (U t + 1) (nI i) = some (μ (U t + 1) i) := oA_nI (S.u1 t ht).1 rfl (by have := (S.u1 t ht).2; omega) hi
theorem SH.push (S : SH z σ B U ω n nt K) (ht : t < nt) {h : Nat} {v : Int32} (hm : μ (U t) 3 = nI h) (hh : h < 31) : f_X5_push σ μ (U t) v = some (th_w (th_w μ (U t + 3) h v) (U t) 3 (nI (h + 1))) := by
  unfold f_X5_push
  rw [S.ui ht, Option.bind_some, S.ur2 ht, Option.bind_some, S.uL ht, Option.bind_some, hm, if_neg (show ¬ (31 : Int32) ≤ nI h from nI_ge hh (by decide)), Option.bind_some, Option.bind_some, S.u3s ht hh, Option.bind_some, S.ui ht, Option.bind_some, S.up ht, Option.bind_some, th_w_ne _ _ (show U t ≠ U t + 3 by omega), hm, nI_1]
theorem SH.pop (S : SH z σ B U ω n nt K) (ht : t < nt) {h : Nat} (hm : μ (U t) 3 = nI (h + 1)) (hh : h < 31) : f_X5_pop σ μ (U t) = some (μ (U t + 3) h, th_w μ (U t) 3 (nI h)) := by
  unfold f_X5_pop
  rw [S.ui ht, Option.bind_some, hm, if_pos (show (0 : Int32) < nI (h + 1) from nI_lt (a := 0) (by omega) (by omega)), Option.bind_some, S.up ht, Option.bind_some, S.ur2 ht, Option.bind_some, S.ui ht, Option.bind_some, nI_pred, th_w_at, if_pos ⟨rfl, rfl⟩, S.u3a ht hh, Option.bind_some, th_w_ne _ _ (show U t + 3 ≠ U t by omega)]
/-- what a two-sided sign makes of two -/
def jn (m x y : Int32) : Int32 := if m = -17 then x - y else if m = -16 then x + y else if m = -15 then (if x = y then 1 else 0) else if m = -14 then (if y ≤ x then 0 else 1) else if m = -12 then (if x = 0 then 0 else if y = 0 then 0 else 1) else if m = -11 then (if x = 0 then (if y = 0 then 0 else 1) else 1) else x * y
theorem tk_cases {m : Int32} (h : (-20 : Int32) < m ∧ m < -10) : m = -11 ∨ m = -12 ∨ m = -13 ∨ m = -14 ∨ m = -15 ∨ m = -16 ∨ m = -17 ∨ m = -18 ∨ m = -19 := by
  obtain ⟨h1, h2⟩ := h
  rw [Int32.lt_iff_toInt_lt] at h1 h2
  have e : ∀ k : Int32, m.toInt = k.toInt → m = k := fun k => Int32.toInt_inj.mp
  have a1 : (-20 : Int32).toInt = -20 := by decide
  have a2 : (-10 : Int32).toInt = -10 := by decide
  rw [a1] at h1
  rw [a2] at h2
  rcases (by omega : m.toInt = -11 ∨ m.toInt = -12 ∨ m.toInt = -13 ∨ m.toInt = -14 ∨ m.toInt = -15 ∨ m.toInt = -16 ∨ m.toInt = -17 ∨ m.toInt = -18 ∨ m.toInt = -19) with q | q | q | q | q | q | q | q | q
  · exact Or.inl (e (-11) (by rw [q]; decide))
  · exact Or.inr (Or.inl (e (-12) (by rw [q]; decide)))
  · exact Or.inr (Or.inr (Or.inl (e (-13) (by rw [q]; decide))))
  · exact Or.inr (Or.inr (Or.inr (Or.inl (e (-14) (by rw [q]; decide)))))
  · exact Or.inr (Or.inr (Or.inr (Or.inr (Or.inl (e (-15) (by rw [q]; decide))))))
  · exact Or.inr (Or.inr (Or.inr (Or.inr (Or.inr (Or.inl (e (-16) (by rw [q]; decide)))))))
  · exact Or.inr (Or.inr (Or.inr (Or.inr (Or.inr (Or.inr (Or.inl (e (-17) (by rw [q]; decide))))))))
  · exact Or.inr (Or.inr (Or.inr (Or.inr (Or.inr (Or.inr (Or.inr (Or.inl (e (-18) (by rw [q]; decide)))))))))
  · exact Or.inr (Or.inr (Or.inr (Or.inr (Or.inr (Or.inr (Or.inr (Or.inr (e (-19) (by rw [q]; decide)))))))))
theorem tk_names {m : Int32} (h : (-7 : Int32) < m ∧ m < 0) : ∃ j, j < 6 ∧ (-1 : Int32) - tk m = nI j ∧ (-m) - 1 = nI j := by
  obtain ⟨h1, h2⟩ := h
  rw [Int32.lt_iff_toInt_lt] at h1 h2
  have e : ∀ k : Int32, m.toInt = k.toInt → m = k := fun k => Int32.toInt_inj.mp
  have a1 : (-7 : Int32).toInt = -7 := by decide
  have a2 : (0 : Int32).toInt = 0 := by decide
  rw [a1] at h1
  rw [a2] at h2
  rcases (by omega : m.toInt = -1 ∨ m.toInt = -2 ∨ m.toInt = -3 ∨ m.toInt = -4 ∨ m.toInt = -5 ∨ m.toInt = -6) with q | q | q | q | q | q
  · have := e (-1) (by rw [q]; decide)
    subst this
    exact ⟨0, by decide, by decide, by decide⟩
  · have := e (-2) (by rw [q]; decide)
    subst this
    exact ⟨1, by decide, by decide, by decide⟩
  · have := e (-3) (by rw [q]; decide)
    subst this
    exact ⟨2, by decide, by decide, by decide⟩
  · have := e (-4) (by rw [q]; decide)
    subst this
    exact ⟨3, by decide, by decide, by decide⟩
  · have := e (-5) (by rw [q]; decide)
    subst this
    exact ⟨4, by decide, by decide, by decide⟩
  · have := e (-6) (by rw [q]; decide)
    subst this
    exact ⟨5, by decide, by decide, by decide⟩
theorem tk_num {m : Int32} (h : 0 ≤ m) : tk m = m ∧ ¬ (0 ≤ (-1 : Int32) - m) := by
  have hm := m.toInt_lt
  have hh : 0 ≤ m.toInt := by
    rw [Int32.le_iff_toInt_le] at h
    exact h
  constructor
  · unfold tk
    have k : ∀ c : Int32, c.toInt < 0 → m ≠ c := fun c hc q => by rw [q] at hh; omega
    rw [if_neg (k _ (by decide)), if_neg (k _ (by decide)), if_neg (k _ (by decide)), if_neg (k _ (by decide)), if_neg (k _ (by decide)), if_neg (k _ (by decide)), if_neg (k _ (by decide)), if_neg (k _ (by decide)), if_neg (k _ (by decide))]
  · rw [Int32.le_iff_toInt_le, Int32.toInt_sub]
    have a : (-1 : Int32).toInt = -1 := by decide
    have b : (0 : Int32).toInt = 0 := by decide
    have := m.toInt_lt
    rw [a, b, Int.bmod_eq_of_le (by omega) (by omega)]
    omega
end RL
