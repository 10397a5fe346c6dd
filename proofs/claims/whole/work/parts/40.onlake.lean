section OL
variable {z : Nat} {σ : th_S} {Z Y : th_M} {B U ω : Nat → Nat} {n nt b t : Nat} {μ μ' μX μM A A' A2 : th_M} {K : Nat → Int32}
theorem sub_small : ∀ v, v < 128 → ∀ s, s < 128 → (nI s &&& (nI v ^^^ (-1)) = 0 ↔ ∀ i, i < 7 → s.testBit i = true → v.testBit i = true) := by decide +kernel
theorem all1 : ∀ i : Fin 32, (4294967295#32)[i.val] = true := by decide
theorem sub_big {x : Int32} {v : Nat} (hv : v < 128) (h : x &&& (nI v ^^^ (-1)) = 0) : ∃ s, s < 128 ∧ x = nI s := by
  have e : x.toBitVec = x.toBitVec &&& BitVec.ofNat 32 v := by
    have h2 : x.toBitVec &&& (BitVec.ofNat 32 v ^^^ BitVec.allOnes 32) = 0#32 := congrArg Int32.toBitVec h
    apply BitVec.eq_of_getLsbD_eq
    intro i hi
    have h3 := congrArg (fun q => q.getLsbD i) h2
    simp [hi] at h3
    simp [hi]
    intro q
    exact (h3 q).trans (all1 ⟨i, hi⟩)
  have l : x.toBitVec.toNat ≤ v := by
    have := congrArg BitVec.toNat e
    rw [BitVec.toNat_and, BitVec.toNat_ofNat, Nat.mod_eq_of_lt (by omega)] at this
    rw [this]
    exact Nat.and_le_right
  refine ⟨x.toBitVec.toNat, by omega, ?_⟩
  apply Int32.toBitVec_inj.mp
  show x.toBitVec = BitVec.ofNat 32 x.toBitVec.toNat
  simp
theorem shr_bit : ∀ s, s < 128 → ∀ i, i < 7 → ((jshr (nI s) (nI i)) &&& 1 = 1 ↔ s.testBit i = true) := by decide +kernel
theorem shl_n : ∀ i, i < 8 → jshl 1 (nI i) = nI (2 ^ i) := by decide +kernel
theorem tb_up : ∀ i, i < 7 → ∀ v, v < 2 ^ i → ∀ j, j < 7 → ((v + 2 ^ i).testBit j = (decide (j = i) || v.testBit j)) := by decide +kernel
theorem tb_bts (P : Nat → Bool) : ∀ i, i ≤ 7 → ∀ j, j < 7 → (bts P i).testBit j = (decide (j < i) && P j)
  | 0, _, j, _ => by
    show (0 : Nat).testBit j = _
    simp
  | i + 1, hi, j, hj => by
    have h := tb_bts P i (by omega) j hj
    show (if P i = true then bts P i + 2 ^ i else bts P i).testBit j = _
    by_cases c : P i = true
    · rw [if_pos c, tb_up i (by omega) _ (bts_lt P i) j hj, h]
      by_cases e : j = i
      · subst e; simp [c]
      · by_cases d : j < i
        · simp [e, d, show j < i + 1 by omega]
        · simp [e, d, show ¬ j < i + 1 by omega]
    · rw [if_neg c, h]
      by_cases e : j = i
      · subst e; simp [c]
      · by_cases d : j < i
        · simp [d, show j < i + 1 by omega]
        · simp [d, show ¬ j < i + 1 by omega]
/-- sets of boats on the lake -/
def onL (A : th_M) (n : Nat) (x : Int32) : Prop := ∃ s, s < 2 ^ n ∧ x = nI s ∧ ∀ b, b < n → s.testBit b = true → A 6 b = 0
theorem pow_le7 (n7 : n ≤ 7) : 2 ^ n ≤ 128 := by
  have h : 2 ^ n ≤ 2 ^ 7 := Nat.pow_le_pow_right (by decide) n7
  exact h
theorem tb_lt : ∀ n, n < 8 → ∀ s, s < 128 → (s < 2 ^ n ↔ ∀ i, i < 7 → n ≤ i → s.testBit i = false) := by decide +kernel
theorem x_onL (h : JX z σ Z B U ω n nt μX A) (x : Int32) : ∃ v, f_X10_areOnTheLake σ μX z x = some v ∧ (v = 0 ∨ v = 1) ∧ (v = 1 ↔ onL A n x) := by
  have hU := h.sh.sx
  have n7 := h.sh.n7
  have vl : bts (isW A 0) n < 128 := Nat.lt_of_lt_of_le (bts_lt _ n) (pow_le7 n7)
  have key : x &&& (nI (bts (isW A 0) n) ^^^ (-1)) = 0 ↔ onL A n x := by
    constructor
    · intro q
      obtain ⟨s, hs, rfl⟩ := sub_big vl q
      have q2 := (sub_small _ vl s hs).mp q
      refine ⟨s, (tb_lt n (by omega) s hs).mpr (fun i hi hni => ?_), rfl, fun b hb hbit => ?_⟩
      · cases c : s.testBit i with
        | false => rfl
        | true =>
          have := q2 i hi c
          rw [tb_bts _ n n7 i hi] at this
          simp [show ¬ i < n by omega] at this
      · have := q2 b (by omega) hbit
        rw [tb_bts _ n n7 b (by omega)] at this
        simp [hb] at this
        unfold isW at this
        exact of_decide_eq_true this
    · rintro ⟨s, hs, rfl, hb⟩
      have h128 := pow_le7 n7
      refine (sub_small _ vl s (by omega)).mpr (fun i hi hbit => ?_)
      rw [tb_bts _ n n7 i hi]
      have lt : i < n := by
        by_cases c : i < n
        · exact c
        · have := (tb_lt n (by omega) s (by omega)).mp hs i hi (by omega)
          rw [this] at hbit
          exact absurd hbit (by decide)
      simp [lt]
      unfold isW
      exact decide_eq_true (hb i lt hbit)
  unfold f_X10_areOnTheLake
  rw [c_0 hU, x_those h, Option.bind_some]
  by_cases c : x &&& (nI (bts (isW A 0) n) ^^^ (-1)) = 0
  · rw [if_pos c]
    exact ⟨1, rfl, Or.inr rfl, fun _ => key.mp c, fun _ => rfl⟩
  · rw [if_neg c]
    exact ⟨0, rfl, Or.inl rfl, fun q => absurd q (by decide), fun q => absurd (key.mpr q) c⟩
end OL
