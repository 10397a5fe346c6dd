section CN
variable {z : Nat} {σ : th_S} {Z Y : th_M} {B U ω : Nat → Nat} {n nt b t : Nat} {μ μ' μX μM A A' A2 : th_M}
/-- those of the first i that are so, as bits; how many -/
def bts (P : Nat → Bool) : Nat → Nat
  | 0 => 0
  | i + 1 => if P i = true then bts P i + 2 ^ i else bts P i
def cnt (P : Nat → Bool) : Nat → Nat
  | 0 => 0
  | i + 1 => if P i = true then cnt P i + 1 else cnt P i
def pc (v : Nat) : Nat := v % 2 + v / 2 % 2 + v / 4 % 2 + v / 8 % 2 + v / 16 % 2 + v / 32 % 2 + v / 64 % 2
theorem bts_lt (P : Nat → Bool) : ∀ i, bts P i < 2 ^ i
  | 0 => by show 0 < 2 ^ 0; decide
  | i + 1 => by
    have h := bts_lt P i
    have e : 2 ^ (i + 1) = 2 ^ i + 2 ^ i := by rw [Nat.pow_succ]; omega
    show (if P i = true then bts P i + 2 ^ i else bts P i) < _
    by_cases c : P i = true
    · rw [if_pos c]; omega
    · rw [if_neg c]; omega
theorem cnt_le (P : Nat → Bool) : ∀ i, cnt P i ≤ i
  | 0 => Nat.le_refl _
  | i + 1 => by
    have h := cnt_le P i
    show (if P i = true then cnt P i + 1 else cnt P i) ≤ _
    by_cases c : P i = true
    · rw [if_pos c]; omega
    · rw [if_neg c]; omega
theorem pc_up : ∀ i, i < 7 → ∀ v, v < 2 ^ i → pc (v + 2 ^ i) = pc v + 1 := by decide +kernel
theorem pc_bts (P : Nat → Bool) : ∀ i, i ≤ 7 → pc (bts P i) = cnt P i
  | 0, _ => by show pc 0 = 0; decide
  | i + 1, hi => by
    have h := pc_bts P i (by omega)
    show pc (if P i = true then bts P i + 2 ^ i else bts P i) = (if P i = true then cnt P i + 1 else cnt P i)
    by_cases c : P i = true
    · rw [if_pos c, if_pos c, pc_up i (by omega) _ (bts_lt P i), h]
    · rw [if_neg c, if_neg c, h]
theorem or_up : ∀ i, i < 7 → ∀ v, v < 2 ^ i → nI v ||| jshl 1 (nI i) = nI (v + 2 ^ i) := by decide +kernel
theorem bc_nI : ∀ v, v < 128 → f_J6_bitCount_0f7a4 (nI v) = some (nI (pc v)) := by decide +kernel
theorem bts_or {P : Nat → Bool} {i : Nat} (hi : i < 7) (c : P i = true) : nI (bts P i) ||| jshl 1 (nI i) = nI (bts P (i + 1)) := by
  rw [or_up i hi _ (bts_lt P i)]
  show _ = nI (if P i = true then bts P i + 2 ^ i else bts P i)
  rw [if_pos c]
theorem bts_no {P : Nat → Bool} {i : Nat} (c : ¬ P i = true) : bts P (i + 1) = bts P i := by
  show (if P i = true then bts P i + 2 ^ i else bts P i) = _
  rw [if_neg c]
theorem cnt_yes {P : Nat → Bool} {i : Nat} (c : P i = true) : cnt P (i + 1) = cnt P i + 1 := by
  show (if P i = true then cnt P i + 1 else cnt P i) = _
  rw [if_pos c]
theorem cnt_no {P : Nat → Bool} {i : Nat} (c : ¬ P i = true) : cnt P (i + 1) = cnt P i := by
  show (if P i = true then cnt P i + 1 else cnt P i) = _
  rw [if_neg c]
def isW (A : th_M) (w : Int32) (b : Nat) : Bool := decide (A 6 b = w)
theorem those_loop (h : JX z σ Z B U ω n nt μX A) (w : Int32) : ∀ k i f, i + k = n → k < f → f_X10_those_b4 f σ μX z w (nI (bts (isW A w) i)) (nI i) = some (nI (bts (isW A w) n)) := by
  intro k
  induction k with
  | zero =>
    intro i f hi hf
    obtain ⟨f, rfl⟩ : ∃ f', f = f' + 1 := ⟨f - 1, by omega⟩
    have e : i = n := by omega
    subst e
    show (oI σ μX 10 z 1).bind _ = _
    rw [i_0 h.sh.sx, Option.bind_some, h.xn, if_pos (Int32.le_refl _)]
  | succ k ih =>
    intro i f hi hf
    obtain ⟨f, rfl⟩ : ∃ f', f = f' + 1 := ⟨f - 1, by omega⟩
    have S := h.sh
    have hU := S.sx
    have n7 := S.n7
    have hin : i < n := by omega
    have nl : ¬ nI n ≤ nI i := nI_ge hin (by omega)
    show (oI σ μX 10 z 1).bind _ = _
    simp only [i_0 hU, Option.bind_some, h.xn, if_neg nl, r_0_0 hU, S.oq hin, S.b0 hin, S.ban hin (show 4 < 6 by decide), (h.nw i hin).2.2.2.2.1, nI_1]
    by_cases c : A 6 i = w
    · rw [if_pos c, bts_or (P := isW A w) (by omega) (by unfold isW; exact decide_eq_true c)]
      exact ih (i + 1) f (by omega) (by omega)
    · rw [if_neg c, ← bts_no (P := isW A w) (i := i) (by unfold isW; rw [decide_eq_true_iff]; exact c)]
      exact ih (i + 1) f (by omega) (by omega)
theorem x_those (h : JX z σ Z B U ω n nt μX A) (w : Int32) : f_X10_those σ μX z w = some (nI (bts (isW A w) n)) := by
  have n7 := h.sh.n7
  exact those_loop h w n 0 fu (by omega) (by unfold fu; omega)
theorem x_cnt (h : JX z σ Z B U ω n nt μX A) (w : Int32) : f_J6_bitCount_0f7a4 (nI (bts (isW A w) n)) = some (nI (cnt (isW A w) n)) := by
  have n7 := h.sh.n7
  have l := bts_lt (isW A w) n
  have p : 2 ^ n ≤ 2 ^ 7 := Nat.pow_le_pow_right (by decide) n7
  rw [bc_nI _ (by omega), pc_bts _ _ n7]
theorem m_those_loop (hU : SX σ z) (m : JM z Y μM A) (hn : A 0 0 = nI n) (n7 : n ≤ 7) (w : Int32) : ∀ k i f, i + k = n → k < f → f_X11_thoseWho_b4 f σ μM (z + 27) w (nI (cnt (isW A w) i)) (nI i) = some (nI (cnt (isW A w) n)) := by
  intro k
  induction k with
  | zero =>
    intro i f hi hf
    obtain ⟨f, rfl⟩ : ∃ f', f = f' + 1 := ⟨f - 1, by omega⟩
    have e : i = n := by omega
    subst e
    show (oI σ μM 11 (z + 27) 0).bind _ = _
    rw [i_27 hU, Option.bind_some, jm_0_0 m, hn, if_pos (Int32.le_refl _)]
  | succ k ih =>
    intro i f hi hf
    obtain ⟨f, rfl⟩ : ∃ f', f = f' + 1 := ⟨f - 1, by omega⟩
    have hin : i < n := by omega
    have nl : ¬ nI n ≤ nI i := nI_ge hin (by omega)
    show (oI σ μM 11 (z + 27) 0).bind _ = _
    simp only [i_27 hU, Option.bind_some, jm_0_0 m, hn, if_neg nl, r_27_6 hU, a_33 hU (show i < 7 by omega), jm_6 m, nI_1]
    by_cases c : A 6 i = w
    · rw [if_pos c, ← cnt_yes (P := isW A w) (i := i) (by unfold isW; exact decide_eq_true c)]
      exact ih (i + 1) f (by omega) (by omega)
    · rw [if_neg c, ← cnt_no (P := isW A w) (i := i) (by unfold isW; rw [decide_eq_true_iff]; exact c)]
      exact ih (i + 1) f (by omega) (by omega)
theorem m_those (h : JX z σ Z B U ω n nt μX A) (m : JM z Y μM A) (w : Int32) : f_X11_thoseWho σ μM (z + 27) w = some (nI (cnt (isW A w) n)) := by
  have n7 := h.sh.n7
  exact m_those_loop h.sh.sx m h.nn n7 w n 0 fu (by omega) (by unfold fu; omega)
theorem count_lock (h : JX z σ Z B U ω n nt μX A) (m : JM z Y μM A) (x : Int32) : ∃ v, f_X10_count σ μX z x = some v ∧ f_X11_count σ μM (z + 27) x = some v := by
  have S := h.sh
  have hU := S.sx
  have l := h.lk
  obtain ⟨tm, -, t1, t2, -⟩ := h.tp
  unfold f_X10_count f_X11_count
  simp only [i_0 hU, i_27 hU, Option.bind_some, c_0 hU, c_27 hU, x_those h, x_cnt h, m_those h m, h.xn, jm_0_0 m, h.nn, r_0_2 hU, an_2 hU (show 9 < 12 by decide), an_2 hU (show 10 < 12 by decide), an_2 hU (show 8 < 12 by decide), an_2 hU (show 11 < 12 by decide), jm_0_10 m, jm_0_14 m, jm_0_13 m, jm_0_17 m, jm_0_15 m, jm_0_18 m, l.2.2.2.2.2.1, l.2.2.2.2.2.2.1, l.2.2.2.2.1, l.2.2.2.2.2.2.2, h.xt, h.at, r_0_5 hU, i_4 hU, t1, t2]
  repeat' split
  all_goals exact ⟨_, rfl, rfl⟩
end CN
