section TK
variable {z : Nat} {σ : th_S} {m a : Nat} {p : Nat → Int32} {μ μ' : th_M}
/-! the tape's tokens, as functions of the place where one begins -/
def isL (v : Int32) : Bool := decide (97 ≤ v) && decide (v ≤ 122)
def isD (v : Int32) : Bool := decide (48 ≤ v) && decide (v ≤ 57)
def isB (v : Int32) : Bool := decide (v = 32) || decide (v = 10)
def isG (v : Int32) : Bool := decide (v = 40) || decide (v = 41) || decide (v = 59) || decide (v = 43) || decide (v = 45) || decide (v = 42) || decide (v = 60) || decide (v = 61)
def sk (p : Nat → Int32) : Nat → Nat → Nat
  | 0, i => i
  | k + 1, i => if isB (p i) = true then sk p k (i + 1) else i
def le (p : Nat → Int32) : Nat → Nat → Nat
  | 0, i => i
  | k + 1, i => if isL (p i) = true then le p k (i + 1) else i
def dg (p : Nat → Int32) : Nat → Nat → Nat
  | 0, i => i
  | k + 1, i => if isD (p i) = true then dg p k (i + 1) else i
def nx (p : Nat → Int32) : Nat → Nat → Int32 → Int32
  | 0, _, v => v
  | k + 1, i, v => if isD (p i) = true then nx p k (i + 1) (((v * 10) + p i) - 48) else v
def wbyte (w i : Nat) : Int32 := (th_byt.getD w []).getD i 0
def ml (p : Nat → Int32) (a w : Nat) : Nat → Nat → Bool
  | 0, _ => true
  | k + 1, i => if wbyte w i = p (a + i) then ml p a w k (i + 1) else false
def mt (p : Nat → Int32) (a e w : Nat) : Bool := decide (th_len.getD w 0 = e - a) && ml p a w (th_len.getD w 0) 0
def wl (p : Nat → Int32) (a e : Nat) : Nat → Nat → Int32 → Int32
  | 0, _, c => c
  | k + 1, i, c => wl p a e k (i + 1) (if mt p a e (i + 1) = true then nI i else c)
def wcode (p : Nat → Int32) (a e : Nat) : Int32 := wl p a e 12 0 (-2)
def eT (p : Nat → Int32) (m a : Nat) : Nat := if m ≤ a then m else if isL (p a) = true then le p (m - a) a else if isD (p a) = true then dg p (m - a) a else a + 1
def kT (p : Nat → Int32) (m a : Nat) : Int32 := if m ≤ a then -1 else if isL (p a) = true then wcode p a (le p (m - a) a) else if isD (p a) = true then (if 4 < dg p (m - a) a - a then -2 else 12) else if isG (p a) = true then p a else -2
def vT (p : Nat → Int32) (m a : Nat) : Int32 := nx p (m - a) a 0
def sT (p : Nat → Int32) (m a : Nat) : Int32 := if m ≤ a then 0 else if isL (p a) = true then 2 else if isD (p a) = true then (if 4 < dg p (m - a) a - a then 4 else 1) else if isG (p a) = true then 3 else 4
def aN (p : Nat → Int32) (m a : Nat) : Nat := sk p (m - eT p m a) (eT p m a)
theorem sk_le (p : Nat → Int32) : ∀ k i, i ≤ sk p k i ∧ sk p k i ≤ i + k
  | 0, i => ⟨Nat.le_refl _, Nat.le_refl _⟩
  | k + 1, i => by
    have h := sk_le p k (i + 1)
    show i ≤ (if isB (p i) = true then sk p k (i + 1) else i) ∧ (if isB (p i) = true then sk p k (i + 1) else i) ≤ i + (k + 1)
    by_cases c : isB (p i) = true
    · rw [if_pos c]; omega
    · rw [if_neg c]; omega
theorem le_le (p : Nat → Int32) : ∀ k i, i ≤ le p k i ∧ le p k i ≤ i + k
  | 0, i => ⟨Nat.le_refl _, Nat.le_refl _⟩
  | k + 1, i => by
    have h := le_le p k (i + 1)
    show i ≤ (if isL (p i) = true then le p k (i + 1) else i) ∧ (if isL (p i) = true then le p k (i + 1) else i) ≤ i + (k + 1)
    by_cases c : isL (p i) = true
    · rw [if_pos c]; omega
    · rw [if_neg c]; omega
theorem dg_le (p : Nat → Int32) : ∀ k i, i ≤ dg p k i ∧ dg p k i ≤ i + k
  | 0, i => ⟨Nat.le_refl _, Nat.le_refl _⟩
  | k + 1, i => by
    have h := dg_le p k (i + 1)
    show i ≤ (if isD (p i) = true then dg p k (i + 1) else i) ∧ (if isD (p i) = true then dg p k (i + 1) else i) ≤ i + (k + 1)
    by_cases c : isD (p i) = true
    · rw [if_pos c]; omega
    · rw [if_neg c]; omega
theorem eT_le (h : a ≤ m) : a ≤ eT p m a ∧ eT p m a ≤ m ∧ (a < m → a < eT p m a) := by
  unfold eT
  by_cases c : m ≤ a
  · rw [if_pos c]; omega
  · rw [if_neg c]
    obtain ⟨k, hk⟩ : ∃ k, m - a = k + 1 := ⟨m - a - 1, by omega⟩
    by_cases d : isL (p a) = true
    · rw [if_pos d, hk]
      have h1 := le_le p k (a + 1)
      have e : le p (k + 1) a = le p k (a + 1) := if_pos d
      rw [e]; omega
    · rw [if_neg d]
      by_cases g : isD (p a) = true
      · rw [if_pos g, hk]
        have h1 := dg_le p k (a + 1)
        have e : dg p (k + 1) a = dg p k (a + 1) := if_pos g
        rw [e]; omega
      · rw [if_neg g]; omega
theorem aN_le (h : a ≤ m) : eT p m a ≤ aN p m a ∧ aN p m a ≤ m := by
  have h1 := eT_le (p := p) h
  have h2 := sk_le p (m - eT p m a) (eT p m a)
  unfold aN
  omega
theorem kT_end (h : kT p m a ≠ -1) : a < m := by
  by_cases c : m ≤ a
  · exact absurd (by unfold kT; rw [if_pos c]) h
  · omega
/-! words -/
theorem w_len : ∀ w, w < 13 → 0 < th_len.getD w 0 ∧ th_len.getD w 0 ≤ 46 := by decide +kernel
theorem w_dist : ∀ w, w < 13 → ∀ w', w' < 13 → (th_len.getD w 0 = th_len.getD w' 0 ∧ ∀ i, i < th_len.getD w 0 → wbyte w i = wbyte w' i) → w = w' := by decide +kernel
theorem ml_all {a w : Nat} : ∀ k i, ml p a w k i = true → ∀ j, i ≤ j → j < i + k → wbyte w j = p (a + j)
  | 0, _, _, _, _, _ => by omega
  | k + 1, i, h, j, h1, h2 => by
    have h' : (if wbyte w i = p (a + i) then ml p a w k (i + 1) else false) = true := h
    by_cases c : wbyte w i = p (a + i)
    · rw [if_pos c] at h'
      by_cases e : j = i
      · rw [e]; exact c
      · exact ml_all k (i + 1) h' j (by omega) (by omega)
    · rw [if_neg c] at h'; exact absurd h' (by decide)
theorem mt_one {a e w w' : Nat} (hw : w < 13) (hw' : w' < 13) (h : mt p a e w = true) (h' : mt p a e w' = true) : w = w' := by
  unfold mt at h h'
  rw [Bool.and_eq_true, decide_eq_true_eq] at h h'
  refine w_dist w hw w' hw' ⟨h.1.trans h'.1.symm, fun i hi => ?_⟩
  rw [ml_all _ 0 h.2 i (Nat.zero_le _) (by omega), ml_all _ 0 h'.2 i (Nat.zero_le _) (by rw [h'.1, ← h.1]; omega)]
theorem wl_none {a e : Nat} : ∀ k i c, (∀ j, i ≤ j → j < i + k → mt p a e (j + 1) = false) → wl p a e k i c = c
  | 0, _, _, _ => rfl
  | k + 1, i, c, h => by
    show wl p a e k (i + 1) (if mt p a e (i + 1) = true then nI i else c) = c
    rw [if_neg (by rw [h i (Nat.le_refl _) (by omega)]; decide), wl_none k (i + 1) c (fun j h1 h2 => h j (by omega) (by omega))]
theorem wl_hit {a e j : Nat} (hj : mt p a e (j + 1) = true) : ∀ k i c, i ≤ j → j < i + k → i + k ≤ 12 → wl p a e k i c = nI j
  | 0, _, _, _, _, _ => by omega
  | k + 1, i, c, h1, h2, h3 => by
    show wl p a e k (i + 1) (if mt p a e (i + 1) = true then nI i else c) = nI j
    by_cases q : i = j
    · subst q
      rw [if_pos hj, wl_none k (i + 1) _ (fun l h4 h5 => by
        cases g : mt p a e (l + 1) with
        | false => rfl
        | true => have := mt_one (by omega) (by omega) hj g; omega)]
    · exact wl_hit hj k (i + 1) _ (by omega) (by omega) (by omega)
theorem wcode_cases (a e : Nat) : (wcode p a e = -2 ∧ ∀ j, j < 12 → mt p a e (j + 1) = false) ∨ ∃ j, j < 12 ∧ wcode p a e = nI j ∧ mt p a e (j + 1) = true := by
  by_cases c : ∃ j, j < 12 ∧ mt p a e (j + 1) = true
  · obtain ⟨j, hj, h⟩ := c
    exact Or.inr ⟨j, hj, wl_hit h 12 0 _ (Nat.zero_le _) (by omega) (by decide), h⟩
  · have h : ∀ j, j < 12 → mt p a e (j + 1) = false := fun j hj => by
      cases g : mt p a e (j + 1) with
      | false => rfl
      | true => exact absurd ⟨j, hj, g⟩ c
    exact Or.inl ⟨wl_none 12 0 _ (fun j _ hj => h j (by omega)), h⟩
theorem wcode_iff {a e j : Nat} (hj : j < 12) : wcode p a e = nI j ↔ mt p a e (j + 1) = true := by
  rcases wcode_cases (p := p) a e with ⟨h1, h2⟩ | ⟨i, hi, h1, h2⟩
  · rw [h1, h2 j hj]
    exact ⟨fun q => by have := nI_pos (n := j) (by omega); rw [← q] at this; exact absurd (by decide) this, fun q => absurd q (by decide)⟩
  · constructor
    · intro q
      rw [h1] at q
      have := (nI_eq (by omega) (by omega)).mp q
      rw [← this]; exact h2
    · intro q
      have := mt_one (by omega) (by omega) q h2
      rw [h1, show i = j by omega]
/-! letters, digits, blanks, signs as the two sides ask -/
theorem x_isL (v : Int32) : f_X8_isLetter v = some (if isL v = true then 1 else 0) := by
  unfold f_X8_isLetter isL
  by_cases a : v < 97
  · rw [if_pos a, if_neg (by simp [Int32.not_le.mpr a])]
  · rw [if_neg a]
    by_cases b : 122 < v
    · rw [if_pos b, if_neg (by simp [Int32.not_le.mpr b])]
    · rw [if_neg b, if_pos (by simp [Int32.not_lt.mp a, Int32.not_lt.mp b])]
theorem m_isL (v : Int32) : f_X11_isLetter v = some (if isL v = true then 1 else 0) := x_isL v
theorem x_isD (v : Int32) : f_X8_isDigit v = some (if isD v = true then 1 else 0) := by
  unfold f_X8_isDigit isD
  by_cases a : v < 48
  · rw [if_pos a, if_neg (by simp [Int32.not_le.mpr a])]
  · rw [if_neg a]
    by_cases b : 57 < v
    · rw [if_pos b, if_neg (by simp [Int32.not_le.mpr b])]
    · rw [if_neg b, if_pos (by simp [Int32.not_lt.mp a, Int32.not_lt.mp b])]
theorem m_isD (v : Int32) : f_X11_isDigit v = some (if isD v = true then 1 else 0) := x_isD v
theorem x_isG : ∀ v, v < 256 → f_X8_isSign (nI v) = some (if isG (nI v) = true then 1 else 0) := by decide +kernel
theorem LD (v : Int32) (h : isL v = true) : isD v = false := by
  unfold isL at h
  unfold isD
  rw [Bool.and_eq_true, decide_eq_true_eq, decide_eq_true_eq] at h
  have h1 := h.1
  rw [Int32.le_iff_toInt_le, show (97 : Int32).toInt = 97 from by decide] at h1
  have : ¬ v ≤ 57 := by
    rw [Int32.le_iff_toInt_le, show (57 : Int32).toInt = 57 from by decide]
    omega
  simp [this]
end TK
