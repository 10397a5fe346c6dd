section MS
variable {z : Nat} {σ : th_S} {m a e : Nat} {p : Nat → Int32} {μ μ' : th_M}
/-! the reference's next token -/
def ME (z m : Nat) (p : Nat → Int32) (μ : th_M) : Prop := m ≤ 160 ∧ μ (z + 27) 15 = nI m ∧ ∀ i, i < m → μ (z + 35) i = p i ∧ rg (p i) 255
theorem ME.fr (h : ME z m p μ) (e5 : μ' (z + 35) = μ (z + 35)) (e1 : μ' (z + 27) 15 = μ (z + 27) 15) : ME z m p μ' := ⟨h.1, by rw [e1]; exact h.2.1, fun i hi => by rw [e5]; exact h.2.2 i hi⟩
theorem ME.w (h : ME z m p μ) {k : Nat} {v : Int32} (hk : k ≠ 15) : ME z m p (th_w μ (z + 27) k v) := h.fr (th_w_ne _ _ (by omega)) (by rw [th_w_hit, if_neg (fun q => hk q.symm)])
theorem ms_blank (hU : SX σ z) : ∀ k a f μ, a + k = m → k < f → ME z m p μ → μ (z + 27) 22 = nI a → ∃ μ', f_X11_next_b0 f σ μ (z + 27) = f_X11_next_b52 σ μ' (z + 27) ∧ μ' (z + 27) 22 = nI (sk p k a) ∧ (∀ q, q ≠ z + 27 → μ' q = μ q) ∧ ∀ j, j ≠ 22 → μ' (z + 27) j = μ (z + 27) j := by
  intro k
  induction k with
  | zero =>
    intro a f μ ha hf E h5
    obtain ⟨f, rfl⟩ : ∃ f', f = f' + 1 := ⟨f - 1, by omega⟩
    have e : a = m := by omega
    subst e
    refine ⟨μ, ?_, h5, fun _ _ => rfl, fun _ _ => rfl⟩
    show (oI σ μ 11 (z + 27) 22).bind _ = _
    rw [i_27 hU, Option.bind_some, i_27 hU, Option.bind_some, h5, E.2.1, if_pos (Int32.le_refl _)]
  | succ k ih =>
    intro a f μ ha hf E h5
    obtain ⟨f, rfl⟩ : ∃ f', f = f' + 1 := ⟨f - 1, by omega⟩
    have m160 := E.1
    obtain ⟨μ', a1, a2, a3, a4⟩ := ih (a + 1) f (th_w μ (z + 27) 22 (nI (a + 1))) (by omega) (by omega) (E.w (by decide)) (th_w_self _ _ _ _)
    have fin : isB (p a) = true → ∃ μ', f_X11_next_b0 f σ (th_w μ (z + 27) 22 (nI (a + 1))) (z + 27) = f_X11_next_b52 σ μ' (z + 27) ∧ μ' (z + 27) 22 = nI (sk p (k + 1) a) ∧ (∀ q, q ≠ z + 27 → μ' q = μ q) ∧ ∀ j, j ≠ 22 → μ' (z + 27) j = μ (z + 27) j := fun hb =>
      ⟨μ', a1, by rw [a2]; show _ = nI (if isB (p a) = true then sk p k (a + 1) else a); rw [if_pos hb], fun q hq => by rw [a3 q hq, th_w_ne _ _ hq], fun j hj => by rw [a4 j hj, th_w_hit, if_neg hj]⟩
    show ∃ μ' : th_M, (oI σ μ 11 (z + 27) 22).bind _ = _ ∧ _
    simp only [i_27 hU, Option.bind_some, h5, E.2.1, if_neg (nI_ge (show a < m by omega) (by omega)), r_27_16 hU, a_35 hU (show a < 160 by omega), (E.2.2 a (by omega)).1, p_27 hU, nI_1]
    by_cases c : p a = 32
    · rw [if_pos c]
      exact fin (by unfold isB; rw [c]; decide)
    · rw [if_neg c]
      by_cases d : p a = 10
      · rw [if_pos d]
        exact fin (by unfold isB; rw [d]; decide)
      · rw [if_neg d]
        refine ⟨μ, rfl, ?_, fun _ _ => rfl, fun _ _ => rfl⟩
        show _ = nI (if isB (p a) = true then sk p k (a + 1) else a)
        rw [if_neg (by unfold isB; simp [c, d])]
        exact h5
theorem ms_let (hU : SX σ z) : ∀ k i f μ, i + k = m → k < f → ME z m p μ → μ (z + 27) 22 = nI i → ∃ μ', f_X11_next_b205 f σ μ (z + 27) = some μ' ∧ μ' (z + 27) 22 = nI (le p k i) ∧ μ' (z + 27) 24 = 2 ∧ (∀ q, q ≠ z + 27 → μ' q = μ q) ∧ ∀ j, j ≠ 22 → j ≠ 24 → μ' (z + 27) j = μ (z + 27) j := by
  intro k
  induction k with
  | zero =>
    intro i f μ hi hf E h6
    obtain ⟨f, rfl⟩ : ∃ f', f = f' + 1 := ⟨f - 1, by omega⟩
    have e : i = m := by omega
    subst e
    refine ⟨th_w μ (z + 27) 24 2, ?_, by rw [th_w_hit, if_neg (by decide)]; exact h6, th_w_self _ _ _ _, fun q hq => th_w_ne _ _ hq, fun j h1 h2 => by rw [th_w_hit, if_neg h2]⟩
    show (oI σ μ 11 (z + 27) 22).bind _ = _
    rw [i_27 hU, Option.bind_some, i_27 hU, Option.bind_some, h6, E.2.1, if_pos (Int32.le_refl _), p_27 hU, Option.bind_some]
  | succ k ih =>
    intro i f μ hi hf E h6
    obtain ⟨f, rfl⟩ : ∃ f', f = f' + 1 := ⟨f - 1, by omega⟩
    have m160 := E.1
    show ∃ μ' : th_M, (oI σ μ 11 (z + 27) 22).bind _ = _ ∧ μ' (z + 27) 22 = nI (if isL (p i) = true then le p k (i + 1) else i) ∧ _
    simp only [i_27 hU, Option.bind_some, h6, E.2.1, if_neg (nI_ge (show i < m by omega) (by omega)), r_27_16 hU, a_35 hU (show i < 160 by omega), (E.2.2 i (by omega)).1, m_isL, p_27 hU, nI_1]
    by_cases c : isL (p i) = true
    · simp only [if_pos c, if_neg n10]
      obtain ⟨μ', a1, a2, a3, a4, a5⟩ := ih (i + 1) f (th_w μ (z + 27) 22 (nI (i + 1))) (by omega) (by omega) (E.w (by decide)) (th_w_self _ _ _ _)
      exact ⟨μ', a1, a2, a3, fun q hq => by rw [a4 q hq, th_w_ne _ _ hq], fun j h1 h2 => by rw [a5 j h1 h2, th_w_hit, if_neg h1]⟩
    · simp only [if_neg c, if_pos (show (0 : Int32) = 0 from rfl)]
      exact ⟨th_w μ (z + 27) 24 2, rfl, by rw [th_w_hit, if_neg (by decide)]; exact h6, th_w_self _ _ _ _, fun q hq => th_w_ne _ _ hq, fun j h1 h2 => by rw [th_w_hit, if_neg h2]⟩
def nm (p : Nat → Int32) (a : Nat) : Nat → Nat → Int32 → Int32
  | 0, _, v => v
  | k + 1, i, v => if isD (p i) = true then nm p a k (i + 1) (if 4 ≤ i - a then v else ((10 * v) + p i) - 48) else v
theorem nm_nx : ∀ k i v, a ≤ i → dg p k i - a ≤ 4 → nm p a k i v = nx p k i v
  | 0, _, _, _, _ => rfl
  | k + 1, i, v, h, h4 => by
    show (if isD (p i) = true then nm p a k (i + 1) (if 4 ≤ i - a then v else ((10 * v) + p i) - 48) else v) = (if isD (p i) = true then nx p k (i + 1) (((v * 10) + p i) - 48) else v)
    have h4' : (if isD (p i) = true then dg p k (i + 1) else i) - a ≤ 4 := h4
    by_cases c : isD (p i) = true
    · rw [if_pos c] at h4'
      have l := dg_le p k (i + 1)
      rw [if_pos c, if_pos c, if_neg (by omega), Int32.mul_comm 10 v]
      exact nm_nx k (i + 1) _ (by omega) h4'
    · rw [if_neg c, if_neg c]
theorem ms_num (hU : SX σ z) : ∀ k i f μ, i + k = m → k < f → a ≤ i → ME z m p μ → μ (z + 27) 22 = nI i → μ (z + 27) 23 = nI a → ∃ μ', f_X11_next_b99 f σ μ (z + 27) = f_X11_next_b175 σ μ' (z + 27) ∧ μ' (z + 27) 22 = nI (dg p k i) ∧ μ' (z + 27) 25 = nm p a k i (μ (z + 27) 25) ∧ (∀ q, q ≠ z + 27 → μ' q = μ q) ∧ ∀ j, j ≠ 22 → j ≠ 25 → μ' (z + 27) j = μ (z + 27) j := by
  intro k
  induction k with
  | zero =>
    intro i f μ hi hf hai E h6 h3
    obtain ⟨f, rfl⟩ : ∃ f', f = f' + 1 := ⟨f - 1, by omega⟩
    have e : i = m := by omega
    subst e
    refine ⟨μ, ?_, h6, rfl, fun _ _ => rfl, fun _ _ _ => rfl⟩
    show (oI σ μ 11 (z + 27) 22).bind _ = _
    rw [i_27 hU, Option.bind_some, i_27 hU, Option.bind_some, h6, E.2.1, if_pos (Int32.le_refl _)]
  | succ k ih =>
    intro i f μ hi hf hai E h6 h3
    obtain ⟨f, rfl⟩ : ∃ f', f = f' + 1 := ⟨f - 1, by omega⟩
    have m160 := E.1
    show ∃ μ' : th_M, (oI σ μ 11 (z + 27) 22).bind _ = _ ∧ μ' (z + 27) 22 = nI (if isD (p i) = true then dg p k (i + 1) else i) ∧ μ' (z + 27) 25 = (if isD (p i) = true then nm p a k (i + 1) (if 4 ≤ i - a then μ (z + 27) 25 else ((10 * μ (z + 27) 25) + p i) - 48) else μ (z + 27) 25) ∧ _
    have r6 : ∀ v : Int32, th_w μ (z + 27) 25 v (z + 27) 22 = nI i := fun v => by rw [th_w_hit, if_neg (by decide)]; exact h6
    simp only [i_27 hU, Option.bind_some, h6, h3, E.2.1, if_neg (nI_ge (show i < m by omega) (by omega)), r_27_16 hU, a_35 hU (show i < 160 by omega), (E.2.2 i (by omega)).1, m_isD, p_27 hU, nI_1, r6, nI_sub hai]
    by_cases c : isD (p i) = true
    · simp only [if_pos c, if_neg n10]
      by_cases u : 4 ≤ i - a
      · rw [if_pos (show (4 : Int32) ≤ _ from (nI_le u (by omega) : nI 4 ≤ _)), if_pos u]
        obtain ⟨μ', a1, a2, a3, a4, a5⟩ := ih (i + 1) f (th_w μ (z + 27) 22 (nI (i + 1))) (by omega) (by omega) (by omega) (E.w (by decide)) (th_w_self _ _ _ _) (by rw [th_w_hit, if_neg (by decide)]; exact h3)
        exact ⟨μ', a1, a2, by rw [a3, th_w_hit, if_neg (by decide)], fun q hq => by rw [a4 q hq, th_w_ne _ _ hq], fun j h1 h2 => by rw [a5 j h1 h2, th_w_hit, if_neg h1]⟩
      · rw [if_neg (show ¬ (4 : Int32) ≤ _ from (nI_ge (by omega) (by decide) : ¬ nI 4 ≤ _)), if_neg u]
        obtain ⟨μ', a1, a2, a3, a4, a5⟩ := ih (i + 1) f (th_w (th_w μ (z + 27) 25 (((10 * μ (z + 27) 25) + p i) - 48)) (z + 27) 22 (nI (i + 1))) (by omega) (by omega) (by omega) ((E.w (by decide)).w (by decide)) (th_w_self _ _ _ _) (by rw [th_w_hit, if_neg (by decide), th_w_hit, if_neg (by decide)]; exact h3)
        exact ⟨μ', a1, a2, by rw [a3, th_w_hit, if_neg (by decide), th_w_self], fun q hq => by rw [a4 q hq, th_w_ne _ _ hq, th_w_ne _ _ hq], fun j h1 h2 => by rw [a5 j h1 h2, th_w_hit, if_neg h1, th_w_hit, if_neg h2]⟩
    · simp only [if_neg c, if_pos (show (0 : Int32) = 0 from rfl)]
      exact ⟨μ, rfl, h6, rfl, fun _ _ => rfl, fun _ _ _ => rfl⟩
def mN (z m : Nat) (p : Nat → Int32) (a : Nat) (μ μ' : th_M) : Prop := μ' (z + 27) 23 = nI a ∧ μ' (z + 27) 22 = nI (eT p m a) ∧ μ' (z + 27) 24 = sT p m a ∧ (sT p m a = 1 → μ' (z + 27) 25 = vT p m a) ∧ (sT p m a = 3 → μ' (z + 27) 25 = p a) ∧ (∀ q, q ≠ z + 27 → μ' q = μ q) ∧ ∀ j, (j < 22 ∨ 25 < j) → μ' (z + 27) j = μ (z + 27) j
theorem sgn {α : Type} (v : Int32) (x y : α) : (if v = 40 then x else if v = 41 then x else if v = 59 then x else if v = 43 then x else if v = 45 then x else if v = 42 then x else if v = 60 then x else if v = 61 then x else y) = if isG v = true then x else y := by
  unfold isG
  by_cases c1 : v = 40
  · simp [c1]
  by_cases c2 : v = 41
  · simp [c2]
  by_cases c3 : v = 59
  · simp [c3]
  by_cases c4 : v = 43
  · simp [c4]
  by_cases c5 : v = 45
  · simp [c5]
  by_cases c6 : v = 42
  · simp [c6]
  by_cases c7 : v = 60
  · simp [c7]
  by_cases c8 : v = 61
  · simp [c8]
  simp [c1, c2, c3, c4, c5, c6, c7, c8]
theorem m_b52 (hU : SX σ z) (E : ME z m p μ) (h5 : μ (z + 27) 22 = nI a) (ham : a ≤ m) : ∃ μ', f_X11_next_b52 σ μ (z + 27) = some μ' ∧ mN z m p a μ μ' := by
  have m160 := E.1
  unfold f_X11_next_b52
  have r22 : ∀ v : Int32, th_w μ (z + 27) 23 v (z + 27) 22 = nI a := fun v => by rw [th_w_hit, if_neg (by decide)]; exact h5
  have r15 : ∀ v : Int32, th_w μ (z + 27) 23 v (z + 27) 15 = nI m := fun v => by rw [th_w_hit, if_neg (by decide)]; exact E.2.1
  have r0 : ∀ v : Int32, th_w μ (z + 27) 23 v (z + 35) = μ (z + 35) := fun v => th_w_ne _ _ (by omega)
  rw [i_27 hU, Option.bind_some, h5, p_27 hU, Option.bind_some, i_27 hU, Option.bind_some, i_27 hU, Option.bind_some, r22, r15]
  by_cases c : m ≤ a
  · have e : a = m := by omega
    subst e
    have eS : sT p a a = 0 := by unfold sT; rw [if_pos c]
    rw [if_pos rfl, p_27 hU, Option.bind_some]
    refine ⟨_, rfl, by rw [th_w_hit, if_neg (by decide), th_w_self], by rw [th_w_hit, if_neg (by decide), r22]; unfold eT; rw [if_pos c], by rw [th_w_self, eS], fun q => ?_, fun q => ?_, fun q hq => by rw [th_w_ne _ _ hq, th_w_ne _ _ hq], fun j hj => by rw [th_w_hit, if_neg (by omega), th_w_hit, if_neg (by omega)]⟩
    · rw [eS] at q; exact absurd q (by decide)
    · rw [eS] at q; exact absurd q (by decide)
  · have pa := (E.2.2 a (by omega)).1
    rw [if_neg (fun q => by have := (nI_eq (by omega) (by omega)).mp q; omega)]
    rw [r_27_16 hU, Option.bind_some, Option.bind_some, a_35 hU (by omega), Option.bind_some, r0, pa, m_isD, Option.bind_some]
    by_cases g : isD (p a) = true
    · have nL : ¬ isL (p a) = true := fun q => by rw [LD _ q] at g; exact absurd g (by decide)
      rw [if_pos g, if_neg n10, p_27 hU, Option.bind_some]
      obtain ⟨μ1, a1, a2, a3, a4, a5⟩ := ms_num hU (a := a) (m - a) a fu (th_w (th_w μ (z + 27) 23 (nI a)) (z + 27) 25 0) (by omega) (by unfold fu; omega) (Nat.le_refl _) ((E.w (by decide)).w (by decide)) (by rw [th_w_hit, if_neg (by decide)]; exact r22 _) (by rw [th_w_hit, if_neg (by decide), th_w_self])
      have l := dg_le p (m - a) a
      have s3 : μ1 (z + 27) 23 = nI a := by rw [a5 23 (by decide) (by decide), th_w_hit, if_neg (by decide), th_w_self]
      have fr1 : ∀ j, (j < 22 ∨ 25 < j) → μ1 (z + 27) j = μ (z + 27) j := fun j hj => by rw [a5 j (by omega) (by omega), th_w_hit, if_neg (by omega), th_w_hit, if_neg (by omega)]
      have fq1 : ∀ q, q ≠ z + 27 → μ1 q = μ q := fun q hq => by rw [a4 q hq, th_w_ne _ _ hq, th_w_ne _ _ hq]
      have eE : eT p m a = dg p (m - a) a := by unfold eT; rw [if_neg c, if_neg nL, if_pos g]
      rw [a1]
      unfold f_X11_next_b175
      rw [i_27 hU, Option.bind_some, i_27 hU, Option.bind_some, a2, s3, nI_sub l.1]
      by_cases u : 4 < dg p (m - a) a - a
      · have eS : sT p m a = 4 := by unfold sT; rw [if_neg c, if_neg nL, if_pos g, if_pos u]
        rw [if_neg (show ¬ _ ≤ (4 : Int32) from (nI_ge u (by omega) : ¬ _ ≤ nI 4)), p_27 hU, Option.bind_some]
        refine ⟨_, rfl, by rw [th_w_hit, if_neg (by decide)]; exact s3, by rw [th_w_hit, if_neg (by decide), eE]; exact a2, by rw [th_w_self, eS], fun q => ?_, fun q => ?_, fun q hq => by rw [th_w_ne _ _ hq]; exact fq1 q hq, fun j hj => by rw [th_w_hit, if_neg (by omega)]; exact fr1 j hj⟩
        · rw [eS] at q; exact absurd q (by decide)
        · rw [eS] at q; exact absurd q (by decide)
      · have eS : sT p m a = 1 := by unfold sT; rw [if_neg c, if_neg nL, if_pos g, if_neg u]
        have s8 : μ1 (z + 27) 25 = vT p m a := by
          rw [a3, th_w_self, nm_nx _ _ _ (Nat.le_refl _) (by omega)]; rfl
        rw [if_pos (show _ ≤ (4 : Int32) from (nI_le (by omega) (by decide) : _ ≤ nI 4)), p_27 hU, Option.bind_some]
        refine ⟨_, rfl, by rw [th_w_hit, if_neg (by decide)]; exact s3, by rw [th_w_hit, if_neg (by decide), eE]; exact a2, by rw [th_w_self, eS], fun _ => by rw [th_w_hit, if_neg (by decide)]; exact s8, fun q => ?_, fun q hq => by rw [th_w_ne _ _ hq]; exact fq1 q hq, fun j hj => by rw [th_w_hit, if_neg (by omega)]; exact fr1 j hj⟩
        rw [eS] at q; exact absurd q (by decide)
    · rw [if_neg g, if_pos rfl, m_isL, Option.bind_some]
      by_cases d : isL (p a) = true
      · have eS : sT p m a = 2 := by unfold sT; rw [if_neg c, if_pos d]
        rw [if_pos d, if_neg n10]
        obtain ⟨μ1, a1, a2, a3, a4, a5⟩ := ms_let hU (m - a) a fu (th_w μ (z + 27) 23 (nI a)) (by omega) (by unfold fu; omega) (E.w (by decide)) (r22 _)
        rw [a1]
        refine ⟨μ1, rfl, by rw [a5 23 (by decide) (by decide), th_w_self], by rw [a2]; unfold eT; rw [if_neg c, if_pos d], by rw [a3, eS], fun q => ?_, fun q => ?_, fun q hq => by rw [a4 q hq, th_w_ne _ _ hq], fun j hj => by rw [a5 j (by omega) (by omega), th_w_hit, if_neg (by omega)]⟩
        · rw [eS] at q; exact absurd q (by decide)
        · rw [eS] at q; exact absurd q (by decide)
      · have eE : eT p m a = a + 1 := by unfold eT; rw [if_neg c, if_neg d, if_neg g]
        rw [if_neg d, if_pos rfl, Option.bind_some, nI_1, p_27 hU, Option.bind_some, p_27 hU, Option.bind_some]
        simp only [p_27 hU, Option.bind_some]
        rw [sgn]
        by_cases u : isG (p a) = true
        · have eS : sT p m a = 3 := by unfold sT; rw [if_neg c, if_neg d, if_neg g, if_pos u]
          rw [if_pos u]
          refine ⟨_, rfl, ?_, ?_, by rw [th_w_self, eS], fun q => ?_, fun _ => ?_, fun q hq => by rw [th_w_ne _ _ hq, th_w_ne _ _ hq, th_w_ne _ _ hq, th_w_ne _ _ hq], fun j hj => by rw [th_w_hit, if_neg (by omega), th_w_hit, if_neg (by omega), th_w_hit, if_neg (by omega), th_w_hit, if_neg (by omega)]⟩
          · rw [th_w_hit, if_neg (by decide), th_w_hit, if_neg (by decide), th_w_hit, if_neg (by decide), th_w_self]
          · rw [th_w_hit, if_neg (by decide), th_w_hit, if_neg (by decide), th_w_self, eE]
          · rw [eS] at q; exact absurd q (by decide)
          · rw [th_w_hit, if_neg (by decide), th_w_self]
        · have eS : sT p m a = 4 := by unfold sT; rw [if_neg c, if_neg d, if_neg g, if_neg u]
          rw [if_neg u]
          refine ⟨_, rfl, ?_, ?_, by rw [th_w_self, eS], fun q => ?_, fun q => ?_, fun q hq => by rw [th_w_ne _ _ hq, th_w_ne _ _ hq, th_w_ne _ _ hq, th_w_ne _ _ hq], fun j hj => by rw [th_w_hit, if_neg (by omega), th_w_hit, if_neg (by omega), th_w_hit, if_neg (by omega), th_w_hit, if_neg (by omega)]⟩
          · rw [th_w_hit, if_neg (by decide), th_w_hit, if_neg (by decide), th_w_hit, if_neg (by decide), th_w_self]
          · rw [th_w_hit, if_neg (by decide), th_w_hit, if_neg (by decide), th_w_self, eE]
          · rw [eS] at q; exact absurd q (by decide)
          · rw [eS] at q; exact absurd q (by decide)
theorem m_next (hU : SX σ z) (E : ME z m p μ) (h6 : μ (z + 27) 22 = nI e) (hem : e ≤ m) : ∃ μ', f_X11_next σ μ (z + 27) = some μ' ∧ mN z m p (sk p (m - e) e) μ μ' := by
  have m160 := E.1
  have l := sk_le p (m - e) e
  obtain ⟨μ1, a1, a2, a3, a4⟩ := ms_blank hU (m - e) e fu μ (by omega) (by unfold fu; omega) E h6
  have E1 : ME z m p μ1 := E.fr (a3 _ (by omega)) (a4 15 (by decide))
  obtain ⟨μ', b1, b2, b3, b4, b5, b6, b7, b8⟩ := m_b52 hU E1 a2 (by omega)
  refine ⟨μ', ?_, b2, b3, b4, b5, b6, fun q hq => by rw [b7 q hq, a3 q hq], fun j hj => by rw [b8 j hj, a4 j (by omega)]⟩
  unfold f_X11_next
  rw [a1, b1]
/-! is it this word, this sign -/
theorem ms_spell (hU : SX σ z) {w : Nat} (hw : w < 13) (E : ME z m p μ) (h5 : μ (z + 27) 23 = nI a) (hm : a + th_len.getD w 0 ≤ m) : ∀ k i f, i + k = th_len.getD w 0 → k < f → f_X11_is_b28 f σ μ (z + 27) w (nI i) = some (if ml p a w k i = true then 1 else 0) := by
  have m160 := E.1
  have wl := (w_len w hw).2
  intro k
  induction k with
  | zero =>
    intro i f hi hf
    obtain ⟨f, rfl⟩ : ∃ f', f = f' + 1 := ⟨f - 1, by omega⟩
    show (oT w).bind _ = _
    rw [oT_n hw, Option.bind_some, if_pos (nI_le (by omega) (by omega))]
    rfl
  | succ k ih =>
    intro i f hi hf
    obtain ⟨f, rfl⟩ : ∃ f', f = f' + 1 := ⟨f - 1, by omega⟩
    show (oT w).bind _ = some (if (if wbyte w i = p (a + i) then ml p a w k (i + 1) else false) = true then 1 else 0)
    have ch : f_J0_charAt_5068e w (nI i) = some (wbyte w i) := oU_n hw (by omega)
    rw [oT_n hw, Option.bind_some, if_neg (nI_ge (by omega) (by omega)), r_27_16 hU, Option.bind_some, i_27 hU, Option.bind_some, h5, nI_add, a_35 hU (by omega), Option.bind_some, (E.2.2 (a + i) (by omega)).1, ch, Option.bind_some, nI_1]
    by_cases c : wbyte w i = p (a + i)
    · rw [if_pos c, if_pos c.symm]
      exact ih (i + 1) f (by omega) (by omega)
    · rw [if_neg c, if_neg (fun q => c q.symm)]
      rfl
theorem m_is (hU : SX σ z) {w : Nat} (hw : w < 12) (E : ME z m p μ) (h23 : μ (z + 27) 23 = nI a) (h22 : μ (z + 27) 22 = nI (eT p m a)) (h24 : μ (z + 27) 24 = sT p m a) (ham : a ≤ m) : f_X11_is σ μ (z + 27) (w + 1) = some (if kT p m a = nI w then 1 else 0) := by
  have m160 := E.1
  have wl := (w_len (w + 1) (by omega)).2
  have ln : f_J0_length_8abf5 (w + 1) = some (nI (th_len.getD (w + 1) 0)) := oT_n (by omega)
  have l := eT_le (p := p) ham
  have no : ∀ v : Int32, v < 0 → ¬ v = nI w := fun v hv q => by rw [q] at hv; exact nI_pos (by omega) hv
  have big : ∀ k : Nat, 12 ≤ k → k < 256 → ¬ nI k = nI w := fun k h1 h2 q => by have := (nI_eq (by omega) (by omega)).mp q; omega
  unfold f_X11_is
  rw [i_27 hU, Option.bind_some, h24]
  by_cases c : m ≤ a
  · rw [show sT p m a = 0 by unfold sT; rw [if_pos c], if_neg (by decide), show kT p m a = -1 by unfold kT; rw [if_pos c], if_neg (no _ (by decide))]
  · by_cases d : isL (p a) = true
    · have eE : eT p m a = le p (m - a) a := by unfold eT; rw [if_neg c, if_pos d]
      rw [show sT p m a = 2 by unfold sT; rw [if_neg c, if_pos d], if_pos rfl, i_27 hU, Option.bind_some, i_27 hU, Option.bind_some, ln, Option.bind_some, h22, h23, nI_sub l.1]
      have eK : kT p m a = wcode p a (le p (m - a) a) := by unfold kT; rw [if_neg c, if_pos d]
      have key : (if kT p m a = nI w then (1 : Int32) else 0) = if mt p a (eT p m a) (w + 1) = true then 1 else 0 := by
        rw [eK, eE]
        by_cases g : mt p a (le p (m - a) a) (w + 1) = true
        · rw [if_pos g, if_pos ((wcode_iff hw).mpr g)]
        · rw [if_neg g, if_neg (fun q => g ((wcode_iff hw).mp q))]
      rw [key]
      unfold mt
      by_cases g : th_len.getD (w + 1) 0 = eT p m a - a
      · rw [if_pos (by rw [g]), show f_X11_is_b28 fu σ μ (z + 27) (w + 1) 0 = _ from ms_spell hU (by omega) E h23 (by omega) _ 0 fu (Nat.zero_add _) (by unfold fu; omega), decide_eq_true g, Bool.true_and]
      · rw [if_neg (fun q => g ((nI_eq (by omega) (by omega)).mp q.symm)), decide_eq_false g, Bool.false_and]
        rfl
    · by_cases g : isD (p a) = true
      · by_cases u : 4 < dg p (m - a) a - a
        · rw [show sT p m a = 4 by unfold sT; rw [if_neg c, if_neg d, if_pos g, if_pos u], if_neg (by decide), show kT p m a = -2 by unfold kT; rw [if_neg c, if_neg d, if_pos g, if_pos u], if_neg (no _ (by decide))]
        · rw [show sT p m a = 1 by unfold sT; rw [if_neg c, if_neg d, if_pos g, if_neg u], if_neg (by decide), show kT p m a = 12 by unfold kT; rw [if_neg c, if_neg d, if_pos g, if_neg u], if_neg (show ¬ (12 : Int32) = nI w from big 12 (by decide) (by decide))]
      · by_cases u : isG (p a) = true
        · obtain ⟨b, hb, eb⟩ := (E.2.2 a (by omega)).2
          have b40 : 12 ≤ b := by
            by_cases q : 12 ≤ b
            · exact q
            · exfalso
              have lo : ∀ b, b < 12 → isG (nI b) = false := by decide +kernel
              rw [eb, lo b (by omega)] at u
              exact absurd u (by decide)
          rw [show sT p m a = 3 by unfold sT; rw [if_neg c, if_neg d, if_neg g, if_pos u], if_neg (by decide), show kT p m a = p a by unfold kT; rw [if_neg c, if_neg d, if_neg g, if_pos u], eb, if_neg (big b b40 (by omega))]
        · rw [show sT p m a = 4 by unfold sT; rw [if_neg c, if_neg d, if_neg g, if_neg u], if_neg (by decide), show kT p m a = -2 by unfold kT; rw [if_neg c, if_neg d, if_neg g, if_neg u], if_neg (no _ (by decide))]
theorem m_is_ (hU : SX σ z) {s : Nat} (hs : 13 ≤ s) (hs2 : s < 256) (h24 : μ (z + 27) 24 = sT p m a) (h25 : sT p m a = 3 → μ (z + 27) 25 = p a) (hg : isG (nI s) = true) : f_X11_is_ σ μ (z + 27) (nI s) = some (if kT p m a = nI s then 1 else 0) := by
  have no : ∀ v : Int32, v < 0 → ¬ v = nI s := fun v hv q => by rw [q] at hv; exact nI_pos (by omega) hv
  have big : ∀ k : Nat, k ≤ 12 → ¬ nI k = nI s := fun k h1 q => by have := (nI_eq (by omega) (by omega)).mp q; omega
  unfold f_X11_is_
  rw [i_27 hU, Option.bind_some, h24]
  by_cases c : m ≤ a
  · rw [show sT p m a = 0 by unfold sT; rw [if_pos c], if_neg (by decide), show kT p m a = -1 by unfold kT; rw [if_pos c], if_neg (no _ (by decide))]
  · by_cases d : isL (p a) = true
    · have eK : kT p m a = wcode p a (le p (m - a) a) := by unfold kT; rw [if_neg c, if_pos d]
      rw [show sT p m a = 2 by unfold sT; rw [if_neg c, if_pos d], if_neg (by decide), eK]
      rcases wcode_cases (p := p) a (le p (m - a) a) with ⟨w1, -⟩ | ⟨j, hj, w1, -⟩
      · rw [w1, if_neg (no _ (by decide))]
      · rw [w1, if_neg (big j (by omega))]
    · by_cases g : isD (p a) = true
      · by_cases u : 4 < dg p (m - a) a - a
        · rw [show sT p m a = 4 by unfold sT; rw [if_neg c, if_neg d, if_pos g, if_pos u], if_neg (by decide), show kT p m a = -2 by unfold kT; rw [if_neg c, if_neg d, if_pos g, if_pos u], if_neg (no _ (by decide))]
        · rw [show sT p m a = 1 by unfold sT; rw [if_neg c, if_neg d, if_pos g, if_neg u], if_neg (by decide), show kT p m a = 12 by unfold kT; rw [if_neg c, if_neg d, if_pos g, if_neg u], if_neg (show ¬ (12 : Int32) = nI s from big 12 (by decide))]
      · by_cases u : isG (p a) = true
        · have e3 : sT p m a = 3 := by unfold sT; rw [if_neg c, if_neg d, if_neg g, if_pos u]
          rw [e3, if_pos rfl, i_27 hU, Option.bind_some, h25 e3, show kT p m a = p a by unfold kT; rw [if_neg c, if_neg d, if_neg g, if_pos u]]
          by_cases v : p a = nI s
          · rw [if_pos v, if_pos v]
          · rw [if_neg v, if_neg v]
        · rw [show sT p m a = 4 by unfold sT; rw [if_neg c, if_neg d, if_neg g, if_neg u], if_neg (by decide), show kT p m a = -2 by unfold kT; rw [if_neg c, if_neg d, if_neg g, if_neg u], if_neg (no _ (by decide))]
end MS
