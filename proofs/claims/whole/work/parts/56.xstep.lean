section XS
variable {z : Nat} {σ : th_S} {m a e : Nat} {p : Nat → Int32} {μ μ' : th_M}
/-- the tape's cells alone -/
def XT (σ : th_S) (z : Nat) : Prop := σ.1 (z + 4) = 8 ∧ (σ.1 (z + 5) = 12 ∧ σ.2.1 (z + 5) = 160) ∧ (σ.1 (z + 6) = 12 ∧ σ.2.1 (z + 6) = 160) ∧ (σ.1 (z + 7) = 12 ∧ σ.2.1 (z + 7) = 3) ∧ σ.2.2.1 (z + 4) 0 = some (z + 5) ∧ σ.2.2.1 (z + 4) 2 = some (z + 6) ∧ σ.2.2.1 (z + 4) 4 = some (z + 7)
theorem SX.xT (h : SX σ z) : XT σ z := ⟨sk_4 h, ⟨sk_5 h, sl_5 h⟩, ⟨sk_6 h, sl_6 h⟩, ⟨sk_7 h, sl_7 h⟩, sr_4_0 h, sr_4_2 h, sr_4_4 h⟩
theorem ti_4 (h : XT σ z) (k : Nat) : oI σ μ 8 (z + 4) k = some (μ (z + 4) k) := by unfold oI; rw [if_pos h.1]
theorem tp_4 (h : XT σ z) (k : Nat) (v : Int32) : oPI σ μ 8 (z + 4) k v = some (th_w μ (z + 4) k v) := by unfold oPI; rw [if_pos h.1]
theorem tc_4 (h : XT σ z) {α : Type} (x : Option α) : oC σ 8 (z + 4) x = x := by unfold oC; rw [if_pos h.1]
theorem tr_4_0 (h : XT σ z) : oR σ 8 (z + 4) 0 = some (z + 5) := by unfold oR; rw [if_pos h.1]; exact h.2.2.2.2.1
theorem tr_4_2 (h : XT σ z) : oR σ 8 (z + 4) 2 = some (z + 6) := by unfold oR; rw [if_pos h.1]; exact h.2.2.2.2.2.1
theorem tr_4_4 (h : XT σ z) : oR σ 8 (z + 4) 4 = some (z + 7) := by unfold oR; rw [if_pos h.1]; exact h.2.2.2.2.2.2
theorem ta_5 (h : XT σ z) {b : Nat} (hb : b < 160) : oA σ μ (z + 5) (nI b) = some (μ (z + 5) b) := oA_nI h.2.1.1 h.2.1.2 (by decide) hb
theorem ts_5 (h : XT σ z) {b : Nat} {v : Int32} (hb : b < 160) : oS σ μ (z + 5) (nI b) v = some (th_w μ (z + 5) b v) := oS_nI h.2.1.1 h.2.1.2 (by decide) hb
theorem ts_6 (h : XT σ z) {b : Nat} {v : Int32} (hb : b < 160) : oS σ μ (z + 6) (nI b) v = some (th_w μ (z + 6) b v) := oS_nI h.2.2.1.1 h.2.2.1.2 (by decide) hb
theorem ts_7 (h : XT σ z) {b : Nat} {v : Int32} (hb : b < 3) : oS σ μ (z + 7) (nI b) v = some (th_w μ (z + 7) b v) := oS_nI h.2.2.2.1.1 h.2.2.2.1.2 (by decide) hb
theorem XT.up {σ' : th_S} (h : XT σ z) (F : ∀ q, q < z + 8 → σ'.1 q = σ.1 q ∧ σ'.2.1 q = σ.2.1 q ∧ σ'.2.2.1 q = σ.2.2.1 q) : XT σ' z := by
  obtain ⟨h1, h2, h3, h4, h5, h6, h7⟩ := h
  exact ⟨by rw [(F _ (by omega)).1]; exact h1, by rw [(F (z + 5) (by omega)).1, (F (z + 5) (by omega)).2.1]; exact h2, by rw [(F (z + 6) (by omega)).1, (F (z + 6) (by omega)).2.1]; exact h3, by rw [(F (z + 7) (by omega)).1, (F (z + 7) (by omega)).2.1]; exact h4, by rw [(F (z + 4) (by omega)).2.2]; exact h5, by rw [(F (z + 4) (by omega)).2.2]; exact h6, by rw [(F (z + 4) (by omega)).2.2]; exact h7⟩
/-! the class takes a token in hand -/
def XE (z m : Nat) (p : Nat → Int32) (μ : th_M) : Prop := m ≤ 160 ∧ μ (z + 4) 1 = nI m ∧ ∀ i, i < m → μ (z + 5) i = p i ∧ rg (p i) 255
theorem XE.fr (h : XE z m p μ) (e5 : μ' (z + 5) = μ (z + 5)) (e1 : μ' (z + 4) 1 = μ (z + 4) 1) : XE z m p μ' := ⟨h.1, by rw [e1]; exact h.2.1, fun i hi => by rw [e5]; exact h.2.2 i hi⟩
theorem XE.w (h : XE z m p μ) {k : Nat} {v : Int32} (hk : k ≠ 1) : XE z m p (th_w μ (z + 4) k v) := h.fr (th_w_ne _ _ (by omega)) (by rw [th_w_hit, if_neg (fun q => hk q.symm)])
theorem xs_blank (hU : XT σ z) : ∀ k a f μ, a + k = m → k < f → XE z m p μ → μ (z + 4) 5 = nI a → ∃ μ', f_X8_step_b8 f σ μ (z + 4) = f_X8_step_b60 σ μ' (z + 4) ∧ μ' (z + 4) 5 = nI (sk p k a) ∧ (∀ q, q ≠ z + 4 → μ' q = μ q) ∧ ∀ j, j ≠ 5 → μ' (z + 4) j = μ (z + 4) j := by
  intro k
  induction k with
  | zero =>
    intro a f μ ha hf E h5
    obtain ⟨f, rfl⟩ : ∃ f', f = f' + 1 := ⟨f - 1, by omega⟩
    have e : a = m := by omega
    subst e
    refine ⟨μ, ?_, h5, fun _ _ => rfl, fun _ _ => rfl⟩
    show (oI σ μ 8 (z + 4) 5).bind _ = _
    rw [ti_4 hU, Option.bind_some, ti_4 hU, Option.bind_some, h5, E.2.1, if_pos (Int32.le_refl _)]
  | succ k ih =>
    intro a f μ ha hf E h5
    obtain ⟨f, rfl⟩ : ∃ f', f = f' + 1 := ⟨f - 1, by omega⟩
    have m160 := E.1
    obtain ⟨μ', a1, a2, a3, a4⟩ := ih (a + 1) f (th_w μ (z + 4) 5 (nI (a + 1))) (by omega) (by omega) (E.w (by decide)) (th_w_self _ _ _ _)
    have fin : isB (p a) = true → ∃ μ', f_X8_step_b8 f σ (th_w μ (z + 4) 5 (nI (a + 1))) (z + 4) = f_X8_step_b60 σ μ' (z + 4) ∧ μ' (z + 4) 5 = nI (sk p (k + 1) a) ∧ (∀ q, q ≠ z + 4 → μ' q = μ q) ∧ ∀ j, j ≠ 5 → μ' (z + 4) j = μ (z + 4) j := fun hb =>
      ⟨μ', a1, by rw [a2]; show _ = nI (if isB (p a) = true then sk p k (a + 1) else a); rw [if_pos hb], fun q hq => by rw [a3 q hq, th_w_ne _ _ hq], fun j hj => by rw [a4 j hj, th_w_hit, if_neg hj]⟩
    show ∃ μ' : th_M, (oI σ μ 8 (z + 4) 5).bind _ = _ ∧ _
    simp only [ti_4 hU, Option.bind_some, h5, E.2.1, if_neg (nI_ge (show a < m by omega) (by omega)), tr_4_0 hU, ta_5 hU (show a < 160 by omega), (E.2.2 a (by omega)).1, tp_4 hU, nI_1]
    by_cases c : p a = 32
    · rw [if_pos c]
      exact fin (by unfold isB; rw [c]; decide)
    · rw [if_neg c]
      by_cases d : p a = 10
      · rw [if_pos d]
        exact fin (by unfold isB; rw [d]; decide)
      · rw [if_neg d]
        refine ⟨μ, rfl, ?_, fun _ _ => rfl, fun _ _ => rfl⟩
        show _ = nI (if isB (p a) = true then sk p k (a + 1) else a)
        rw [if_neg (by unfold isB; simp [c, d])]
        exact h5
theorem xs_let (hU : XT σ z) : ∀ k i f μ, i + k = m → k < f → XE z m p μ → μ (z + 4) 6 = nI i → ∃ μ', f_X8_takeWord_b0 f σ μ (z + 4) = f_X8_takeWord_b47 fu σ μ' (z + 4) 0 ∧ μ' (z + 4) 6 = nI (le p k i) ∧ μ' (z + 4) 7 = -2 ∧ (∀ q, q ≠ z + 4 → μ' q = μ q) ∧ ∀ j, j ≠ 6 → j ≠ 7 → μ' (z + 4) j = μ (z + 4) j := by
  intro k
  induction k with
  | zero =>
    intro i f μ hi hf E h6
    obtain ⟨f, rfl⟩ : ∃ f', f = f' + 1 := ⟨f - 1, by omega⟩
    have e : i = m := by omega
    subst e
    refine ⟨th_w μ (z + 4) 7 (-2), ?_, by rw [th_w_hit, if_neg (by decide)]; exact h6, th_w_self _ _ _ _, fun q hq => th_w_ne _ _ hq, fun j h1 h2 => by rw [th_w_hit, if_neg h2]⟩
    show (oI σ μ 8 (z + 4) 6).bind _ = _
    rw [ti_4 hU, Option.bind_some, ti_4 hU, Option.bind_some, h6, E.2.1, if_pos (Int32.le_refl _), tp_4 hU, Option.bind_some]
  | succ k ih =>
    intro i f μ hi hf E h6
    obtain ⟨f, rfl⟩ : ∃ f', f = f' + 1 := ⟨f - 1, by omega⟩
    have m160 := E.1
    show ∃ μ' : th_M, (oI σ μ 8 (z + 4) 6).bind _ = _ ∧ μ' (z + 4) 6 = nI (if isL (p i) = true then le p k (i + 1) else i) ∧ _
    simp only [ti_4 hU, Option.bind_some, h6, E.2.1, if_neg (nI_ge (show i < m by omega) (by omega)), tr_4_0 hU, ta_5 hU (show i < 160 by omega), (E.2.2 i (by omega)).1, x_isL, tp_4 hU, nI_1]
    by_cases c : isL (p i) = true
    · simp only [if_pos c, if_neg n10]
      obtain ⟨μ', a1, a2, a3, a4, a5⟩ := ih (i + 1) f (th_w μ (z + 4) 6 (nI (i + 1))) (by omega) (by omega) (E.w (by decide)) (th_w_self _ _ _ _)
      exact ⟨μ', a1, a2, a3, fun q hq => by rw [a4 q hq, th_w_ne _ _ hq], fun j h1 h2 => by rw [a5 j h1 h2, th_w_hit, if_neg h1]⟩
    · simp only [if_neg c, if_pos (show (0 : Int32) = 0 from rfl)]
      exact ⟨th_w μ (z + 4) 7 (-2), rfl, by rw [th_w_hit, if_neg (by decide)]; exact h6, th_w_self _ _ _ _, fun q hq => th_w_ne _ _ hq, fun j h1 h2 => by rw [th_w_hit, if_neg h2]⟩
theorem oT_n {w : Nat} (hw : w < 13) : oT w = some (nI (th_len.getD w 0)) := by
  unfold oT
  rw [if_pos hw]
  rfl
theorem oU_n {w i : Nat} (hw : w < 13) (hi : i < th_len.getD w 0) : oU w (nI i) = some (wbyte w i) := by
  have := (w_len w hw).2
  unfold oU
  rw [if_pos ⟨hw, nI_in hi (by omega)⟩, nI_clamp (by omega)]
  rfl
theorem xs_spell (hU : XT σ z) {w : Nat} (hw : w < 13) (E : XE z m p μ) (h5 : μ (z + 4) 5 = nI a) (hm : a + th_len.getD w 0 ≤ m) : ∀ k i f, i + k = th_len.getD w 0 → k < f → f_X8_isSpelled_b20 f σ μ (z + 4) w (nI i) = some (if ml p a w k i = true then 1 else 0) := by
  have m160 := E.1
  have wl := (w_len w hw).2
  intro k
  induction k with
  | zero =>
    intro i f hi hf
    obtain ⟨f, rfl⟩ : ∃ f', f = f' + 1 := ⟨f - 1, by omega⟩
    show (oT w).bind _ = _
    rw [oT_n hw, Option.bind_some, if_pos (nI_le (by omega) (by omega))]
    rfl
  | succ k ih =>
    intro i f hi hf
    obtain ⟨f, rfl⟩ : ∃ f', f = f' + 1 := ⟨f - 1, by omega⟩
    show (oT w).bind _ = some (if (if wbyte w i = p (a + i) then ml p a w k (i + 1) else false) = true then 1 else 0)
    have ch : f_J0_charAt_5068e w (nI i) = some (wbyte w i) := oU_n hw (by omega)
    rw [oT_n hw, Option.bind_some, if_neg (nI_ge (by omega) (by omega)), ch, Option.bind_some, tr_4_0 hU, Option.bind_some, ti_4 hU, Option.bind_some, h5, nI_add, ta_5 hU (by omega), Option.bind_some, (E.2.2 (a + i) (by omega)).1, nI_1]
    by_cases c : wbyte w i = p (a + i)
    · rw [if_pos c, if_pos c]
      exact ih (i + 1) f (by omega) (by omega)
    · rw [if_neg c, if_neg c]
      rfl
theorem x_spelled (hU : XT σ z) {w : Nat} (hw : w < 13) (E : XE z m p μ) (h5 : μ (z + 4) 5 = nI a) (h6 : μ (z + 4) 6 = nI e) (hae : a ≤ e) (hm : e ≤ m) : f_X8_isSpelled σ μ (z + 4) w = some (if mt p a e w = true then 1 else 0) := by
  have m160 := E.1
  have wl := (w_len w hw).2
  have ln : f_J0_length_8abf5 w = some (nI (th_len.getD w 0)) := oT_n hw
  unfold f_X8_isSpelled mt
  rw [ln, Option.bind_some, ti_4 hU, Option.bind_some, ti_4 hU, Option.bind_some, h5, h6, nI_sub hae]
  by_cases c : th_len.getD w 0 = e - a
  · rw [if_pos (by rw [c]), show f_X8_isSpelled_b20 fu σ μ (z + 4) w 0 = _ from xs_spell hU hw E h5 (by omega) _ 0 fu (Nat.zero_add _) (by unfold fu; omega), decide_eq_true c, Bool.true_and]
  · rw [if_neg (fun q => c ((nI_eq (by omega) (by omega)).mp q)), decide_eq_false c, Bool.false_and]
    rfl
theorem spell_n : ∀ i, i < 12 → f_X8_spelling (nI i) = some (i + 1) := by decide +kernel
theorem xs_words (hU : XT σ z) (hae : a ≤ e) (hm : e ≤ m) : ∀ k i f μ, i + k = 12 → k < f → XE z m p μ → μ (z + 4) 5 = nI a → μ (z + 4) 6 = nI e → ∃ μ', f_X8_takeWord_b47 f σ μ (z + 4) (nI i) = some μ' ∧ μ' (z + 4) 7 = wl p a e k i (μ (z + 4) 7) ∧ (∀ q, q ≠ z + 4 → μ' q = μ q) ∧ ∀ j, j ≠ 7 → μ' (z + 4) j = μ (z + 4) j := by
  intro k
  induction k with
  | zero =>
    intro i f μ hi hf E h5 h6
    obtain ⟨f, rfl⟩ : ∃ f', f = f' + 1 := ⟨f - 1, by omega⟩
    refine ⟨μ, ?_, rfl, fun _ _ => rfl, fun _ _ => rfl⟩
    show (if nI 12 ≤ nI i then _ else _) = _
    rw [if_pos (nI_le (by omega) (by omega))]
  | succ k ih =>
    intro i f μ hi hf E h5 h6
    obtain ⟨f, rfl⟩ : ∃ f', f = f' + 1 := ⟨f - 1, by omega⟩
    show ∃ μ' : th_M, (if nI 12 ≤ nI i then _ else _) = _ ∧ μ' (z + 4) 7 = wl p a e k (i + 1) (if mt p a e (i + 1) = true then nI i else μ (z + 4) 7) ∧ _
    rw [if_neg (nI_ge (by omega) (by decide)), spell_n i (by omega), Option.bind_some, tc_4 hU, x_spelled hU (by omega) E h5 h6 hae hm, Option.bind_some, nI_1]
    by_cases c : mt p a e (i + 1) = true
    · simp only [if_pos c, if_neg n10]
      rw [tp_4 hU, Option.bind_some]
      obtain ⟨μ', a1, a2, a3, a4⟩ := ih (i + 1) f (th_w μ (z + 4) 7 (nI i)) (by omega) (by omega) (E.w (by decide)) (by rw [th_w_hit, if_neg (by decide)]; exact h5) (by rw [th_w_hit, if_neg (by decide)]; exact h6)
      exact ⟨μ', a1, by rw [a2, th_w_self], fun q hq => by rw [a3 q hq, th_w_ne _ _ hq], fun j hj => by rw [a4 j hj, th_w_hit, if_neg hj]⟩
    · simp only [if_neg c, if_pos (show (0 : Int32) = 0 from rfl)]
      exact ih (i + 1) f μ (by omega) (by omega) E h5 h6
theorem xs_num (hU : XT σ z) : ∀ k i f μ, i + k = m → k < f → XE z m p μ → μ (z + 4) 6 = nI i → ∃ μ', f_X8_takeNumber_b5 f σ μ (z + 4) = f_X8_takeNumber_b68 σ μ' (z + 4) ∧ μ' (z + 4) 6 = nI (dg p k i) ∧ μ' (z + 4) 8 = nx p k i (μ (z + 4) 8) ∧ (∀ q, q ≠ z + 4 → μ' q = μ q) ∧ ∀ j, j ≠ 6 → j ≠ 8 → μ' (z + 4) j = μ (z + 4) j := by
  intro k
  induction k with
  | zero =>
    intro i f μ hi hf E h6
    obtain ⟨f, rfl⟩ : ∃ f', f = f' + 1 := ⟨f - 1, by omega⟩
    have e : i = m := by omega
    subst e
    refine ⟨μ, ?_, h6, rfl, fun _ _ => rfl, fun _ _ _ => rfl⟩
    show (oI σ μ 8 (z + 4) 6).bind _ = _
    rw [ti_4 hU, Option.bind_some, ti_4 hU, Option.bind_some, h6, E.2.1, if_pos (Int32.le_refl _)]
  | succ k ih =>
    intro i f μ hi hf E h6
    obtain ⟨f, rfl⟩ : ∃ f', f = f' + 1 := ⟨f - 1, by omega⟩
    have m160 := E.1
    show ∃ μ' : th_M, (oI σ μ 8 (z + 4) 6).bind _ = _ ∧ μ' (z + 4) 6 = nI (if isD (p i) = true then dg p k (i + 1) else i) ∧ μ' (z + 4) 8 = (if isD (p i) = true then nx p k (i + 1) (((μ (z + 4) 8 * 10) + p i) - 48) else μ (z + 4) 8) ∧ _
    have r6 : ∀ v : Int32, th_w μ (z + 4) 8 v (z + 4) 6 = nI i := fun v => by rw [th_w_hit, if_neg (by decide)]; exact h6
    simp only [ti_4 hU, Option.bind_some, h6, E.2.1, if_neg (nI_ge (show i < m by omega) (by omega)), tr_4_0 hU, ta_5 hU (show i < 160 by omega), (E.2.2 i (by omega)).1, x_isD, tp_4 hU, nI_1, r6]
    by_cases c : isD (p i) = true
    · simp only [if_pos c, if_neg n10]
      obtain ⟨μ', a1, a2, a3, a4, a5⟩ := ih (i + 1) f (th_w (th_w μ (z + 4) 8 (((μ (z + 4) 8 * 10) + p i) - 48)) (z + 4) 6 (nI (i + 1))) (by omega) (by omega) ((E.w (by decide)).w (by decide)) (th_w_self _ _ _ _)
      exact ⟨μ', a1, a2, by rw [a3, th_w_hit, if_neg (by decide), th_w_self], fun q hq => by rw [a4 q hq, th_w_ne _ _ hq, th_w_ne _ _ hq], fun j h1 h2 => by rw [a5 j h1 h2, th_w_hit, if_neg h1, th_w_hit, if_neg h2]⟩
    · simp only [if_neg c, if_pos (show (0 : Int32) = 0 from rfl)]
      exact ⟨μ, rfl, h6, rfl, fun _ _ => rfl, fun _ _ _ => rfl⟩
theorem x_b60 (hU : XT σ z) (E : XE z m p μ) (h5 : μ (z + 4) 5 = nI a) (ham : a ≤ m) : ∃ μ', f_X8_step_b60 σ μ (z + 4) = some μ' ∧ μ' (z + 4) 5 = nI a ∧ μ' (z + 4) 6 = nI (eT p m a) ∧ μ' (z + 4) 7 = kT p m a ∧ (kT p m a = 12 → μ' (z + 4) 8 = vT p m a) ∧ (∀ q, q ≠ z + 4 → μ' q = μ q) ∧ ∀ j, (j < 5 ∨ 8 < j) → μ' (z + 4) j = μ (z + 4) j := by
  have m160 := E.1
  unfold f_X8_step_b60
  have r5 : ∀ v : Int32, th_w μ (z + 4) 6 v (z + 4) 5 = nI a := fun v => by rw [th_w_hit, if_neg (by decide)]; exact h5
  have r1 : ∀ v : Int32, th_w μ (z + 4) 6 v (z + 4) 1 = nI m := fun v => by rw [th_w_hit, if_neg (by decide)]; exact E.2.1
  have r0 : ∀ v : Int32, th_w μ (z + 4) 6 v (z + 5) = μ (z + 5) := fun v => th_w_ne _ _ (by omega)
  rw [ti_4 hU, Option.bind_some, h5, tp_4 hU, Option.bind_some, ti_4 hU, Option.bind_some, ti_4 hU, Option.bind_some, r5, r1]
  by_cases c : m ≤ a
  · have e : a = m := by omega
    subst e
    rw [if_neg (nI_nlt (Nat.le_refl _) (by omega)), tp_4 hU, Option.bind_some]
    refine ⟨_, rfl, by rw [th_w_hit, if_neg (by decide)]; exact r5 _, by rw [th_w_hit, if_neg (by decide), th_w_self]; unfold eT; rw [if_pos c], by rw [th_w_self]; unfold kT; rw [if_pos c], fun q => ?_, fun q hq => by rw [th_w_ne _ _ hq, th_w_ne _ _ hq], fun j hj => by rw [th_w_hit, if_neg (by omega), th_w_hit, if_neg (by omega)]⟩
    exfalso
    unfold kT at q
    rw [if_pos c] at q
    exact absurd q (by decide)
  · have pa := (E.2.2 a (by omega)).1
    obtain ⟨b, hb, eb⟩ := (E.2.2 a (by omega)).2
    rw [if_pos (nI_lt (by omega) (by omega))]
    simp only [tr_4_0 hU, Option.bind_some, ti_4 hU, r5, ta_5 hU (show a < 160 by omega), r0, pa, x_isL, x_isD, tp_4 hU, nI_1, tc_4 hU]
    by_cases d : isL (p a) = true
    · simp only [if_pos d, if_neg n10]
      unfold f_X8_takeWord
      obtain ⟨μ1, a1, a2, a3, a4, a5⟩ := xs_let hU (m - a) a fu (th_w μ (z + 4) 6 (nI a)) (by omega) (by unfold fu; omega) (E.w (by decide)) (th_w_self _ _ _ _)
      have E1 : XE z m p μ1 := (E.w (k := 6) (v := nI a) (by decide)).fr (a4 _ (by omega)) (a5 1 (by decide) (by decide))
      have l := le_le p (m - a) a
      obtain ⟨μ', b1, b2, b3, b4⟩ := xs_words hU (a := a) (e := le p (m - a) a) l.1 (by omega) 12 0 fu μ1 (by decide) (by unfold fu; omega) E1 (by rw [a5 5 (by decide) (by decide)]; exact r5 _) a2
      rw [a1, show f_X8_takeWord_b47 fu σ μ1 (z + 4) 0 = some μ' from b1, Option.bind_some]
      refine ⟨μ', rfl, by rw [b4 5 (by decide), a5 5 (by decide) (by decide)]; exact r5 _, by rw [b4 6 (by decide), a2]; unfold eT; rw [if_neg c, if_pos d], by rw [b2, a3]; unfold kT; rw [if_neg c, if_pos d]; rfl, fun q => ?_, fun q hq => by rw [b3 q hq, a4 q hq, th_w_ne _ _ hq], fun j hj => by rw [b4 j (by omega), a5 j (by omega) (by omega), th_w_hit, if_neg (by omega)]⟩
      exfalso
      unfold kT at q
      rw [if_neg c, if_pos d] at q
      rcases wcode_cases (p := p) a (le p (m - a) a) with ⟨w1, -⟩ | ⟨j, hj, w1, -⟩
      · rw [w1] at q; exact absurd q (by decide)
      · rw [w1] at q
        have := (nI_eq (a := j) (b := 12) (by omega) (by decide)).mp q
        omega
    · simp only [if_neg d, if_pos (show (0 : Int32) = 0 from rfl)]
      by_cases g : isD (p a) = true
      · simp only [if_pos g, if_neg n10]
        unfold f_X8_takeNumber
        rw [tp_4 hU, Option.bind_some]
        obtain ⟨μ1, a1, a2, a3, a4, a5⟩ := xs_num hU (m - a) a fu (th_w (th_w μ (z + 4) 6 (nI a)) (z + 4) 8 0) (by omega) (by unfold fu; omega) ((E.w (by decide)).w (by decide)) (by rw [th_w_hit, if_neg (by decide), th_w_self])
        have l := dg_le p (m - a) a
        have s5 : μ1 (z + 4) 5 = nI a := by rw [a5 5 (by decide) (by decide), th_w_hit, if_neg (by decide)]; exact r5 _
        have s8 : μ1 (z + 4) 8 = vT p m a := by rw [a3, th_w_self]; rfl
        have fr1 : ∀ j, (j < 5 ∨ 8 < j) → μ1 (z + 4) j = μ (z + 4) j := fun j hj => by rw [a5 j (by omega) (by omega), th_w_hit, if_neg (by omega), th_w_hit, if_neg (by omega)]
        have fq1 : ∀ q, q ≠ z + 4 → μ1 q = μ q := fun q hq => by rw [a4 q hq, th_w_ne _ _ hq, th_w_ne _ _ hq]
        rw [a1]
        unfold f_X8_takeNumber_b68
        rw [ti_4 hU, Option.bind_some, ti_4 hU, Option.bind_some, a2, s5, nI_sub l.1]
        have eE : eT p m a = dg p (m - a) a := by unfold eT; rw [if_neg c, if_neg d, if_pos g]
        by_cases u : 4 < dg p (m - a) a - a
        · have eK : kT p m a = -2 := by unfold kT; rw [if_neg c, if_neg d, if_pos g, if_pos u]
          rw [if_pos (show (4 : Int32) < _ from (nI_lt u (by omega) : nI 4 < _)), tp_4 hU, Option.bind_some, Option.bind_some]
          refine ⟨_, rfl, by rw [th_w_hit, if_neg (by decide)]; exact s5, by rw [th_w_hit, if_neg (by decide), eE]; exact a2, by rw [th_w_self, eK], fun q => ?_, fun q hq => by rw [th_w_ne _ _ hq]; exact fq1 q hq, fun j hj => by rw [th_w_hit, if_neg (by omega)]; exact fr1 j hj⟩
          rw [eK] at q; exact absurd q (by decide)
        · have eK : kT p m a = 12 := by unfold kT; rw [if_neg c, if_neg d, if_pos g, if_neg u]
          rw [if_neg (show ¬ (4 : Int32) < _ from (nI_nlt (by omega) (by omega) : ¬ nI 4 < _)), tp_4 hU, Option.bind_some, Option.bind_some]
          exact ⟨_, rfl, by rw [th_w_hit, if_neg (by decide)]; exact s5, by rw [th_w_hit, if_neg (by decide), eE]; exact a2, by rw [th_w_self, eK], fun _ => by rw [th_w_hit, if_neg (by decide)]; exact s8, fun q hq => by rw [th_w_ne _ _ hq]; exact fq1 q hq, fun j hj => by rw [th_w_hit, if_neg (by omega)]; exact fr1 j hj⟩
      · simp only [if_neg g, if_pos (show (0 : Int32) = 0 from rfl)]
        have t5 : ∀ v w : Int32, th_w (th_w μ (z + 4) 6 v) (z + 4) 6 w (z + 4) 5 = nI a := fun v w => by rw [th_w_hit, if_neg (by decide)]; exact r5 _
        have t0 : ∀ v w : Int32, th_w (th_w μ (z + 4) 6 v) (z + 4) 6 w (z + 5) = μ (z + 5) := fun v w => by rw [th_w_ne _ _ (by omega)]; exact r0 _
        have eE : eT p m a = a + 1 := by unfold eT; rw [if_neg c, if_neg d, if_neg g]
        simp only [t5, t0, ta_5 hU (show a < 160 by omega), pa, Option.bind_some]
        rw [show f_X8_isSign (p a) = some (if isG (p a) = true then 1 else 0) by rw [eb]; exact x_isG b (by omega), Option.bind_some]
        by_cases u : isG (p a) = true
        · have eK : kT p m a = p a := by unfold kT; rw [if_neg c, if_neg d, if_neg g, if_pos u]
          simp only [if_pos u, if_neg n10]
          refine ⟨_, rfl, by rw [th_w_hit, if_neg (by decide)]; exact t5 _ _, by rw [th_w_hit, if_neg (by decide), th_w_self, eE], by rw [th_w_self, eK], fun q => ?_, fun q hq => by rw [th_w_ne _ _ hq, th_w_ne _ _ hq, th_w_ne _ _ hq], fun j hj => by rw [th_w_hit, if_neg (by omega), th_w_hit, if_neg (by omega), th_w_hit, if_neg (by omega)]⟩
          rw [eK] at q
          rw [q] at u
          exact absurd u (by decide)
        · have eK : kT p m a = -2 := by unfold kT; rw [if_neg c, if_neg d, if_neg g, if_neg u]
          simp only [if_neg u, if_pos (show (0 : Int32) = 0 from rfl)]
          refine ⟨_, rfl, by rw [th_w_hit, if_neg (by decide)]; exact t5 _ _, by rw [th_w_hit, if_neg (by decide), th_w_self, eE], by rw [th_w_self, eK], fun q => ?_, fun q hq => by rw [th_w_ne _ _ hq, th_w_ne _ _ hq, th_w_ne _ _ hq], fun j hj => by rw [th_w_hit, if_neg (by omega), th_w_hit, if_neg (by omega), th_w_hit, if_neg (by omega)]⟩
          rw [eK] at q
          exact absurd q (by decide)
theorem x_step (hU : XT σ z) (E : XE z m p μ) (h6 : μ (z + 4) 6 = nI e) (hem : e ≤ m) : ∃ μ', f_X8_step σ μ (z + 4) = some μ' ∧ μ' (z + 4) 5 = nI (sk p (m - e) e) ∧ μ' (z + 4) 6 = nI (eT p m (sk p (m - e) e)) ∧ μ' (z + 4) 7 = kT p m (sk p (m - e) e) ∧ (kT p m (sk p (m - e) e) = 12 → μ' (z + 4) 8 = vT p m (sk p (m - e) e)) ∧ (∀ q, q ≠ z + 4 → μ' q = μ q) ∧ ∀ j, (j < 5 ∨ 8 < j) → μ' (z + 4) j = μ (z + 4) j := by
  have m160 := E.1
  have l := sk_le p (m - e) e
  obtain ⟨μ1, a1, a2, a3, a4⟩ := xs_blank hU (m - e) e fu (th_w μ (z + 4) 5 (nI e)) (by omega) (by unfold fu; omega) (E.w (by decide)) (th_w_self _ _ _ _)
  have E1 : XE z m p μ1 := (E.w (k := 5) (v := nI e) (by decide)).fr (a3 _ (by omega)) (a4 1 (by decide))
  obtain ⟨μ', b1, b2, b3, b4, b5, b6, b7⟩ := x_b60 hU E1 a2 (by omega)
  refine ⟨μ', ?_, b2, b3, b4, b5, fun q hq => by rw [b6 q hq, a3 q hq, th_w_ne _ _ hq], fun j hj => by rw [b7 j hj, a4 j (by omega), th_w_hit, if_neg (by omega)]⟩
  unfold f_X8_step
  rw [ti_4 hU, Option.bind_some, h6, tp_4 hU, Option.bind_some, a1, b1]
end XS
