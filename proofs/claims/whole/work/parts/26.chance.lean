section CH
variable {z : Nat} {σ : th_S} {Z Y : th_M} {B U ω : Nat → Nat} {n nt b t : Nat} {μ μ' μX μM A A' A2 : th_M}
def opq : Option Int32 → Option Int64 → Bool
  | some d, some v => decide (d ≠ 0) && decide (v = v)
  | _, _ => false
def ch_x (g k p : Nat) : Option Int64 := (f_X10_commonDivisor (nI g) (nI k)).bind fun v1 => if nI p = 0 then oG (¬ v1 = 0) (some ((nI g / v1).toInt64)) else oG (¬ v1 = 0) (some ((nI k / v1).toInt64))
theorem ch_all : ∀ k, k < 21 → 1 ≤ k → ∀ g, g < 21 → ∀ p, p < 2 → (ch_x g k p).isSome = true ∧ ch_x g k p = f_X11_lowest (nI g).toInt64 (nI k).toInt64 (nI p) := by decide +kernel
theorem chance_loop (seed : Int32) {k p : Nat} (hk : k < 21) (hk1 : 1 ≤ k) (hp : p < 2) {al : Int32} : ∀ j i g f1 f2 μX μM, i + j = k → g ≤ i → j < f1 → j < f2 → JX z σ Z B U ω n nt μX A → JM z Y μM A →
    ∃ v u w, f_X10_chance_b40 f1 σ μX z seed (nI k) (nI p) (nI g) al (nI i) = some (v, u) ∧ f_X11_chance_b63 f2 σ μM (z + 27) seed (nI k) (nI p) al (nI g) (nI i) = some (v, w) ∧ JX z σ Z B U ω n nt u A ∧ JM z Y w A := by
  intro j
  induction j with
  | zero =>
    intro i g f1 f2 μX μM hi hg h1 h2 h m
    obtain ⟨f, rfl⟩ : ∃ f', f1 = f' + 1 := ⟨f1 - 1, by omega⟩
    obtain ⟨f', rfl⟩ : ∃ f', f2 = f' + 1 := ⟨f2 - 1, by omega⟩
    have e : i = k := by omega
    subst e
    obtain ⟨c1, c2⟩ := ch_all i hk hk1 g (by omega) p hp
    obtain ⟨v, ev⟩ := Option.isSome_iff_exists.mp c1
    rw [ev] at c2
    refine ⟨v, μX, μM, ?_, ?_, h, m⟩
    · show (if nI i ≤ nI i then _ else _) = _
      rw [if_pos (Int32.le_refl _)]
      unfold ch_x at ev
      cases hd : f_X10_commonDivisor (nI g) (nI i) with
      | none => rw [hd] at ev; exact absurd ev (by simp)
      | some d =>
        rw [hd, Option.bind_some] at ev
        rw [Option.bind_some]
        unfold oG at ev ⊢
        by_cases a : nI p = 0
        · rw [if_pos a] at ev ⊢
          by_cases q : ¬ d = 0
          · rw [if_pos q] at ev ⊢
            rw [Option.some.inj ev]
          · rw [if_neg q] at ev; exact absurd ev (by simp)
        · rw [if_neg a] at ev ⊢
          by_cases q : ¬ d = 0
          · rw [if_pos q] at ev ⊢
            rw [Option.some.inj ev]
          · rw [if_neg q] at ev; exact absurd ev (by simp)
    · show (if nI i ≤ nI i then _ else _) = _
      rw [if_pos (Int32.le_refl _), ← c2, Option.bind_some]
  | succ j ih =>
    intro i g f1 f2 μX μM hi hg h1 h2 h m
    obtain ⟨f, rfl⟩ : ∃ f', f1 = f' + 1 := ⟨f1 - 1, by omega⟩
    obtain ⟨f', rfl⟩ : ∃ f', f2 = f' + 1 := ⟨f2 - 1, by omega⟩
    have hU := h.sh.sx
    have nl : ¬ nI k ≤ nI i := nI_ge (by omega) (by omega)
    obtain ⟨v, u, w, a1, a2, a3, a4⟩ := drawn_lock h m (seed + nI i)
    have hX : f_X10_chance_b40 (f + 1) σ μX z seed (nI k) (nI p) (nI g) al (nI i) = if v = al then f_X10_chance_b40 f σ u z seed (nI k) (nI p) (nI (g + 1)) al (nI (i + 1)) else f_X10_chance_b40 f σ u z seed (nI k) (nI p) (nI g) al (nI (i + 1)) := by
      show (if nI k ≤ nI i then _ else _) = _
      rw [if_neg nl, c_0 hU, a1, b2s, nI_1, nI_1]
    have hM : f_X11_chance_b63 (f' + 1) σ μM (z + 27) seed (nI k) (nI p) al (nI g) (nI i) = if v = al then f_X11_chance_b63 f' σ w (z + 27) seed (nI k) (nI p) al (nI (g + 1)) (nI (i + 1)) else f_X11_chance_b63 f' σ w (z + 27) seed (nI k) (nI p) al (nI g) (nI (i + 1)) := by
      show (if nI k ≤ nI i then _ else _) = _
      rw [if_neg nl, c_27 hU, a2, b2s, nI_1, nI_1]
    rw [hX, hM]
    by_cases c : v = al
    · rw [if_pos c, if_pos c]
      exact ih (i + 1) (g + 1) f f' u w (by omega) (by omega) (by omega) (by omega) a3 a4
    · rw [if_neg c, if_neg c]
      exact ih (i + 1) g f f' u w (by omega) (by omega) (by omega) (by omega) a3 a4
theorem m_all_loop (hU : SX σ z) (m : JM z Y μM A) (hn : A 0 0 = nI n) (n7 : n ≤ 7) (s k p : Int32) : ∀ j i f, i + j = n → j < f → f_X11_chance_b29 f σ μM (z + 27) s k p (nI (cnt (isW A 0) i)) (nI i) = f_X11_chance_b63 fu σ μM (z + 27) s k p (nI (cnt (isW A 0) n)) 0 0 := by
  intro j
  induction j with
  | zero =>
    intro i f hi hf
    obtain ⟨f, rfl⟩ : ∃ f', f = f' + 1 := ⟨f - 1, by omega⟩
    have e : i = n := by omega
    subst e
    show (oI σ μM 11 (z + 27) 0).bind _ = _
    rw [i_27 hU, Option.bind_some, jm_0_0 m, hn, if_pos (Int32.le_refl _)]
  | succ k' ih =>
    intro i f hi hf
    obtain ⟨f, rfl⟩ : ∃ f', f = f' + 1 := ⟨f - 1, by omega⟩
    have hin : i < n := by omega
    have nl : ¬ nI n ≤ nI i := nI_ge hin (by omega)
    show (oI σ μM 11 (z + 27) 0).bind _ = _
    simp only [i_27 hU, Option.bind_some, jm_0_0 m, hn, if_neg nl, r_27_6 hU, a_33 hU (show i < 7 by omega), jm_6 m, nI_1]
    by_cases c : A 6 i = 0
    · rw [if_pos c, ← cnt_yes (P := isW A 0) (i := i) (by unfold isW; exact decide_eq_true c)]
      exact ih (i + 1) f (by omega) (by omega)
    · rw [if_neg c, ← cnt_no (P := isW A 0) (i := i) (by unfold isW; rw [decide_eq_true_iff]; exact c)]
      exact ih (i + 1) f (by omega) (by omega)
theorem chance_lock (h : JX z σ Z B U ω n nt μX A) (m : JM z Y μM A) (s x y : Int32) : ∃ v u w, f_X10_chance σ μX z s x y = some (v, u) ∧ f_X11_chance σ μM (z + 27) s x y = some (v, w) ∧ JX z σ Z B U ω n nt u A ∧ JM z Y w A := by
  have hU := h.sh.sx
  have n7 := h.sh.n7
  unfold f_X10_chance f_X11_chance
  rw [m_within, Option.bind_some, m_within, Option.bind_some, c_0 hU]
  by_cases c : 1 ≤ x ∧ x ≤ 20
  · obtain ⟨c1, c2⟩ := c
    rw [if_neg (Int32.not_lt.mpr c1), if_neg (Int32.not_lt.mpr c2), if_pos (show 1 ≤ x ∧ x ≤ 20 from ⟨c1, c2⟩), if_neg n10]
    rw [Int32.le_iff_toInt_le, show (1 : Int32).toInt = 1 from by decide] at c1
    rw [Int32.le_iff_toInt_le, show (20 : Int32).toInt = 20 from by decide] at c2
    by_cases d : 0 ≤ y ∧ y ≤ 1
    · obtain ⟨d1, d2⟩ := d
      rw [if_neg (Int32.not_lt.mpr d1), if_pos d2, if_pos (show 0 ≤ y ∧ y ≤ 1 from ⟨d1, d2⟩), if_neg n10, x_those h, Option.bind_some, x_cnt h, Option.bind_some]
      rw [Int32.le_iff_toInt_le, show (0 : Int32).toInt = 0 from by decide] at d1
      rw [Int32.le_iff_toInt_le, show (1 : Int32).toInt = 1 from by decide] at d2
      rw [show f_X11_chance_b29 fu σ μM (z + 27) s x y 0 0 = _ from m_all_loop hU m h.nn n7 s x y n 0 fu (by omega) (by unfold fu; omega)]
      rw [nI_asI (x := x) (by omega), nI_asI (x := y) (by omega)]
      exact chance_loop s (by omega) (by omega) (by omega) _ 0 0 fu fu μX μM (Nat.zero_add _) (by omega) (by unfold fu; omega) (by unfold fu; omega) h m
    · rw [if_neg d, if_pos (show (0 : Int32) = 0 from rfl)]
      by_cases e : y < 0
      · rw [if_pos e]; exact ⟨_, _, _, rfl, rfl, h, m⟩
      · rw [if_neg e, if_neg (fun q => d ⟨Int32.not_lt.mp e, q⟩)]; exact ⟨_, _, _, rfl, rfl, h, m⟩
  · rw [if_neg c, if_pos (show (0 : Int32) = 0 from rfl)]
    by_cases e : x < 1
    · rw [if_pos e]; exact ⟨_, _, _, rfl, rfl, h, m⟩
    · rw [if_neg e, if_pos (Int32.not_le.mp (fun q => c ⟨Int32.not_lt.mp e, q⟩))]; exact ⟨_, _, _, rfl, rfl, h, m⟩
end CH
