section TH1
variable {z : Nat} {σ : th_S} {Z Y : th_M} {B U ω : Nat → Nat} {n nt b t : Nat} {μ μ' μX μM A A' A2 : th_M}
theorem nob_loop : ∀ k i s f g μX μM, i + k = n → k < f → k < g → s < 2 ^ i → JX z σ Z B U ω n nt μX A → JM z Y μM A → ∃ s' u w, s' < 2 ^ n ∧ f_X10_nobody_b4 f σ μX z (nI s) (nI i) = some (nI s', u) ∧ f_X11_nobody_b4 g σ μM (z + 27) (nI s) (nI i) = some (nI s', w) ∧ JX z σ Z B U ω n nt u A ∧ JM z Y w A := by
  intro k
  induction k with
  | zero =>
    intro i s f g μX μM hi hf hg hs h m
    obtain ⟨f, rfl⟩ : ∃ f', f = f' + 1 := ⟨f - 1, by omega⟩
    obtain ⟨g, rfl⟩ : ∃ g', g = g' + 1 := ⟨g - 1, by omega⟩
    have hU := h.sh.sx
    have e : i = n := by omega
    subst e
    refine ⟨s, μX, μM, hs, ?_, ?_, h, m⟩
    · show (oI σ μX 10 z 1).bind _ = _
      rw [i_0 hU, Option.bind_some, h.xn, if_pos (Int32.le_refl _)]
    · show (oI σ μM 11 (z + 27) 0).bind _ = _
      rw [i_27 hU, Option.bind_some, jm_0_0 m, h.nn, if_pos (Int32.le_refl _)]
  | succ k ih =>
    intro i s f g μX μM hi hf hg hs h m
    obtain ⟨f, rfl⟩ : ∃ f', f = f' + 1 := ⟨f - 1, by omega⟩
    obtain ⟨g, rfl⟩ : ∃ g', g = g' + 1 := ⟨g - 1, by omega⟩
    have S := h.sh
    have hU := S.sx
    have n7 := S.n7
    have hin : i < n := by omega
    have nl : ¬ nI n ≤ nI i := nI_ge hin (by omega)
    have e2 : 2 ^ (i + 1) = 2 ^ i + 2 ^ i := by rw [Nat.pow_succ]; omega
    have hX : f_X10_nobody_b4 (f + 1) σ μX z (nI s) (nI i) = if A 6 i = 0 then b2 (f_X10_wouldComeNow σ μX z (nI i)) fun v3 μ4 => (if v3 = 0 then f_X10_nobody_b4 f σ μ4 z (nI (s + 2 ^ i)) (nI (i + 1)) else f_X10_nobody_b4 f σ μ4 z (nI s) (nI (i + 1))) else f_X10_nobody_b4 f σ μX z (nI s) (nI (i + 1)) := by
      show (oI σ μX 10 z 1).bind _ = _
      simp only [i_0 hU, Option.bind_some, h.xn, if_neg nl, c_0 hU, x_on h hin, nI_1, or_up i (by omega) s hs]
      by_cases c : A 6 i = 0
      · rw [if_pos c, if_pos c, if_neg n10]
      · rw [if_neg c, if_neg c, if_pos (show (0 : Int32) = 0 from rfl)]
    have hM : f_X11_nobody_b4 (g + 1) σ μM (z + 27) (nI s) (nI i) = if A 6 i = 0 then b2 (f_X11_would_ σ μM (z + 27) (nI i)) fun v3 μ4 => (if v3 = 0 then f_X11_nobody_b4 g σ μ4 (z + 27) (nI (s + 2 ^ i)) (nI (i + 1)) else f_X11_nobody_b4 g σ μ4 (z + 27) (nI s) (nI (i + 1))) else f_X11_nobody_b4 g σ μM (z + 27) (nI s) (nI (i + 1)) := by
      show (oI σ μM 11 (z + 27) 0).bind _ = _
      simp only [i_27 hU, Option.bind_some, jm_0_0 m, h.nn, if_neg nl, r_27_6 hU, a_33 hU (show i < 7 by omega), jm_6 m, nI_1, c_27 hU, or_up i (by omega) s hs]
    rw [hX, hM]
    by_cases c : A 6 i = 0
    · rw [if_pos c, if_pos c]
      obtain ⟨v, u, w, a1, a2, a3, a4, a5⟩ := now_lock h m hin
      rw [a1, a2, b2s, b2s]
      rcases a3 with e | e
      · rw [if_pos e, if_pos e]
        exact ih (i + 1) _ f g u w (by omega) (by omega) (by omega) (by omega) a4 a5
      · rw [if_neg (by rw [e]; exact n10), if_neg (by rw [e]; exact n10)]
        exact ih (i + 1) _ f g u w (by omega) (by omega) (by omega) (by omega) a4 a5
    · rw [if_neg c, if_neg c]
      exact ih (i + 1) _ f g μX μM (by omega) (by omega) (by omega) (by omega) h m
theorem nob_lock (h : JX z σ Z B U ω n nt μX A) (m : JM z Y μM A) : ∃ s' u w, s' < 2 ^ n ∧ f_X10_nobody σ μX z = some (nI s', u) ∧ f_X11_nobody σ μM (z + 27) = some (nI s', w) ∧ JX z σ Z B U ω n nt u A ∧ JM z Y w A := by
  have n7 := h.sh.n7
  exact nob_loop n 0 0 fu fu μX μM (Nat.zero_add _) (by unfold fu; omega) (by unfold fu; omega) (by decide) h m
/-- the sets that can be fetched in so many minutes -/
def OKS (A : th_M) (n s k u : Nat) : Prop := 0 < u ∧ sb u s ∧ (FQ A n u).1 ≤ k
theorem most_x {s k : Nat} (hs : s < 2 ^ n) (hk : k ≤ 240) : ∀ j f m μX, j ≤ s → j < f → m ≤ 7 → JX z σ Z B U ω n nt μX A → TR z n A μX → (m = 0 ∨ ∃ u, u ≤ s ∧ OKS A n s k u ∧ pc u = m) → (∀ u, j < u → u ≤ s → OKS A n s k u → pc u ≤ m) →
    ∃ M u, f_X10_mostFetched_b9 f σ μX z (nI s) (nI k) (nI m) (nI j) = some (nI M, u) ∧ JX z σ Z B U ω n nt u A ∧ (M = 0 ∨ ∃ u, u ≤ s ∧ OKS A n s k u ∧ pc u = M) ∧ ∀ u, u ≤ s → OKS A n s k u → pc u ≤ M := by
  intro j
  induction j with
  | zero =>
    intro f m μX hj hf hm h r h1 h2
    obtain ⟨f, rfl⟩ : ∃ f', f = f' + 1 := ⟨f - 1, by omega⟩
    refine ⟨m, μX, ?_, h, h1, fun u hu o => h2 u o.1 hu o⟩
    show (if nI 0 ≤ 0 then _ else _) = _
    rw [if_pos (by decide)]
  | succ j ih =>
    intro f m μX hj hf hm h r h1 h2
    obtain ⟨f, rfl⟩ : ∃ f', f = f' + 1 := ⟨f - 1, by omega⟩
    have hU := h.sh.sx
    have n7 := h.sh.n7
    have p7 := pow_le7 n7
    have j7 : j + 1 < 128 := by omega
    have pl : pc (j + 1) ≤ 7 := by unfold pc; omega
    have dn : nI (j + 1) + (-1) = nI j := by rw [← nI_pred j, Int32.sub_eq_add_neg]
    have up : ∀ {m' : Nat}, (OKS A n s k (j + 1) → pc (j + 1) ≤ m') → m ≤ m' → ∀ u, j < u → u ≤ s → OKS A n s k u → pc u ≤ m' := fun q1 q2 u a1 a2 o => by
      by_cases e : u = j + 1
      · subst e; exact q1 o
      · exact Nat.le_trans (h2 u (by omega) a2 o) q2
    show ∃ M u, (if nI (j + 1) ≤ 0 then _ else _) = _ ∧ _
    rw [if_neg (nI_nle (by omega) (by omega)), bc_nI _ j7, Option.bind_some]
    by_cases c : sb (j + 1) s
    · rw [if_pos ((sub_small s (by omega) _ j7).mpr c)]
      by_cases d : pc (j + 1) ≤ m
      · rw [if_pos (nI_le d (by omega)), dn]
        exact ih f m μX (by omega) (by omega) hm h r h1 (up (fun _ => d) (Nat.le_refl _))
      · obtain ⟨u, a1, a2, a3⟩ := x_min h r (s := j + 1) (by omega)
        have fl := FQ_le h (s := j + 1) (by omega)
        rw [if_neg (nI_ge (by omega) (by omega)), r_0_9 hU, Option.bind_some, c_10 hU, a1, b2s]
        by_cases e : k < (FQ A n (j + 1)).1
        · rw [if_pos (nI_lt e (by omega)), dn]
          exact ih f m u (by omega) (by omega) hm a2 a3 h1 (up (fun o => absurd o.2.2 (by omega)) (Nat.le_refl _))
        · rw [if_neg (nI_nlt (by omega) (by omega)), dn]
          exact ih f _ u (by omega) (by omega) pl a2 a3 (Or.inr ⟨j + 1, hj, ⟨by omega, c, by omega⟩, rfl⟩) (up (fun _ => Nat.le_refl _) (by omega))
    · rw [if_neg (fun q => c ((sub_small s (by omega) _ j7).mp q)), dn]
      exact ih f m μX (by omega) (by omega) hm h r h1 (up (fun o => absurd o.2.1 c) (Nat.le_refl _))
theorem most_m (h : JX z σ Z B U ω n nt μX A) {s k : Nat} (hs : s < 2 ^ n) (hk : k ≤ 240) : ∀ j i g m μM, i + j = 2 ^ n → j < g → m ≤ 7 → 0 < i → JM z Y μM A → (m = 0 ∨ ∃ u, u ≤ s ∧ OKS A n s k u ∧ pc u = m) → (∀ u, u < i → OKS A n s k u → pc u ≤ m) →
    ∃ M w, f_X11_thunder_b102 g σ μM (z + 27) (nI k) (nI s) (nI m) (nI i) = some (nI M, w) ∧ JM z Y w A ∧ (M = 0 ∨ ∃ u, u ≤ s ∧ OKS A n s k u ∧ pc u = M) ∧ ∀ u, u ≤ s → OKS A n s k u → pc u ≤ M := by
  have hU := h.sh.sx
  have n7 := h.sh.n7
  have p7 := pow_le7 n7
  intro j
  induction j with
  | zero =>
    intro i g m μM hi hg hm hi0 mm h1 h2
    obtain ⟨g, rfl⟩ : ∃ g', g = g' + 1 := ⟨g - 1, by omega⟩
    refine ⟨m, μM, ?_, mm, h1, fun u hu o => h2 u (by omega) o⟩
    show (oI σ μM 11 (z + 27) 0).bind _ = _
    rw [i_27 hU, Option.bind_some, jm_0_0 mm, h.nn, shl_n n (by omega), if_pos (nI_le (by omega) (by omega))]
  | succ j ih =>
    intro i g m μM hi hg hm hi0 mm h1 h2
    obtain ⟨g, rfl⟩ : ∃ g', g = g' + 1 := ⟨g - 1, by omega⟩
    have i7 : i < 128 := by omega
    have pl : pc i ≤ 7 := by unfold pc; omega
    have up : ∀ {m' : Nat}, (OKS A n s k i → pc i ≤ m') → m ≤ m' → ∀ u, u < i + 1 → OKS A n s k u → pc u ≤ m' := fun q1 q2 u a1 o => by
      by_cases e : u = i
      · subst e; exact q1 o
      · exact Nat.le_trans (h2 u (by omega) o) q2
    show ∃ M w, ((oI σ μM 11 (z + 27) 0).bind _ = _) ∧ _
    rw [i_27 hU, Option.bind_some, jm_0_0 mm, h.nn, shl_n n (by omega), if_neg (nI_ge (by omega) (by omega)), bc_nI i i7]
    by_cases c : sb i s
    · rw [if_pos ((sub_small s (by omega) _ i7).mpr c), Option.bind_some]
      by_cases d : pc i ≤ m
      · rw [if_pos (nI_le d (by omega)), nI_1]
        exact ih (i + 1) g m μM (by omega) (by omega) hm (by omega) mm h1 (up (fun _ => d) (Nat.le_refl _))
      · obtain ⟨w, a1, a2, -⟩ := m_fet h mm (s := i) (by omega)
        have fl := FQ_le h (s := i) (by omega)
        rw [if_neg (nI_ge (by omega) (by omega)), c_27 hU, a1, b2s]
        by_cases e : k < (FQ A n i).1
        · rw [if_pos (nI_lt e (by omega)), nI_1]
          exact ih (i + 1) g m w (by omega) (by omega) hm (by omega) a2 h1 (up (fun o => absurd o.2.2 (by omega)) (Nat.le_refl _))
        · rw [if_neg (nI_nlt (by omega) (by omega)), Option.bind_some, nI_1]
          exact ih (i + 1) g _ w (by omega) (by omega) pl (by omega) a2 (Or.inr ⟨i, sb_le s (by omega) i i7 c, ⟨hi0, c, by omega⟩, rfl⟩) (up (fun _ => Nat.le_refl _) (by omega))
    · rw [if_neg (fun q => c ((sub_small s (by omega) _ i7).mp q)), nI_1]
      exact ih (i + 1) g m μM (by omega) (by omega) hm (by omega) mm h1 (up (fun o => absurd o.2.1 c) (Nat.le_refl _))
theorem thunder_lock (h : JX z σ Z B U ω n nt μX A) (m : JM z Y μM A) (x y : Int32) : LA z σ Z Y B U ω n nt A (f_X10_thunder σ μX z x y) (f_X11_thunder σ μM (z + 27) x y) := by
  have hU := h.sh.sx
  have n7 := h.sh.n7
  have p7 := pow_le7 n7
  unfold f_X10_thunder f_X11_thunder
  rw [m_within, m_within, Option.bind_some, Option.bind_some]
  by_cases c : 0 ≤ x ∧ x ≤ 240
  · rw [if_neg (Int32.not_lt.mpr c.1), if_neg (Int32.not_lt.mpr c.2), if_pos c, if_neg n10]
    by_cases d : 0 ≤ y ∧ y ≤ 1
    · rw [if_neg (Int32.not_lt.mpr d.1), if_pos d.2, if_pos d, if_neg n10]
      by_cases e : y = 0
      · rw [if_pos e, if_pos e, r_0_2 hU, Option.bind_some, an_2 hU (by decide), Option.bind_some, h.lk.2.2.2.2.2.1, c_0 hU]
        obtain ⟨v, u, w, a1, a2, a3, a4⟩ := inby_lock h m x
        rw [a1, a2, b2s]
        exact ⟨v, u, w, rfl, rfl, a3, a4⟩
      · rw [if_neg e, if_neg e, c_0 hU, c_27 hU]
        obtain ⟨s, u, w, hs, a1, a2, a3, a4⟩ := nob_lock h m
        obtain ⟨k, hk, rfl⟩ : rg x 240 := rg_in c (by decide) (by decide)
        rw [a1, a2, b2s, b2s]
        obtain ⟨u2, b1, b2, b3⟩ := x_ready a3
        obtain ⟨M1, u3, c1, c2, c3, c4⟩ := most_x hs hk s fu 0 u2 (Nat.le_refl _) (by unfold fu; omega) (by decide) b2 b3 (Or.inl rfl) (fun u q1 q2 _ => by omega)
        obtain ⟨M2, w3, d1, d2, d3, d4⟩ := most_m h hs hk (2 ^ n - 1) 1 fu 0 w (by have := Nat.two_pow_pos n; omega) (by unfold fu; omega) (by decide) (by decide) a4 (Or.inl rfl) (fun u q1 o => absurd o.1 (by omega))
        have eM : M1 = M2 := by
          apply Nat.le_antisymm
          · rcases c3 with q | ⟨u, q1, q2, q3⟩
            · omega
            · rw [← q3]; exact d4 u q1 q2
          · rcases d3 with q | ⟨u, q1, q2, q3⟩
            · omega
            · rw [← q3]; exact c4 u q1 q2
        subst eM
        unfold f_X10_mostFetched
        rw [c_0 hU, b1, Option.bind_some, show f_X10_mostFetched_b9 fu σ u2 z (nI s) (nI k) 0 (nI s) = _ from c1, b2s, show f_X11_thunder_b102 fu σ w (z + 27) (nI k) (nI s) 0 1 = _ from d1]
        exact LA.mk c2 d2 _
    · rw [if_neg d, if_pos (show (0 : Int32) = 0 from rfl)]
      by_cases e : y < 0
      · rw [if_pos e]; exact LA.mk h m _
      · rw [if_neg e, if_neg (fun q => d ⟨Int32.not_lt.mp e, q⟩)]; exact LA.mk h m _
  · rw [if_neg c, if_pos (show (0 : Int32) = 0 from rfl)]
    by_cases e : x < 0
    · rw [if_pos e]; exact LA.mk h m _
    · rw [if_neg e, if_pos (Int32.not_le.mp (fun q => c ⟨Int32.not_lt.mp e, q⟩))]; exact LA.mk h m _
end TH1
