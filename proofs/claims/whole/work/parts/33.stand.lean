section SK
variable {z : Nat} {σ : th_S} {Z Y : th_M} {B U ω : Nat → Nat} {n nt b t : Nat} {μ μ' μX μM A A' A2 : th_M}
/-- both answer alike, up to scratch rows -/
def LW (z : Nat) (σ : th_S) (Z Y : th_M) (B U ω : Nat → Nat) (n nt : Nat) (x y : Option (Int32 × th_M)) : Prop := ∃ A Z' Y', (∀ p, p ≤ 20 → Z' p = Z p) ∧ (∀ q, (q < z + 27 ∨ z + 48 ≤ q) → Y' q = Y q) ∧ Z' 21 = Y' (z + 42) ∧ LA z σ Z' Y' B U ω n nt A x y
theorem LK.w {x y : Option (Int32 × th_M)} (h : LK z σ Z Y B U ω n nt x y) (e : Z 21 = Y (z + 42)) : LW z σ Z Y B U ω n nt x y := by
  obtain ⟨A, h⟩ := h
  exact ⟨A, Z, Y, fun _ _ => rfl, fun _ _ => rfl, e, h⟩
theorem LA.w {x y : Option (Int32 × th_M)} (h : LA z σ Z Y B U ω n nt A x y) (e : Z 21 = Y (z + 42)) : LW z σ Z Y B U ω n nt x y := h.k.w e
def insR (v : Int32) : Nat → (Nat → Int32) → (Nat → Int32)
  | 0, r => upd r 0 v
  | p + 1, r => if r p ≤ v then upd r (p + 1) v else insR v p (upd r (p + 1) (r p))
theorem up_up {α : Type} (μ : Nat → α) (a : Nat) (r s : α) : va_up (va_up μ a r) a s = va_up μ a s := by
  funext q
  unfold va_up
  by_cases c : q = a
  · rw [if_pos c, if_pos c]
  · rw [if_neg c, if_neg c, if_neg c]
theorem up_at {α : Type} (μ : Nat → α) (a : Nat) (r : α) : va_up μ a r a = r := by unfold va_up; rw [if_pos rfl]
theorem up_ne {α : Type} (μ : Nat → α) {a q : Nat} (r : α) (h : q ≠ a) : va_up μ a r q = μ q := by unfold va_up; rw [if_neg h]
theorem up_self {α : Type} (μ : Nat → α) (a : Nat) : va_up μ a (μ a) = μ := by
  funext q
  unfold va_up
  by_cases c : q = a
  · rw [if_pos c, c]
  · rw [if_neg c]
theorem x_ins (hU : SX σ z) (v : Int32) : ∀ p f μ, p < 7 → p < f → f_X10_putInOrder_b2 f σ μ z v (nI p) = some (va_up μ (z + 13) (insR v p (μ (z + 13)))) := by
  intro p
  induction p with
  | zero =>
    intro f μ h7 hf
    obtain ⟨f, rfl⟩ : ∃ f', f = f' + 1 := ⟨f - 1, by omega⟩
    show (if nI 0 ≤ 0 then _ else _) = _
    rw [if_pos (by decide), r_0_10 hU, Option.bind_some, s_13 hU (by decide), Option.bind_some]
    rfl
  | succ p ih =>
    intro f μ h7 hf
    obtain ⟨f, rfl⟩ : ∃ f', f = f' + 1 := ⟨f - 1, by omega⟩
    show (if nI (p + 1) ≤ 0 then _ else _) = _
    rw [if_neg (nI_nle (by omega) (by omega)), r_0_10 hU, Option.bind_some, nI_pred, a_13 hU (by omega), Option.bind_some]
    show _ = some (va_up μ (z + 13) (if μ (z + 13) p ≤ v then upd (μ (z + 13)) (p + 1) v else insR v p (upd (μ (z + 13)) (p + 1) (μ (z + 13) p))))
    by_cases c : μ (z + 13) p ≤ v
    · rw [if_pos c, if_pos c, Option.bind_some, s_13 hU (by omega), Option.bind_some]
      rfl
    · rw [if_neg c, if_neg c, Option.bind_some, Option.bind_some, a_13 hU (by omega), Option.bind_some, s_13 hU (by omega), Option.bind_some, show nI (p + 1) + (-1) = nI p by rw [← nI_pred p, Int32.sub_eq_add_neg], ih f _ (by omega) (by omega)]
      show some (va_up (va_up μ (z + 13) (upd (μ (z + 13)) (p + 1) (μ (z + 13) p))) (z + 13) (insR v p (va_up μ (z + 13) (upd (μ (z + 13)) (p + 1) (μ (z + 13) p)) (z + 13)))) = _
      rw [up_up, up_at]
theorem m_ins (hU : SX σ z) (K : th_S → th_M → Nat → Int32 → Int32 → Option (Int32 × th_M)) (x1 x2 v : Int32) : ∀ p f μ, p < 7 → p < f → f_X11_stand_b31 K f σ μ (z + 27) x1 x2 v (nI p) = K σ (va_up μ (z + 42) (insR v p (μ (z + 42)))) (z + 27) x1 (x2 + 1) := by
  intro p
  induction p with
  | zero =>
    intro f μ h7 hf
    obtain ⟨f, rfl⟩ : ∃ f', f = f' + 1 := ⟨f - 1, by omega⟩
    show (if nI 0 ≤ 0 then _ else _) = _
    rw [if_pos (by decide), r_27_32 hU, Option.bind_some, s_42 hU (by decide), Option.bind_some]
    rfl
  | succ p ih =>
    intro f μ h7 hf
    obtain ⟨f, rfl⟩ : ∃ f', f = f' + 1 := ⟨f - 1, by omega⟩
    show (if nI (p + 1) ≤ 0 then _ else _) = _
    rw [if_neg (nI_nle (by omega) (by omega)), r_27_32 hU, Option.bind_some, nI_pred, a_42 hU (by omega), Option.bind_some]
    show _ = K σ (va_up μ (z + 42) (if μ (z + 42) p ≤ v then upd (μ (z + 42)) (p + 1) v else insR v p (upd (μ (z + 42)) (p + 1) (μ (z + 42) p)))) (z + 27) x1 (x2 + 1)
    by_cases c : μ (z + 42) p ≤ v
    · rw [if_pos c, if_pos c, Option.bind_some, s_42 hU (by omega), Option.bind_some]
      rfl
    · rw [if_neg c, if_neg c, Option.bind_some, Option.bind_some, a_42 hU (by omega), Option.bind_some, s_42 hU (by omega), Option.bind_some, show nI (p + 1) + (-1) = nI p by rw [← nI_pred p, Int32.sub_eq_add_neg], ih f _ (by omega) (by omega)]
      show K σ (va_up (va_up μ (z + 42) (upd (μ (z + 42)) (p + 1) (μ (z + 42) p))) (z + 42) (insR v p (va_up μ (z + 42) (upd (μ (z + 42)) (p + 1) (μ (z + 42) p)) (z + 42)))) (z + 27) x1 (x2 + 1) = _
      rw [up_up, up_at]
theorem JX.rez {Z' : th_M} (h : JX z σ Z B U ω n nt μ A) (e : ∀ p, p ≤ 20 → Z' p = Z p) (e2 : Z' 21 = Z 21) : JX z σ Z' B U ω n nt μ A := by
  obtain ⟨h1, h2, h3, h4⟩ := h
  exact ⟨h1, fun p hp => by rw [e p hp]; exact h2 p hp, ⟨by rw [e2]; exact h3.1, h3.2⟩, h4⟩
theorem JX.row13 (h : JX z σ Z B U ω n nt μ A) (r : Nat → Int32) : JX z σ (va_up Z 21 r) B U ω n nt (va_up μ (z + 13) r) A := by
  have o13 := h.sh.wz 13 (by decide) (by decide)
  have S := h.sh
  have n7 := S.n7
  have t6 := S.t6.2
  have V : ∀ q, ω q ≠ 13 → va_up μ (z + 13) r q = μ q := fun q hq => up_ne _ _ (fun c => hq (by rw [c, o13]))
  have E : ∀ k, k < 48 → (k < 23 ∨ 27 ≤ k) → k ≠ 13 → va_up μ (z + 13) r (z + k) = μ (z + k) := fun k h1 h2 h3 => V _ (by rw [S.wz k h1 h2]; exact h3)
  have EB : ∀ b, b < n → ∀ j, j < 3 → va_up μ (z + 13) r (B b + j) = μ (B b + j) := fun b hb j hj => V _ (by rw [S.wb b hb j hj]; omega)
  have EU : ∀ t, t < nt → ∀ j, j < 4 → va_up μ (z + 13) r (U t + j) = μ (U t + j) := fun t ht j hj => V _ (by rw [S.wu t ht j hj]; omega)
  have E0 : va_up μ (z + 13) r z = μ z := E 0 (by decide) (by decide) (by decide)
  refine ⟨S, fun p hp => ?_, ?_, h.nn, by rw [E0]; exact h.xn, fun b hb => ?_, h.rn, ?_, h.rl, ?_, fun i hi => ?_, by rw [E0]; exact h.xt, h.at, h.ru, fun t ht => ?_, ?_⟩
  · rw [E (27 + p) (by omega) (by omega) (by omega), up_ne _ _ (by omega)]; exact h.fz p hp
  · exact ⟨by rw [up_at, up_at], fun j hj => by rw [E 12 (by decide) (by decide) (by decide)]; exact h.f0 j hj⟩
  · rw [EB b hb 1 (by decide)]; exact h.nw b hb
  · rw [E 2 (by decide) (by decide) (by decide)]; exact h.lk
  · rw [E 5 (by decide) (by decide) (by decide), E 4 (by decide) (by decide) (by decide)]; exact h.tp
  · rw [E (15 + 2 * i) (by omega) (by omega) (by omega), E (16 + 2 * i) (by omega) (by omega) (by omega)]; exact h.st i hi
  · rw [EU t ht 1 (by decide), EU t ht 2 (by decide)]; exact h.cd t ht
  · rw [E0, E 3 (by decide) (by decide) (by decide)]
    rcases h.im with q | ⟨q1, no, q2, q3, q4, q5, q6, q7, q8⟩
    · exact Or.inl q
    · exact Or.inr ⟨q1, no, q2, q3, q4, q5, q6, q7, fun b hb => by rw [EB b (by omega) 2 (by decide)]; exact q8 b hb⟩
theorem JM.row42 (m : JM z Y μ A) (r : Nat → Int32) : JM z (va_up Y (z + 42) r) (va_up μ (z + 42) r) A := by
  refine ⟨fun p k hp hs => ?_, fun q hq => ?_⟩
  · have hs' := hs
    unfold scr at hs'
    rw [up_ne _ _ (by omega)]; exact m.1 p k hp hs
  · by_cases c : q = z + 42
    · rw [c, up_at, up_at]
    · rw [up_ne _ _ c, up_ne _ _ c]; exact m.2 q (by omega)
theorem order_loop : ∀ k i s f g (Z Y : th_M) μX μM, i + k = n → k < f → k < g → s ≤ i → JX z σ Z B U ω n nt μX A → JM z Y μM A → Z 21 = Y (z + 42) →
    ∃ s' u w Z' Y', f_X10_orderComing_b4 f σ μX z (nI s) (nI i) = some (nI s', u) ∧ f_X11_stand_b4 g σ μM (z + 27) (nI s) (nI i) = f_X11_stand_b89 fu σ w (z + 27) (nI s') 0 0 ∧ s' ≤ 7 ∧ JX z σ Z' B U ω n nt u A ∧ JM z Y' w A ∧ Z' 21 = Y' (z + 42) ∧ (∀ p, p ≤ 20 → Z' p = Z p) ∧ ∀ q, (q < z + 27 ∨ z + 48 ≤ q) → Y' q = Y q := by
  intro k
  induction k with
  | zero =>
    intro i s f g Z Y μX μM hi hf hg hs h m hzy
    obtain ⟨f, rfl⟩ : ∃ f', f = f' + 1 := ⟨f - 1, by omega⟩
    obtain ⟨g, rfl⟩ : ∃ g', g = g' + 1 := ⟨g - 1, by omega⟩
    have hU := h.sh.sx
    have n7 := h.sh.n7
    have e : i = n := by omega
    subst e
    refine ⟨s, μX, μM, Z, Y, ?_, ?_, by omega, h, m, hzy, fun _ _ => rfl, fun _ _ => rfl⟩
    · show (oI σ μX 10 z 1).bind _ = _
      rw [i_0 hU, Option.bind_some, h.xn, if_pos (Int32.le_refl _)]
    · show (oI σ μM 11 (z + 27) 0).bind _ = _
      rw [i_27 hU, Option.bind_some, jm_0_0 m, h.nn, if_pos (Int32.le_refl _)]
  | succ k ih =>
    intro i s f g Z Y μX μM hi hf hg hs h m hzy
    obtain ⟨f, rfl⟩ : ∃ f', f = f' + 1 := ⟨f - 1, by omega⟩
    obtain ⟨g, rfl⟩ : ∃ g', g = g' + 1 := ⟨g - 1, by omega⟩
    have S := h.sh
    have hU := S.sx
    have n7 := S.n7
    have hin : i < n := by omega
    have nl : ¬ nI n ≤ nI i := nI_ge hin (by omega)
    obtain ⟨v, u, w, a1, a2, a3, a4, a5⟩ := coming_lock h m hin
    have hX : f_X10_orderComing_b4 (f + 1) σ μX z (nI s) (nI i) = if v = -1 then f_X10_orderComing_b4 f σ u z (nI s) (nI (i + 1)) else (f_X10_putInOrder σ u z v (nI s)).bind fun μ4 => f_X10_orderComing_b4 f σ μ4 z (nI (s + 1)) (nI (i + 1)) := by
      show (oI σ μX 10 z 1).bind _ = _
      rw [i_0 hU, Option.bind_some, h.xn, if_neg nl, c_0 hU, a1, b2s, nI_1, nI_1]
    have hM : f_X11_stand_b4 (g + 1) σ μM (z + 27) (nI s) (nI i) = if 0 ≤ v then f_X11_stand_b31 (f_X11_stand_b4 g) fu σ w (z + 27) (nI (s + 1)) (nI i) v (nI s) else f_X11_stand_b4 g σ w (z + 27) (nI s) (nI (i + 1)) := by
      show (oI σ μM 11 (z + 27) 0).bind _ = _
      rw [i_27 hU, Option.bind_some, jm_0_0 m, h.nn, if_neg nl, c_27 hU, a2, b2s, nI_1, nI_1]
    rw [hX, hM]
    rcases a3 with q | ⟨q, -⟩
    · rw [if_pos q, if_neg (by rw [q]; decide)]
      exact ih (i + 1) s f g Z Y u w (by omega) (by omega) (by omega) (by omega) a4 a5 hzy
    · have hv := (rg_lt q (by decide)).1
      have nv : ¬ v = -1 := fun c => by rw [c] at hv; exact absurd hv (by decide)
      rw [if_neg nv, if_pos hv]
      unfold f_X10_putInOrder
      rw [x_ins hU v s fu u (by omega) (by unfold fu; omega), m_ins hU _ _ _ v s fu w (by omega) (by unfold fu; omega), Option.bind_some, nI_1]
      have hr : u (z + 13) = w (z + 42) := by rw [a4.fo, hzy, a5.2 (z + 42) (by omega)]
      obtain ⟨s', u', w', Z', Y', b1, b2', b3', b4, b5, b6, b7, b8⟩ := ih (i + 1) (s + 1) f g (va_up Z 21 (insR v s (u (z + 13)))) (va_up Y (z + 42) (insR v s (w (z + 42)))) _ _ (by omega) (by omega) (by omega) (by omega) (a4.row13 (insR v s (u (z + 13)))) (a5.row42 (insR v s (w (z + 42)))) (by rw [up_at, up_at, hr])
      exact ⟨s', u', w', Z', Y', b1, b2', b3', b4, b5, b6, fun p hp => by rw [b7 p hp, up_ne _ _ (by omega)], fun p hp => by rw [b8 p hp, up_ne _ _ (by omega)]⟩
theorem sum_loop (hz : Z 21 = Y (z + 42)) {s wt : Nat} (hs : s ≤ 7) (hw : A 0 13 = nI wt) (hw2 : wt ≤ 20) (h : JX z σ Z B U ω n nt μX A) (m : JM z Y μM A) : ∀ k i sm f g, i + k = wt → k < f → k < g → ∃ v, f_X10_stand_b9 f σ μX z (nI s) sm (nI i) = some (v, μX) ∧ f_X11_stand_b89 g σ μM (z + 27) (nI s) sm (nI i) = some (v, μM) := by
  have hU := h.sh.sx
  have l := h.lk
  intro k
  induction k with
  | zero =>
    intro i sm f g hi hf hg
    obtain ⟨f, rfl⟩ : ∃ f', f = f' + 1 := ⟨f - 1, by omega⟩
    obtain ⟨g, rfl⟩ : ∃ g', g = g' + 1 := ⟨g - 1, by omega⟩
    have e : i = wt := by omega
    subst e
    refine ⟨sm, ?_, ?_⟩
    · show (oR σ 10 z 2).bind _ = _
      rw [r_0_2 hU, Option.bind_some, an_2 hU (by decide), Option.bind_some, l.2.2.2.2.1, hw, if_pos (Int32.le_refl _)]
    · show (oI σ μM 11 (z + 27) 13).bind _ = _
      rw [i_27 hU, Option.bind_some, jm_0_13 m, hw, if_pos (Int32.le_refl _)]
  | succ k ih =>
    intro i sm f g hi hf hg
    obtain ⟨f, rfl⟩ : ∃ f', f = f' + 1 := ⟨f - 1, by omega⟩
    obtain ⟨g, rfl⟩ : ∃ g', g = g' + 1 := ⟨g - 1, by omega⟩
    have nl : ¬ nI wt ≤ nI i := nI_ge (by omega) (by omega)
    by_cases c : s ≤ i
    · obtain ⟨v, v1, v2⟩ := ih (i + 1) (sm + 240) f g (by omega) (by omega) (by omega)
      refine ⟨v, ?_, ?_⟩
      · show (oR σ 10 z 2).bind _ = _
        rw [r_0_2 hU, Option.bind_some, an_2 hU (by decide), Option.bind_some, l.2.2.2.2.1, hw, if_neg nl, if_pos (nI_le c (by omega)), nI_1]
        exact v1
      · show (oI σ μM 11 (z + 27) 13).bind _ = _
        rw [i_27 hU, Option.bind_some, jm_0_13 m, hw, if_neg nl, if_pos (nI_le c (by omega)), nI_1]
        exact v2
    · have e : μM (z + 42) i = μX (z + 13) i := by rw [h.fo, hz, m.2 (z + 42) (by omega)]
      obtain ⟨v, v1, v2⟩ := ih (i + 1) (sm + (μX (z + 13) i - A 0 10)) f g (by omega) (by omega) (by omega)
      refine ⟨v, ?_, ?_⟩
      · show (oR σ 10 z 2).bind _ = _
        rw [r_0_2 hU, Option.bind_some, an_2 hU (by decide), Option.bind_some, l.2.2.2.2.1, hw, if_neg nl, if_neg (nI_ge (by omega) (by omega)), r_0_10 hU, Option.bind_some, a_13 hU (by omega), Option.bind_some, Option.bind_some, an_2 hU (by decide), Option.bind_some, l.2.2.2.2.2.1, nI_1]
        exact v1
      · show (oI σ μM 11 (z + 27) 13).bind _ = _
        rw [i_27 hU, Option.bind_some, jm_0_13 m, hw, if_neg nl, if_neg (nI_ge (by omega) (by omega)), r_27_32 hU, Option.bind_some, a_42 hU (by omega), Option.bind_some, i_27 hU, Option.bind_some, jm_0_10 m, e, nI_1]
        exact v2
theorem stand_lock (h : JX z σ Z B U ω n nt μX A) (m : JM z Y μM A) (hzy : Z 21 = Y (z + 42)) : LW z σ Z Y B U ω n nt (f_X10_stand σ μX z) (f_X11_stand σ μM (z + 27)) := by
  have hU := h.sh.sx
  have n7 := h.sh.n7
  obtain ⟨s', u, w, Z', Y', a1, a2, a3, a4, a5, a6, a7, a8⟩ := order_loop n 0 0 fu fu Z Y μX μM (Nat.zero_add _) (by unfold fu; omega) (by unfold fu; omega) (Nat.le_refl _) h m hzy
  obtain ⟨wt, hw, ew⟩ := h.rl.2.2.2.2.2.1
  obtain ⟨v, v1, v2⟩ := sum_loop a6 a3 ew hw a4 a5 wt 0 0 fu fu (Nat.zero_add _) (by unfold fu; omega) (by unfold fu; omega)
  refine ⟨A, Z', Y', a7, a8, a6, v, u, w, ?_, ?_, a4, a5⟩
  · unfold f_X10_stand f_X10_orderComing
    rw [c_0 hU, show f_X10_orderComing_b4 fu σ μX z 0 0 = _ from a1, b2s]
    exact v1
  · show f_X11_stand_b4 fu σ μM (z + 27) (nI 0) (nI 0) = _
    rw [a2]
    exact v2
end SK
