section LV
variable {z : Nat} {σ σM : th_S} {m a d op nt : Nat} {p : Nat → Int32} {μ μ' μX μM μX0 μM0 : th_M}
/-- how a part of the grammar ends, if it could stand: from a height lower than a bound one thing more (e0, e1: how many more than h at its start and end) -/
def GO (z m : Nat) (nt : Nat) (μM μM' : th_M) (op d a op' d' a' lv e0 e1 : Nat) : Prop := op' = op ∧ d ≤ d' ∧ d' + a ≤ d + a' ∧ (∀ i, i < d → C9 z nt μM' i = C9 z nt μM i) ∧ ∀ h, h ≤ 5 * op + lv → hq (C9 z nt μM') (d' - d) d (h + e0) (h + e1)
def SPq (z m : Nat) (p : Nat → Int32) (nt : Nat) (μX0 μM0 μM : th_M) (op d a lv e0 e1 : Nat) (x y : Option (Int32 × th_M)) : Prop := ∃ v μX' μM' op' d' a', x = some (v, μX') ∧ y = some (v, μM') ∧ PP z m p nt μX0 μM0 μX' μM' op' d' a' ∧ (v = 0 ∨ (v = 1 ∧ GO z m nt μM μM' op d a op' d' a' lv e0 e1))
def SPp (z m : Nat) (p : Nat → Int32) (nt : Nat) (μX0 μM0 : th_M) (fX fM : th_M → Option (Int32 × th_M)) (op lv : Nat) : Prop := ∀ μX μM d a, PP z m p nt μX0 μM0 μX μM op d a → d ≤ a → SPq z m p nt μX0 μM0 μM op d a lv 0 1 (fX μX) (fM μM)
theorem GO.refl (μM : th_M) {lv e0 : Nat} : GO z m nt μM μM op d a op d a lv e0 e0 := ⟨rfl, Nat.le_refl _, Nat.le_refl _, fun _ _ => rfl, fun h _ => by rw [Nat.sub_self]; rfl⟩
/-- one more of a row of like parts: a sign, a part, the sign's mark -/
def bodyX (σ : th_S) (z : Nat) (rX : th_M → Option (Int32 × th_M)) (s : Int32) (K : th_M → Option (Int32 × th_M)) (μ : th_M) : Option (Int32 × th_M) := (f_X8_step σ μ (z + 4)).bind fun μ2 => b2 (rX μ2) fun v3 μ4 => if v3 = 0 then some (0, μ4) else (f_X8_emit σ μ4 (z + 4) s).bind fun μ5 => K μ5
def bodyM (σ : th_S) (z : Nat) (rM : th_M → Option (Int32 × th_M)) (c : Int32) (K : th_M → Option (Int32 × th_M)) (μ : th_M) : Option (Int32 × th_M) := (f_X11_next σ μ (z + 27)).bind fun μ2 => b2 (rM μ2) fun v3 μ4 => if v3 = 0 then some (0, μ4) else (f_X11_put σ μ4 (z + 27) c).bind fun μ5 => K μ5
/-- the sign and the part behind it -/
theorem body_lock (hU : XT σ z) (hM : SX σM z) {rX rM KX KM : th_M → Option (Int32 × th_M)} {s c : Int32} {lv e1 : Nat} (hR : SPp z m p nt μX0 μM0 rX rM op (lv + 1)) (hc : (-1) - s = tk c) (hb : bin c) (h : PP z m p nt μX0 μM0 μX μM op d a) (hda : d ≤ a) (ham : a < m)
    (hK : ∀ μX' μM' d' a', PP z m p nt μX0 μM0 μX' μM' op d' a' → d' ≤ a' → a < a' → GO z m nt μM μM' op d a op d' a' lv 1 1 → SPq z m p nt μX0 μM0 μM op d a lv 1 e1 (KX μX') (KM μM')) :
    SPq z m p nt μX0 μM0 μM op d a lv 1 e1 (bodyX σ z rX s KX μX) (bodyM σM z rM c KM μM) := by
  have m160 := h.1.1.1
  have l := eT_le (p := p) (a := a) (m := m) (by omega)
  have l2 := aN_le (p := p) (a := a) (m := m) (by omega)
  obtain ⟨u1, w1, a1, a2, a3, a4⟩ := step_lock hU hM h
  obtain ⟨v, u2, w2, op2, d2, a2', b1, b2', b3, b4⟩ := hR u1 w1 d (aN p m a) a3 (by omega)
  unfold bodyX bodyM
  rw [a1, a2, Option.bind_some, Option.bind_some, b1, b2', b2s, b2s]
  rcases b4 with e | ⟨e, g1, g2, g3, g4, g5⟩
  · subst e
    rw [if_pos rfl, if_pos rfl]
    exact ⟨0, u2, w2, op2, d2, a2', rfl, rfl, b3, Or.inl rfl⟩
  · subst e
    subst g1
    rw [if_neg n10, if_neg n10]
    have ham2 := b3.2.2.2.2.1
    obtain ⟨u3, w3, c1, c2, c3, c4, c5⟩ := emit_lock hU hM b3 (by omega) c s hc
    rw [c1, c2, Option.bind_some, Option.bind_some]
    refine hK u3 w3 (d2 + 1) a2' c3 (by omega) (by omega) ⟨rfl, by omega, by omega, fun i hi => ?_, fun h hh => ?_⟩
    · rw [c4 i (by omega), g4 i hi]
      unfold C9
      rw [a4]
    · rw [show d2 + 1 - d = (d2 - d) + 1 by omega]
      refine hq_app (d2 - d) 1 d (h + 1) (h + 2) (h + 1) (hq_ext _ _ _ _ (fun j h1 h2 => c4 j (by omega)) (g5 (h + 1) (by omega))) ?_
      rw [show d + (d2 - d) = d2 by omega]
      exact hq_bin (by rw [c5]; exact hb)
theorem GO.trans {μ1 μ2 μ3 : th_M} {d1 d2 d3 a1 a2 a3 lv e0 e1 e2 : Nat} (g : GO z m nt μ1 μ2 op d1 a1 op d2 a2 lv e0 e1) (h : GO z m nt μ2 μ3 op d2 a2 op d3 a3 lv e1 e2) : GO z m nt μ1 μ3 op d1 a1 op d3 a3 lv e0 e2 := by
  obtain ⟨-, g2, g3, g4, g5⟩ := g
  obtain ⟨-, h2, h3, h4, h5⟩ := h
  refine ⟨rfl, by omega, by omega, fun i hi => by rw [h4 i (by omega), g4 i hi], fun h hh => ?_⟩
  rw [show d3 - d1 = (d2 - d1) + (d3 - d2) by omega]
  refine hq_app _ _ _ _ _ _ (hq_ext _ _ _ _ (fun j _ h2' => h4 j (by omega)) (g5 h hh)) ?_
  rw [show d1 + (d2 - d1) = d2 by omega]
  exact h5 h hh
theorem SPq.go {μ1 μ2 : th_M} {d1 d2 a1 a2 lv e0 e1 e2 : Nat} {x y : Option (Int32 × th_M)} (g : GO z m nt μ1 μ2 op d1 a1 op d2 a2 lv e0 e1) (h : SPq z m p nt μX0 μM0 μ2 op d2 a2 lv e1 e2 x y) : SPq z m p nt μX0 μM0 μ1 op d1 a1 lv e0 e2 x y := by
  obtain ⟨v, u, w, op', d', a', h1, h2, h3, h4⟩ := h
  refine ⟨v, u, w, op', d', a', h1, h2, h3, ?_⟩
  rcases h4 with e | ⟨e, g1, g2⟩
  · exact Or.inl e
  · subst g1
    exact Or.inr ⟨e, g.trans ⟨rfl, g2⟩⟩
/-- a row of like parts -/
theorem loop_lock (hU : XT σ z) (hM : SX σM z) {rX rM : th_M → Option (Int32 × th_M)} {LX : Nat → th_M → Int32 → Option (Int32 × th_M)} {LM : Nat → th_M → Option (Int32 × th_M)} {Sg : Int32 → Prop} {cd : Int32 → Int32} {lv : Nat} (hR : SPp z m p nt μX0 μM0 rX rM op (lv + 1))
    (hS : ∀ s, Sg s → s ≠ -1 ∧ (-1) - s = tk (cd s) ∧ bin (cd s)) (dS : ∀ s, Sg s ∨ ¬ Sg s)
    (x1 : ∀ f μX i a, oI σ μX 8 (z + 4) 7 = some (kT p m a) → i < 160 → Sg (kT p m a) → LX (f + 1) μX (nI i) = bodyX σ z rX (kT p m a) (fun μ => LX f μ (nI (i + 1))) μX)
    (x0 : ∀ f μX i a, oI σ μX 8 (z + 4) 7 = some (kT p m a) → ¬ Sg (kT p m a) → LX (f + 1) μX (nI i) = some (1, μX))
    (y1 : ∀ g μX μM op d a, PP z m p nt μX0 μM0 μX μM op d a → Sg (kT p m a) → LM (g + 1) μM = bodyM σM z rM (cd (kT p m a)) (LM g) μM)
    (y0 : ∀ g μX μM op d a, PP z m p nt μX0 μM0 μX μM op d a → ¬ Sg (kT p m a) → LM (g + 1) μM = some (1, μM)) :
    ∀ r i f g μX μM d a, m - a ≤ r → r < f → r < g → i ≤ a → PP z m p nt μX0 μM0 μX μM op d a → d ≤ a → SPq z m p nt μX0 μM0 μM op d a lv 1 1 (LX f μX (nI i)) (LM g μM) := by
  intro r
  induction r with
  | zero =>
    intro i f g μX μM d a hr hf hg hi h hda
    obtain ⟨f, rfl⟩ : ∃ f', f = f' + 1 := ⟨f - 1, by omega⟩
    obtain ⟨g, rfl⟩ : ∃ g', g = g' + 1 := ⟨g - 1, by omega⟩
    have n : ¬ Sg (kT p m a) := fun q => by
      have := kT_end (hS _ q).1
      omega
    rw [x0 f μX i a (h.kx hU) n, y0 g μX μM op d a h n]
    exact ⟨1, μX, μM, op, d, a, rfl, rfl, h, Or.inr ⟨rfl, GO.refl μM⟩⟩
  | succ r ih =>
    intro i f g μX μM d a hr hf hg hi h hda
    obtain ⟨f, rfl⟩ : ∃ f', f = f' + 1 := ⟨f - 1, by omega⟩
    obtain ⟨g, rfl⟩ : ∃ g', g = g' + 1 := ⟨g - 1, by omega⟩
    have m160 := h.1.1.1
    rcases dS (kT p m a) with q | n
    · have ham := kT_end (hS _ q).1
      rw [x1 f μX i a (h.kx hU) (by omega) q, y1 g μX μM op d a h q]
      refine body_lock hU hM hR (hS _ q).2.1 (hS _ q).2.2 h hda ham (fun u w d' a' h' h1 h2 h3 => ?_)
      exact SPq.go h3 (ih (i + 1) f g u w d' a' (by omega) (by omega) (by omega) (by omega) h' h1)
    · rw [x0 f μX i a (h.kx hU) n, y0 g μX μM op d a h n]
      exact ⟨1, μX, μM, op, d, a, rfl, rfl, h, Or.inr ⟨rfl, GO.refl μM⟩⟩
theorem SPq.lv {x y : Option (Int32 × th_M)} {lv lv' e0 e1 : Nat} (h : SPq z m p nt μX0 μM0 μM op d a lv' e0 e1 x y) (hl : lv ≤ lv') : SPq z m p nt μX0 μM0 μM op d a lv e0 e1 x y := by
  obtain ⟨v, u, w, op', d', a', h1, h2, h3, h4⟩ := h
  refine ⟨v, u, w, op', d', a', h1, h2, h3, ?_⟩
  rcases h4 with e | ⟨e, g1, g2, g3, g4, g5⟩
  · exact Or.inl e
  · exact Or.inr ⟨e, g1, g2, g3, g4, fun h hh => g5 h (by omega)⟩
/-- a part, and the row behind it -/
theorem level_lock {rX rM : th_M → Option (Int32 × th_M)} {LX : th_M → Option (Int32 × th_M)} {LM : th_M → Option (Int32 × th_M)} {lv : Nat} (hR : SPp z m p nt μX0 μM0 rX rM op (lv + 1))
    (hL : ∀ μX μM d a, PP z m p nt μX0 μM0 μX μM op d a → d ≤ a → SPq z m p nt μX0 μM0 μM op d a lv 1 1 (LX μX) (LM μM)) :
    SPp z m p nt μX0 μM0 (fun μ => b2 (rX μ) fun v1 μ2 => if v1 = 0 then some (0, μ2) else LX μ2) (fun μ => b2 (rM μ) fun v1 μ2 => if v1 = 0 then some (0, μ2) else LM μ2) op lv := by
  intro μX μM d a h hda
  obtain ⟨v, u, w, op', d', a', h1, h2, h3, h4⟩ := (hR μX μM d a h hda).lv (Nat.le_succ lv)
  show SPq z m p nt μX0 μM0 μM op d a lv 0 1 (b2 (rX μX) _) (b2 (rM μM) _)
  rw [h1, h2, b2s, b2s]
  rcases h4 with e | ⟨e, g1, g2, g3, g4, g5⟩
  · subst e
    rw [if_pos rfl, if_pos rfl]
    exact ⟨0, u, w, op', d', a', rfl, rfl, h3, Or.inl rfl⟩
  · subst e
    subst g1
    rw [if_neg n10, if_neg n10]
    exact SPq.go ⟨rfl, g2, g3, g4, g5⟩ (hL u w d' a' h3 (by omega))
end LV
