section GS2
variable {z : Nat} {σ σ' : th_S} {Z Y : th_M} {B U ω : Nat → Nat} {n nt : Nat} {μ : th_M} {A A' : th_M}
theorem GI.sx (g : GI z σ μ) : SX σ z := by
  obtain ⟨A, B, U, ω, n, nt, Z, Y, h, m, o⟩ := g
  exact h.sh.sx
/-- a call that makes nothing -/
theorem GI.step (g : GI z σ μ) {fX fM : th_M → Option (Int32 × th_M)} (H : ∀ A B U ω n nt (Z Y μX μM : th_M), JX z σ Z B U ω n nt μX A → JM z Y μM A → Z 21 = Y (z + 42) → ∃ n', LW z σ Z Y B U ω n' nt (fX μX) (fM μM)) : ∃ v u w, fX μ = some (v, u) ∧ fM u = some (v, w) ∧ GI z σ w := by
  obtain ⟨A, B, U, ω, n, nt, Z, Y, h, m, o⟩ := g
  have hzy : Z 21 = Y (z + 42) := by rw [← h.fo, o, m.2 (z + 42) (Or.inr (Or.inr rfl))]
  obtain ⟨v, u, w, n', Z', Y', A', x1, x2, h', m', e⟩ := step_of (fX := fX) (fM := fM) (H A B U ω n nt) h m hzy
  refine ⟨v, u, w, x1, x2, A', B, U, ω, n', nt, Z', Y', h', m', ?_⟩
  rw [h'.fo, e, m'.2 (z + 42) (Or.inr (Or.inr rfl))]
/-- the reference's cells behind the class's call -/
theorem JM.behind (h : JX z σ Z B U ω n nt μ A) (m : JM z Y μ A) {σ' : th_S} {B' U' ω' : Nat → Nat} {n' nt' : Nat} {u A' : th_M} (h' : JX z σ' Z B' U' ω' n' nt' u A') : JM z u u A := ⟨fun p k hp hs => by rw [h'.fz p hp, ← h.fz p hp]; exact m.1 p k hp hs, fun _ _ => rfl⟩
theorem GI.long (g : GI z σ μ) {fX fM : th_M → Option (Int64 × th_M)} (H : ∀ A B U ω n nt (Z Y μX μM : th_M), JX z σ Z B U ω n nt μX A → JM z Y μM A → ∃ v u w, fX μX = some (v, u) ∧ fM μM = some (v, w) ∧ JX z σ Z B U ω n nt u A ∧ JM z Y w A) : ∃ v u w, fX μ = some (v, u) ∧ fM u = some (v, w) ∧ GI z σ w := by
  obtain ⟨A, B, U, ω, n, nt, Z, Y, h, m, o⟩ := g
  obtain ⟨v, u, w0, x1, -, h1, -⟩ := H A B U ω n nt Z Y μ μ h m
  obtain ⟨v', u', w, y1, y2, h2, m2⟩ := H A B U ω n nt Z u μ u h (m.behind h h1)
  rw [x1] at y1
  have ee := Option.some.inj y1
  have e1 : v' = v := (congrArg Prod.fst ee).symm
  have e2 : u' = u := (congrArg Prod.snd ee).symm
  subst e1
  subst e2
  refine ⟨v', u', w, x1, y2, GI.mk h2 m2 (fun q hq => m2.2 q (by omega)) ?_⟩
  rw [m2.2 (z + 13) (by omega), m2.2 (z + 42) (Or.inr (Or.inr rfl)), h2.fo, show u' (z + 42) = _ from h2.fz 15 (by decide), ← h.fo, ← h.fz 15 (by decide)]
  exact o
theorem GI.val (g : GI z σ μ) {fX fM : Option Int32} (H : ∀ A B U ω n nt (Z Y : th_M), JX z σ Z B U ω n nt μ A → JM z Y μ A → ∃ v, fX = some v ∧ fM = some v) : ∃ v, fX = some v ∧ fM = some v := by
  obtain ⟨A, B, U, ω, n, nt, Z, Y, h, m, o⟩ := g
  exact H A B U ω n nt Z Y h m
/-- a call that may make boats -/
theorem GI.both (g : GI z σ μ) {fX : Option (Int32 × th_S × th_M)} {fM : th_S → th_M → Option (Int32 × th_M)} (H : ∀ A B U ω n nt (Z : th_M), JX z σ Z B U ω n nt μ A → ∃ v σ' μ' B' ω' n' A', fX = some (v, σ', μ') ∧ JX z σ' Z B' U ω' n' nt μ' A' ∧ ∀ σM Y μM, SX σM z → JM z Y μM A → ∃ w, fM σM μM = some (v, w) ∧ JM z Y w A') : ∃ v σ' u w, fX = some (v, σ', u) ∧ fM σ' u = some (v, w) ∧ GI z σ' w := by
  obtain ⟨A, B, U, ω, n, nt, Z, Y, h, m, o⟩ := g
  obtain ⟨v, σ', u, B', ω', n', A', e1, h', H'⟩ := H A B U ω n nt Z h
  obtain ⟨w, e2, m'⟩ := H' σ' u u h'.sh.sx (m.behind h h')
  refine ⟨v, σ', u, w, e1, e2, GI.mk h' m' (fun q hq => m'.2 q (by omega)) ?_⟩
  rw [m'.2 (z + 13) (by omega), m'.2 (z + 42) (Or.inr (Or.inr rfl)), h'.fo, show u (z + 42) = _ from h'.fz 15 (by decide), ← h.fo, ← h.fz 15 (by decide)]
  exact o
theorem GI.text (g : GI z σ μ) : ∃ v σ' u w, f_X10_text σ μ z = some (v, σ', u) ∧ f_X11_text σ' u (z + 27) = some (v, w) ∧ GI z σ' w := by
  obtain ⟨A, B, U, ω, n, nt, Z, Y, h, m, o⟩ := g
  exact text_law h m o
theorem oXs_n {L : Nat} {xs : Nat → Int32} (hL : L ≤ 3072) {k : Nat} (hk : k < L) : oXs L xs (nI k) = some (xs k) := by
  unfold oXs
  rw [if_pos (nI_in hk (by omega)), nI_clamp (by omega)]
end GS2
