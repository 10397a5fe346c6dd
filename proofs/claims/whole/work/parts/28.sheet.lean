section SE
variable {z : Nat} {σ : th_S} {Z Y : th_M} {B U ω : Nat → Nat} {n nt b t : Nat} {μ μ' μX μM A A' A2 : th_M}
theorem sh_k (hU : SX σ z) {i : Nat} (hi : i < 4) : σ.1 (z + (15 + 2 * i)) = 6 := by
  rcases (by omega : i = 0 ∨ i = 1 ∨ i = 2 ∨ i = 3) with q | q | q | q <;> subst q
  · exact sk_15 hU
  · exact sk_17 hU
  · exact sk_19 hU
  · exact sk_21 hU
theorem sh_r (hU : SX σ z) {i : Nat} (hi : i < 4) : oR σ 6 (z + (15 + 2 * i)) 0 = some (z + (16 + 2 * i)) := by
  rcases (by omega : i = 0 ∨ i = 1 ∨ i = 2 ∨ i = 3) with q | q | q | q <;> subst q
  · exact r_15_0 hU
  · exact r_17_0 hU
  · exact r_19_0 hU
  · exact r_21_0 hU
theorem sh_w (hU : SX σ z) {i : Nat} (hi : i < 4) : σ.1 (z + (16 + 2 * i)) = 12 ∧ σ.2.1 (z + (16 + 2 * i)) = 40 := by
  rcases (by omega : i = 0 ∨ i = 1 ∨ i = 2 ∨ i = 3) with q | q | q | q <;> subst q
  · exact ⟨sk_16 hU, sl_16 hU⟩
  · exact ⟨sk_18 hU, sl_18 hU⟩
  · exact ⟨sk_20 hU, sl_20 hU⟩
  · exact ⟨sk_22 hU, sl_22 hU⟩
theorem sh_q (hU : SX σ z) {i : Nat} (hi : i < 4) : oQ σ 15 (z + 14) (nI i) = some (z + (15 + 2 * i)) := by
  refine oQ_nI (sk_14 hU) (sl_14 hU) (by decide) hi ?_
  rcases (by omega : i = 0 ∨ i = 1 ∨ i = 2 ∨ i = 3) with q | q | q | q <;> subst q
  · exact sr_14_0 hU
  · exact sr_14_1 hU
  · exact sr_14_2 hU
  · exact sr_14_3 hU
theorem sh_i (hU : SX σ z) {i : Nat} (hi : i < 4) (k : Nat) : oI σ μ 6 (z + (15 + 2 * i)) k = some (μ (z + (15 + 2 * i)) k) := by
  unfold oI; rw [if_pos (sh_k hU hi)]
theorem sh_p (hU : SX σ z) {i : Nat} (hi : i < 4) (k : Nat) (v : Int32) : oPI σ μ 6 (z + (15 + 2 * i)) k v = some (th_w μ (z + (15 + 2 * i)) k v) := by
  unfold oPI; rw [if_pos (sh_k hU hi)]
theorem sh_c (hU : SX σ z) {i : Nat} (hi : i < 4) {α : Type} (x : Option α) : oC σ 6 (z + (15 + 2 * i)) x = x := by
  unfold oC; rw [if_pos (sh_k hU hi)]
theorem sh_l (hU : SX σ z) {i : Nat} (hi : i < 4) : oL σ (z + (16 + 2 * i)) = some 40 := by
  unfold oL
  rw [(sh_w hU hi).1, (sh_w hU hi).2]
  rfl
theorem x_isS (x : Int32) : f_X10_isSheet x = some (if 0 ≤ x ∧ x ≤ 3 then 1 else 0) := by
  unfold f_X10_isSheet
  by_cases c : x < 0
  · rw [if_pos c, if_neg (fun q => Int32.not_lt.mpr q.1 c)]
  · rw [if_neg c]
    have e : x < 4 ↔ x ≤ 3 := by
      rw [Int32.lt_iff_toInt_lt, Int32.le_iff_toInt_le, show (4 : Int32).toInt = 4 from by decide, show (3 : Int32).toInt = 3 from by decide]
      omega
    by_cases d : x < 4
    · rw [if_neg (Int32.not_le.mpr d), if_pos ⟨Int32.not_lt.mp c, e.mp d⟩]
    · rw [if_pos (Int32.not_lt.mp d), if_neg (fun q => d (e.mpr q.2))]
theorem lg_lt (x y : Int64) : (lg_cmp x y < 0 ↔ x < y) ∧ (0 < lg_cmp x y ↔ y < x) ∧ (lg_cmp x y ≤ 0 ↔ x ≤ y) := by
  unfold lg_cmp
  by_cases c : x < y
  · have ne : ¬ x = y := fun q => by rw [q] at c; exact absurd c Int64.lt_irrefl
    simp [c, ne, Int64.le_of_lt c, Int64.not_lt.mpr (Int64.le_of_lt c)]
    first | done | decide
  · by_cases d : y < x
    · simp [c, d, Int64.not_le.mpr d]
    · have e : x = y := Int64.le_antisymm (Int64.not_lt.mp d) (Int64.not_lt.mp c)
      subst e
      simp
theorem x_has (hU : SX σ z) {i : Nat} (hi : i < 4) (a : Int64) (k : Int32) : f_X6_has σ μ (z + (15 + 2 * i)) a k = some (if 0 ≤ a ∧ 0 ≤ k ∧ a + k.toInt64 ≤ (μ (z + (15 + 2 * i)) 2).toInt64 then 1 else 0) := by
  unfold f_X6_has
  simp only [(lg_lt _ _).1, (lg_lt _ _).2.1, sh_i hU hi, Option.bind_some]
  by_cases c : a < 0
  · rw [if_pos c, if_neg (fun q => Int64.not_lt.mpr q.1 c)]
  · rw [if_neg c]
    by_cases d : k < 0
    · rw [if_pos d, if_neg (fun q => Int32.not_lt.mpr q.2.1 d)]
    · rw [if_neg d]
      by_cases e : (μ (z + (15 + 2 * i)) 2).toInt64 < a + k.toInt64
      · rw [if_pos e, if_neg (fun q => Int64.not_lt.mpr q.2.2 e)]
      · rw [if_neg e, if_pos ⟨Int64.not_lt.mp c, Int32.not_lt.mp d, Int64.not_lt.mp e⟩]
theorem JX.shs (h : JX z σ Z B U ω n nt μ A) {i : Nat} (hi : i < 4) (eμ : ∀ q, ω q ≠ 15 + 2 * i → ω q ≠ 16 + 2 * i → μ' q = μ q) (eA : ∀ p, p ≠ 17 → p ≠ 18 → p ≠ 19 → A' p = A p)
    (eB : ∀ i', i' < 4 → i' ≠ i → A' 17 i' = A 17 i' ∧ A' 18 i' = A 18 i' ∧ ∀ k, k < 40 → A' 19 (40 * i' + k) = A 19 (40 * i' + k))
    (hn : μ' (z + (15 + 2 * i)) 1 = A' 17 i ∧ (A' 17 i = -1 ∨ (rg (A' 17 i) 2 ∧ ∃ m, m ≤ 40 ∧ A' 18 i = nI m ∧ μ' (z + (15 + 2 * i)) 2 = nI m ∧ ∀ k, k < m → μ' (z + (16 + 2 * i)) k = A' 19 (40 * i + k)))) : JX z σ Z B U ω n nt μ' A' := by
  have S := h.sh
  have n7 := S.n7
  have t6 := S.t6.2
  have E : ∀ k, k < 48 → (k < 23 ∨ 27 ≤ k) → k ≠ 15 + 2 * i → k ≠ 16 + 2 * i → μ' (z + k) = μ (z + k) := fun k h1 h2 h3 h4 => eμ _ (by rw [S.wz k h1 h2]; exact h3) (by rw [S.wz k h1 h2]; exact h4)
  have EB : ∀ b, b < n → ∀ j, j < 3 → μ' (B b + j) = μ (B b + j) := fun b hb j hj => eμ _ (by rw [S.wb b hb j hj]; omega) (by rw [S.wb b hb j hj]; omega)
  have EU : ∀ t, t < nt → ∀ j, j < 4 → μ' (U t + j) = μ (U t + j) := fun t ht j hj => eμ _ (by rw [S.wu t ht j hj]; omega) (by rw [S.wu t ht j hj]; omega)
  have E0 : μ' z = μ z := E 0 (by decide) (by decide) (by omega) (by omega)
  have a0 := eA 0 (by decide) (by decide) (by decide)
  have a1 := eA 1 (by decide) (by decide) (by decide)
  have a2 := eA 2 (by decide) (by decide) (by decide)
  have a3 := eA 3 (by decide) (by decide) (by decide)
  have a4 := eA 4 (by decide) (by decide) (by decide)
  have a5 := eA 5 (by decide) (by decide) (by decide)
  have a6 := eA 6 (by decide) (by decide) (by decide)
  have a7 := eA 7 (by decide) (by decide) (by decide)
  have a8 := eA 8 (by decide) (by decide) (by decide)
  have a9 := eA 9 (by decide) (by decide) (by decide)
  have a10 := eA 10 (by decide) (by decide) (by decide)
  have a16 := eA 16 (by decide) (by decide) (by decide)
  refine ⟨by rw [a1]; exact S, fun p hp => ?_, ⟨(E 13 (by decide) (by decide) (by omega) (by omega)).trans h.fo, fun j hj => by rw [E 12 (by decide) (by decide) (by omega) (by omega)]; exact h.f0 j hj⟩, by rw [a0]; exact h.nn, by rw [E0]; exact h.xn, fun b hb => ?_, fun b hb => ?_, ?_, by rw [a0]; exact h.rl, ?_, fun i' hi' => ?_, by rw [E0]; exact h.xt, by rw [a0]; exact h.at, by rw [a0]; exact h.ru, fun t ht => ?_, ?_⟩
  · rw [E (27 + p) (by omega) (by omega) (by omega) (by omega)]; exact h.fz p hp
  · rw [EB b hb 1 (by decide), a2, a3, a4, a5, a6, a7]; exact h.nw b hb
  · rw [a2, a3, a4, a5, a6, a7]; exact h.rn b hb
  · rw [E 2 (by decide) (by decide) (by omega) (by omega), a0]; exact h.lk
  · rw [E 5 (by decide) (by decide) (by omega) (by omega), E 4 (by decide) (by decide) (by omega) (by omega), a0, a8]; exact h.tp
  · by_cases e : i' = i
    · subst e; exact hn
    · obtain ⟨b1, b2, b3⟩ := eB i' hi' e
      rw [E (15 + 2 * i') (by omega) (by omega) (by omega) (by omega), E (16 + 2 * i') (by omega) (by omega) (by omega) (by omega), b1, b2]
      obtain ⟨s1, s2⟩ := h.st i' hi'
      refine ⟨s1, s2.imp id (fun ⟨q1, m, q2, q3, q4, q5⟩ => ⟨q1, m, q2, q3, q4, fun k hk => ?_⟩)⟩
      rw [b3 k (by omega)]
      exact q5 k hk
  · rw [EU t ht 1 (by omega), EU t ht 2 (by omega), a9, a10]; exact h.cd t ht
  · rw [a0, E0, E 3 (by decide) (by decide) (by omega) (by omega), a16]
    rcases h.im with q | ⟨q1, no, q2, q3, q4, q5, q6, q7, q8⟩
    · exact Or.inl q
    · exact Or.inr ⟨q1, no, q2, q3, q4, q5, q6, q7, fun b hb => by rw [EB b (by omega) 2 (by decide)]; exact q8 b hb⟩
/-- a row of the reference, all of it -/
def rowA (A : th_M) (p : Nat) (f : Nat → Int32) : th_M := fun q k => if q = p then f k else A q k
theorem rowA_eq (A : th_M) (p : Nat) (f : Nat → Int32) : rowA A p f p = f := by funext k; unfold rowA; rw [if_pos rfl]
theorem rowA_ne (A : th_M) {p q : Nat} (f : Nat → Int32) (h : q ≠ p) : rowA A p f q = A q := by funext k; unfold rowA; rw [if_neg h]
theorem JM.row (m : JM z Y μ A) {p : Nat} (hp : p ≤ 20 ∧ p ≠ 15) (e : ∀ q, q ≠ z + (27 + p) → μ' q = μ q) : JM z Y μ' (rowA A p (μ' (z + (27 + p)))) := by
  refine ⟨fun q k hq hs => ?_, fun q hq => ?_⟩
  · by_cases c : q = p
    · subst c; rw [rowA_eq]
    · rw [rowA_ne _ _ c, e _ (by omega)]; exact m.1 q k hq hs
  · rw [e q (by omega)]; exact m.2 q hq
theorem fill_loop {a N : Nat} (ha : σ.1 a = 12) (hl : σ.2.1 a = N) (hN : N ≤ 1000) : ∀ k i f μ, i + k = N → k < f → ∃ μ', f_J7_fill_53178_b5 f σ μ a 0 (nI i) (nI N) = some μ' ∧ (∀ q, q ≠ a → μ' q = μ q) ∧ (∀ j, i ≤ j → j < N → μ' a j = 0) ∧ ∀ j, j < i → μ' a j = μ a j := by
  intro k
  induction k with
  | zero =>
    intro i f μ hi hf
    obtain ⟨f, rfl⟩ : ∃ f', f = f' + 1 := ⟨f - 1, by omega⟩
    refine ⟨μ, ?_, fun _ _ => rfl, fun j h1 h2 => by omega, fun _ _ => rfl⟩
    show (if nI N ≤ nI i then _ else _) = _
    rw [if_pos (nI_le (by omega) (by omega))]
  | succ k ih =>
    intro i f μ hi hf
    obtain ⟨f, rfl⟩ : ∃ f', f = f' + 1 := ⟨f - 1, by omega⟩
    obtain ⟨μ', p1, p2, p3, p4⟩ := ih (i + 1) f (th_w μ a i 0) (by omega) (by omega)
    refine ⟨μ', ?_, fun q hq => by rw [p2 q hq, th_w_ne _ _ hq], fun j h1 h2 => ?_, fun j hj => by rw [p4 j (by omega), th_w_hit, if_neg (by omega)]⟩
    · show (if nI N ≤ nI i then _ else _) = _
      rw [if_neg (nI_ge (by omega) (by omega)), oS_nI ha hl (by omega) (by omega), Option.bind_some, nI_1]
      exact p1
    · by_cases e : j = i
      · subst e; rw [p4 j (by omega), th_w_self]
      · exact p3 j (by omega) h2
theorem x_become (hU : SX σ z) {i : Nat} (hi : i < 4) (s k : Int32) : ∃ μ', f_X6_become σ μ (z + (15 + 2 * i)) s k = some μ' ∧ (∀ q, q ≠ z + (15 + 2 * i) → q ≠ z + (16 + 2 * i) → μ' q = μ q) ∧ μ' (z + (15 + 2 * i)) 1 = s ∧ μ' (z + (15 + 2 * i)) 2 = k ∧ ∀ j, j < 40 → μ' (z + (16 + 2 * i)) j = 0 := by
  obtain ⟨μ1, p1, p2, p3, p4⟩ := fill_loop (σ := σ) (sh_w hU hi).1 (sh_w hU hi).2 (by decide) 40 0 fu μ (by omega) (by unfold fu; omega)
  refine ⟨th_w (th_w μ1 (z + (15 + 2 * i)) 1 s) (z + (15 + 2 * i)) 2 k, ?_, fun q h1 h2 => by rw [th_w_ne _ _ h1, th_w_ne _ _ h1, p2 q h2], by rw [th_w_hit, if_neg (by decide), th_w_self], th_w_self _ _ _ _, fun j hj => by rw [th_w_ne _ _ (by omega), th_w_ne _ _ (by omega), p3 j (by omega) hj]⟩
  have e : f_J7_fill_53178 σ μ (z + (16 + 2 * i)) 0 = some μ1 := by
    unfold f_J7_fill_53178
    rw [sh_l hU hi, Option.bind_some]
    exact p1
  unfold f_X6_become
  rw [sh_r hU hi, Option.bind_some, e, Option.bind_some, sh_p hU hi, Option.bind_some, sh_p hU hi, Option.bind_some]
theorem m_sheet_loop (hU : SX σ z) {i : Nat} (hi : i < 4) : ∀ k j f μ, j + k = 40 → k < f → ∃ μ', f_X11_sheet_b68 f σ μ (z + 27) (nI i) (nI j) = some (1, μ') ∧ (∀ q, q ≠ z + 46 → μ' q = μ q) ∧ (∀ l, j ≤ l → l < 40 → μ' (z + 46) (40 * i + l) = 0) ∧ (∀ l, (l < 40 * i + j ∨ 40 * i + 40 ≤ l) → μ' (z + 46) l = μ (z + 46) l) := by
  intro k
  induction k with
  | zero =>
    intro j f μ hj hf
    obtain ⟨f, rfl⟩ : ∃ f', f = f' + 1 := ⟨f - 1, by omega⟩
    refine ⟨μ, ?_, fun _ _ => rfl, fun l h1 h2 => by omega, fun _ _ => rfl⟩
    show (if (40 : Int32) ≤ nI j then _ else _) = _
    rw [if_pos (show (40 : Int32) ≤ nI j from nI_le (a := 40) (by omega) (by omega))]
  | succ k ih =>
    intro j f μ hj hf
    obtain ⟨f, rfl⟩ : ∃ f', f = f' + 1 := ⟨f - 1, by omega⟩
    obtain ⟨μ', p1, p2, p3, p4⟩ := ih (j + 1) f (th_w μ (z + 46) (40 * i + j) 0) (by omega) (by omega)
    refine ⟨μ', ?_, fun q hq => by rw [p2 q hq, th_w_ne _ _ hq], fun l h1 h2 => ?_, fun l hl => by rw [p4 l (by omega), th_w_hit, if_neg (by omega)]⟩
    · show (if (40 : Int32) ≤ nI j then _ else _) = _
      rw [if_neg (show ¬ (40 : Int32) ≤ nI j from nI_ge (b := 40) (by omega) (by decide)), r_27_38 hU, Option.bind_some, show (40 : Int32) * nI i + nI j = nI (40 * i + j) by rw [show (40 : Int32) = nI 40 from rfl, nI_mul, nI_add], s_46 hU (by omega), Option.bind_some, nI_1]
      exact p1
    · by_cases e : l = j
      · subst e; rw [p4 _ (by omega), th_w_self]
      · exact p3 l (by omega) h2
end SE
