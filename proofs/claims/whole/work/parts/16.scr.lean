/-! what scratch does not touch; the names; a clause in lockstep -/
def XSC (w : Nat) : Prop := w = 6 ∨ w = 7 ∨ (9 ≤ w ∧ w ≤ 11) ∨ (2000 ≤ w ∧ (w % 10 = 0 ∨ w % 10 = 3))
section SC
variable {z : Nat} {σ : th_S} {Z Y : th_M} {B U ω : Nat → Nat} {n nt b t : Nat} {μ μ' μX μM A : th_M}
theorem JX.sc (h : JX z σ Z B U ω n nt μ A) (e : ∀ q, ¬ XSC (ω q) → ω q ≠ 4 → μ' q = μ q) (e4 : μ' (z + 4) 1 = μ (z + 4) 1) : JX z σ Z B U ω n nt μ' A := by
  have S := h.sh
  have n7 := S.n7
  have t6 := S.t6.2
  have E : ∀ k, k < 48 → (k < 23 ∨ 27 ≤ k) → ¬ XSC k → k ≠ 4 → μ' (z + k) = μ (z + k) := fun k h1 h2 h3 h4 => e _ (by rw [S.wz k h1 h2]; exact h3) (by rw [S.wz k h1 h2]; exact h4)
  have EB : ∀ b, b < n → ∀ j, j < 3 → μ' (B b + j) = μ (B b + j) := fun b hb j hj => e _ (by rw [S.wb b hb j hj]; unfold XSC; omega) (by rw [S.wb b hb j hj]; omega)
  have EU : ∀ t, t < nt → ∀ j, j = 1 ∨ j = 2 → μ' (U t + j) = μ (U t + j) := fun t ht j hj => e _ (by rw [S.wu t ht j (by omega)]; unfold XSC; omega) (by rw [S.wu t ht j (by omega)]; omega)
  have E0 : μ' z = μ z := E 0 (by decide) (by decide) (by unfold XSC; omega) (by decide)
  have E2 : μ' (z + 2) = μ (z + 2) := E 2 (by decide) (by decide) (by unfold XSC; omega) (by decide)
  have E3 : μ' (z + 3) = μ (z + 3) := E 3 (by decide) (by decide) (by unfold XSC; omega) (by decide)
  have E5 : μ' (z + 5) = μ (z + 5) := E 5 (by decide) (by decide) (by unfold XSC; omega) (by decide)
  refine ⟨h.sh, fun p hp => ?_, ⟨(E 13 (by decide) (by decide) (by unfold XSC; omega) (by decide)).trans h.fo, fun j hj => by rw [E 12 (by decide) (by decide) (by unfold XSC; omega) (by decide)]; exact h.f0 j hj⟩, h.nn, ?_, fun b hb => ?_, h.rn, ?_, h.rl, ?_, fun i hi => ?_, ?_, h.at, h.ru, fun t ht => ?_, ?_⟩
  · rw [E (27 + p) (by omega) (by omega) (by unfold XSC; omega) (by omega)]; exact h.fz p hp
  · rw [E0]; exact h.xn
  · rw [EB b hb 1 (by omega)]; exact h.nw b hb
  · rw [E2]; exact h.lk
  · rw [E5, e4]; exact h.tp
  · rw [E (15 + 2 * i) (by omega) (by omega) (by unfold XSC; omega) (by omega), E (16 + 2 * i) (by omega) (by omega) (by unfold XSC; omega) (by omega)]; exact h.st i hi
  · rw [E0]; exact h.xt
  · rw [EU t ht 1 (by omega), EU t ht 2 (by omega)]; exact h.cd t ht
  · rcases h.im with q | ⟨q1, no, q2, q3, q4, q5, q6, q7, q8⟩
    · rw [E0]; exact Or.inl q
    · refine Or.inr ⟨q1, no, q2, q3, ?_, ?_, q6, q7, fun b hb => ?_⟩
      · rw [E0]; exact q4
      · rw [E3]; exact q5
      · rw [EB b (by omega) 2 (by omega)]; exact q8 b hb
theorem JM.sc (h : JM z Y μ A) (e : ∀ q, q ≠ z + 38 → q ≠ z + 39 → q ≠ z + 40 → q ≠ z + 41 → True → q ≠ z + 47 → μ' q = μ q) : JM z Y μ' A := by
  refine ⟨fun p k hp hs => ?_, fun q hq => ?_⟩
  · have hs' := hs
    unfold scr at hs'
    rw [e (z + (27 + p)) (by omega) (by omega) (by omega) (by omega) trivial (by omega)]
    exact h.1 p k hp hs
  · rw [e q (by omega) (by omega) (by omega) (by omega) trivial (by omega)]
    exact h.2 q hq
theorem JX.bz (h : JX z σ Z B U ω n nt μ A) (hb : b < n) {j k : Nat} (hj : j < 3) (hk : k < 48) (hk2 : k < 23 ∨ 27 ≤ k) : B b + j ≠ z + k := by
  intro q
  have h1 := h.sh.wb b hb j hj
  rw [q, h.sh.wz k hk hk2] at h1
  omega
theorem JX.uz (h : JX z σ Z B U ω n nt μ A) (ht : t < nt) {j k : Nat} (hj : j < 4) (hk : k < 48) (hk2 : k < 23 ∨ 27 ≤ k) : U t + j ≠ z + k := by
  intro q
  have h1 := h.sh.wu t ht j hj
  rw [q, h.sh.wz k hk hk2] at h1
  omega
def sHid (isl cell : Int32) : Int32 := if cell / 8 = isl / 8 then (if jrem cell 8 ≤ jrem isl 8 then 0 else 1) else 0
def sNm (A : th_M) (b : Nat) (cell mi w f : Int32) (j : Nat) : Int32 := if j = 0 then f else if j = 1 then w else if j = 2 then mi - (A 4 b + A 5 b) else if j = 3 then sHid (A 0 8) cell else if j = 4 then nI b else mi
theorem x_names (h : JX z σ Z B U ω n nt μ A) (hb : b < n) {cell mi w : Int32} {f : Nat} (hf : f_X10_far 0 cell = some (nI f)) : ∃ μ', f_X10_nameAll σ μ z (nI b) cell mi w = some μ' ∧ (∀ q, q ≠ z + 9 → μ' q = μ q) ∧ ∀ j, j < 6 → μ' (z + 9) j = sNm A b cell mi w (nI f) j := by
  have S := h.sh
  have hU := S.sx
  have n7 := S.n7
  have hz : B b + 1 ≠ z + 9 := h.bz hb (by decide) (by decide) (by decide)
  obtain ⟨w0, w1, w2, w3, w4, w5⟩ := h.nw b hb
  have hl := h.lk.1
  have s9 : ∀ (μ : th_M) (v : Int32), oS σ μ (z + 9) 3 v = some (th_w μ (z + 9) 3 v) := fun μ v => s_9 hU (b := 3) (by decide)
  have tail : ∀ (μ : th_M) (v : Int32), f_X10_nameAll_b54 σ μ z (nI b) mi (z + 9) 3 v = some (th_w (th_w (th_w μ (z + 9) 3 v) (z + 9) 4 (nI b)) (z + 9) 5 mi) := by
    intro μ v
    unfold f_X10_nameAll_b54
    rw [s9, Option.bind_some, r_0_8 hU, Option.bind_some, sn_9 hU (by decide), Option.bind_some, Option.bind_some, sn_9 hU (by decide), Option.bind_some]
  have hid : ∀ μ0 : th_M, μ0 (z + 2) = μ (z + 2) → f_X10_isHidden σ μ0 z cell = some (sHid (A 0 8) cell) := by
    intro μ0 h0
    unfold f_X10_isHidden sHid
    rw [r_0_2 hU, Option.bind_some, an_2 hU (by decide), Option.bind_some, h0, hl]
    by_cases c : cell / 8 = A 0 8 / 8
    · rw [if_pos c, if_pos c, Option.bind_some, an_2 hU (by decide), Option.bind_some, h0, hl]
      by_cases d : jrem cell 8 ≤ jrem (A 0 8) 8
      · rw [if_pos d, if_pos d]
      · rw [if_neg d, if_neg d]
    · rw [if_neg c, if_neg c]
  refine ⟨th_w (th_w (th_w (th_w (th_w (th_w μ (z + 9) 0 (nI f)) (z + 9) 1 w) (z + 9) 2 (mi - (A 4 b + A 5 b))) (z + 9) 3 (sHid (A 0 8) cell)) (z + 9) 4 (nI b)) (z + 9) 5 mi, ?_, ?_, ?_⟩
  · unfold f_X10_nameAll
    rw [r_0_8 hU, Option.bind_some, hf, Option.bind_some, sn_9 hU (by decide), Option.bind_some, Option.bind_some, sn_9 hU (by decide), Option.bind_some, Option.bind_some, r_0_0 hU, Option.bind_some, S.oq hb, Option.bind_some, S.due hb, Option.bind_some, sn_9 hU (by decide), Option.bind_some, Option.bind_some, c_0 hU, th_w_ne _ _ hz, th_w_ne _ _ hz, w1, w2, hid _ (by rw [th_w_ne _ _ (by omega), th_w_ne _ _ (by omega), th_w_ne _ _ (by omega)]), Option.bind_some]
    by_cases c : sHid (A 0 8) cell = 0
    · rw [if_pos c, c]; exact tail _ _
    · rw [if_neg c]
      have c1 : sHid (A 0 8) cell = 1 := by
        unfold sHid at c ⊢
        by_cases d : cell / 8 = A 0 8 / 8
        · rw [if_pos d] at c ⊢
          by_cases g : jrem cell 8 ≤ jrem (A 0 8) 8
          · rw [if_pos g] at c; exact absurd rfl c
          · rw [if_neg g]
        · rw [if_neg d] at c; exact absurd rfl c
      rw [c1]; exact tail _ _
  · intro q hq
    simp only [th_w_ne _ _ hq]
  · intro j hj
    simp only [th_w_hit]
    unfold sNm
    rcases (by omega : j = 0 ∨ j = 1 ∨ j = 2 ∨ j = 3 ∨ j = 4 ∨ j = 5) with q | q | q | q | q | q <;> subst q <;> rfl
theorem x_rule (h : JX z σ Z B U ω n nt μ A) {r : Nat} (hr : A 0 18 = nI r) (hn : r < nt) : f_X10_rule σ μ z = some (U r) := by
  have S := h.sh
  have t6 := S.t6.2
  unfold f_X10_rule
  rw [r_0_6 S.sx, Option.bind_some, r_0_2 S.sx, Option.bind_some, an_2 S.sx (by decide), Option.bind_some, h.lk.2.2.2.2.2.2.2, hr, oQ_nI (sk_8 S.sx) (sl_8 S.sx) (by decide) (by omega) (S.ur r hn), Option.bind_some]
end SC
