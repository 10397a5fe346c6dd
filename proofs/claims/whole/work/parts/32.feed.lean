section SJ
variable {z : Nat} {σ : th_S} {Z Y : th_M} {B U ω : Nat → Nat} {n nt b t : Nat} {μ μ' μX μM A A' A2 : th_M}
/-- the tape changes, no more -/
theorem JX.tape (h : JX z σ Z B U ω n nt μ A) (eμ : ∀ q, ω q ≠ 4 → ω q ≠ 5 → μ' q = μ q) (eA : ∀ p, p ≠ 0 → p ≠ 8 → A' p = A p) (e0 : ∀ k, k ≠ 15 → ¬ scr 0 k → A' 0 k = A 0 k)
    (hn : ∃ m, m ≤ 160 ∧ A' 0 15 = nI m ∧ μ' (z + 4) 1 = nI m ∧ ∀ i, i < m → μ' (z + 5) i = A' 8 i ∧ rg (A' 8 i) 255) : JX z σ Z B U ω n nt μ' A' := by
  have S := h.sh
  have n7 := S.n7
  have t6 := S.t6.2
  have E : ∀ k, k < 48 → (k < 23 ∨ 27 ≤ k) → k ≠ 4 → k ≠ 5 → μ' (z + k) = μ (z + k) := fun k h1 h2 h3 h4 => eμ _ (by rw [S.wz k h1 h2]; exact h3) (by rw [S.wz k h1 h2]; exact h4)
  have EB : ∀ b, b < n → ∀ j, j < 3 → μ' (B b + j) = μ (B b + j) := fun b hb j hj => eμ _ (by rw [S.wb b hb j hj]; omega) (by rw [S.wb b hb j hj]; omega)
  have EU : ∀ t, t < nt → ∀ j, j < 4 → μ' (U t + j) = μ (U t + j) := fun t ht j hj => eμ _ (by rw [S.wu t ht j hj]; omega) (by rw [S.wu t ht j hj]; omega)
  have E0 : μ' z = μ z := E 0 (by decide) (by decide) (by omega) (by omega)
  have a : ∀ k, k ≠ 15 → ¬ ((21 ≤ k ∧ k ≤ 26) ∨ k = 29) → A' 0 k = A 0 k := fun k h1 h2 => e0 k h1 (by unfold scr; omega)
  have a1 := eA 1 (by decide) (by decide)
  have a2 := eA 2 (by decide) (by decide)
  have a3 := eA 3 (by decide) (by decide)
  have a4 := eA 4 (by decide) (by decide)
  have a5 := eA 5 (by decide) (by decide)
  have a6 := eA 6 (by decide) (by decide)
  have a7 := eA 7 (by decide) (by decide)
  have a9 := eA 9 (by decide) (by decide)
  have a10 := eA 10 (by decide) (by decide)
  have a16 := eA 16 (by decide) (by decide)
  have a17 := eA 17 (by decide) (by decide)
  have a18 := eA 18 (by decide) (by decide)
  have a19 := eA 19 (by decide) (by decide)
  refine ⟨by rw [a1]; exact S, fun p hp => ?_, ⟨(E 13 (by decide) (by decide) (by omega) (by omega)).trans h.fo, fun j hj => by rw [E 12 (by decide) (by decide) (by omega) (by omega)]; exact h.f0 j hj⟩, by rw [a 0 (by omega) (by omega)]; exact h.nn, by rw [E0]; exact h.xn, fun b hb => ?_, fun b hb => ?_, ?_, ?_, hn, fun i hi => ?_, by rw [E0]; exact h.xt, by rw [a 17 (by omega) (by omega)]; exact h.at, by rw [a 18 (by omega) (by omega)]; exact h.ru, fun t ht => ?_, ?_⟩
  · rw [E (27 + p) (by omega) (by omega) (by omega) (by omega)]; exact h.fz p hp
  · rw [EB b hb 1 (by decide), a2, a3, a4, a5, a6, a7]; exact h.nw b hb
  · rw [a2, a3, a4, a5, a6, a7]; exact h.rn b hb
  · rw [E 2 (by decide) (by decide) (by omega) (by omega), a 8 (by omega) (by omega), a 9 (by omega) (by omega), a 11 (by omega) (by omega), a 12 (by omega) (by omega), a 13 (by omega) (by omega), a 10 (by omega) (by omega), a 14 (by omega) (by omega), a 18 (by omega) (by omega)]; exact h.lk
  · rw [a 8 (by omega) (by omega), a 9 (by omega) (by omega), a 11 (by omega) (by omega), a 12 (by omega) (by omega), a 13 (by omega) (by omega), a 10 (by omega) (by omega)]; exact h.rl
  · rw [E (15 + 2 * i) (by omega) (by omega) (by omega) (by omega), E (16 + 2 * i) (by omega) (by omega) (by omega) (by omega), a17, a18, a19]; exact h.st i hi
  · rw [EU t ht 1 (by omega), EU t ht 2 (by omega), a9, a10]; exact h.cd t ht
  · rw [a 33 (by omega) (by omega), a 34 (by omega) (by omega), E0, E 3 (by decide) (by decide) (by omega) (by omega), a16]
    rcases h.im with q | ⟨q1, no, q2, q3, q4, q5, q6, q7, q8⟩
    · exact Or.inl q
    · exact Or.inr ⟨q1, no, q2, q3, q4, q5, q6, q7, fun b hb => by rw [EB b (by omega) 2 (by decide)]; exact q8 b hb⟩
theorem feed_lock (h : JX z σ Z B U ω n nt μX A) (m : JM z Y μM A) (x : Int32) : LK z σ Z Y B U ω n nt (f_X10_feed σ μX z x) (f_X11_feed σ μM (z + 27) x) := by
  have S := h.sh
  have hU := S.sx
  obtain ⟨l, hl, e1, e2, e3⟩ := h.tp
  unfold f_X10_feed f_X11_feed
  rw [m_within, Option.bind_some]
  by_cases c : 0 ≤ x ∧ x ≤ 255
  · rw [if_neg (Int32.not_lt.mpr c.1), if_pos c.2, if_pos c, if_neg n10, r_0_5 hU, Option.bind_some, c_4 hU]
    unfold f_X8_add
    rw [i_4 hU, Option.bind_some, e2, i_27 hU, Option.bind_some, jm_0_15 m, e1]
    by_cases d : l = 160
    · subst d
      rw [if_neg (by decide), b2s, if_pos (show (0 : Int32) = 0 from rfl), if_pos (by decide)]
      exact (LA.mk h m _).k
    · have hr : rg x 255 := rg_in c (by decide) (by decide)
      have n160 : ¬ nI l = 160 := fun q => d ((nI_eq (b := 160) (by omega) (by omega)).mp q)
      rw [if_pos (show nI l < 160 from nI_lt (b := 160) (by omega) (by omega)), if_neg n160, r_4_0 hU, Option.bind_some, Option.bind_some, s_5 hU (by omega), Option.bind_some, i_4 hU, Option.bind_some, th_w_ne _ _ (by omega), e2, p_4 hU, Option.bind_some, b2s, if_neg n10, Option.bind_some, i_4 hU, Option.bind_some, th_w_self, nI_1]
      rw [r_27_16 hU, Option.bind_some, Option.bind_some, p_27 hU, Option.bind_some, s_35 hU (by omega), Option.bind_some, i_27 hU, Option.bind_some, th_w_ne _ _ (by omega), th_w_self, nI_1]
      refine ⟨th_w (th_w A 0 15 (nI (l + 1))) 8 l x, nI (l + 1), _, _, rfl, rfl, ?_, (m.w (p := 0) (by decide)).w (p := 8) (by decide)⟩
      refine h.tape (fun q q4 q5 => by rw [th_w_ne _ _ (h.sq (i := 0) (by omega) (by omega) q4), th_w_ne _ _ (h.sq (i := 0) (by omega) (by omega) q5)]) (fun p h1 h2 => by rw [th_w_ne _ _ h2, th_w_ne _ _ h1]) (fun k h1 _ => by rw [th_w_ne _ _ (by decide), th_w_hit, if_neg h1]) ⟨l + 1, by omega, by rw [th_w_ne _ _ (by decide), th_w_self], th_w_self _ _ _ _, fun i hi => ?_⟩
      rw [th_w_ne _ _ (by omega), th_w_hit, th_w_hit, th_w_ne _ _ (by decide)]
      by_cases e : i = l
      · rw [if_pos e, if_pos e]; exact ⟨rfl, hr⟩
      · rw [if_neg e, if_neg e]; exact e3 i (by omega)
  · rw [if_neg c, if_pos (show (0 : Int32) = 0 from rfl)]
    by_cases d : x < 0
    · rw [if_pos d]; exact (LA.mk h m _).k
    · rw [if_neg d, if_neg (fun q => c ⟨Int32.not_lt.mp d, q⟩)]; exact (LA.mk h m _).k
/-- under which kind a kind is -/
def under (k : Nat) (y : Nat) : Bool := (y = 0) || (k = y) || (k = 3 && y = 1) || (k = 4 && y = 2)
theorem tak_m (hU : SX σ z) (m : JM z Y μM A) (hb : b < 7) {k y : Nat} (hk : k ≤ 5) (hy : y ≤ 5) : f_X11_taken_b30 fu σ μM (z + 27) (nI b) (nI y) (nI k) = if under k y = true then some (A 2 b) else some (-13) := by
  have t : ∀ k : Int32, f_X11_taken_b62 σ μM (z + 27) (nI b) (nI y) k = if k = nI y then some (A 2 b) else some (-13) := fun k => by
    unfold f_X11_taken_b62
    rw [r_27_2 hU, Option.bind_some, a_29 hU hb, Option.bind_some, jm_2 m]
  have fs : fu = 997 + 3 := rfl
  rw [fs]
  have u : ∀ f (k : Int32), f_X11_taken_b30 (f + 1) σ μM (z + 27) (nI b) (nI y) k = if k = nI y then f_X11_taken_b62 σ μM (z + 27) (nI b) (nI y) k else if k ≤ 0 then f_X11_taken_b62 σ μM (z + 27) (nI b) (nI y) k else if k = 3 then f_X11_taken_b30 f σ μM (z + 27) (nI b) (nI y) 1 else if k = 4 then f_X11_taken_b30 f σ μM (z + 27) (nI b) (nI y) 2 else f_X11_taken_b30 f σ μM (z + 27) (nI b) (nI y) 0 := fun _ _ => rfl
  rw [u (997 + 2), u (997 + 1), u (997 + 1), u (997 + 1), u 997, u 997, u 997]
  simp only [t]
  rcases k_cases hk with q | q | q | q | q | q <;> subst q <;> rcases k_cases hy with q | q | q | q | q | q <;> subst q <;> rfl
theorem taken_lock (h : JX z σ Z B U ω n nt μX A) (m : JM z Y μM A) (x y : Int32) : ∃ v, f_X10_taken σ μX z x y = some v ∧ f_X11_taken σ μM (z + 27) x y = some v := by
  have S := h.sh
  have hU := S.sx
  have n7 := S.n7
  unfold f_X10_taken f_X11_taken
  rw [m_within, Option.bind_some, c_0 hU, c_27 hU]
  by_cases c : 0 ≤ y ∧ y ≤ 5
  · rw [if_neg (Int32.not_lt.mpr c.1), if_pos c.2, if_pos c, if_neg n10]
    obtain ⟨k, hk, rfl⟩ : rg y 5 := rg_in c (by decide) (by decide)
    rcases isb_lock h m x with ⟨b, hb, rfl, e1, e2⟩ | ⟨e1, e2, -⟩
    · obtain ⟨kd, hkd, ek⟩ := S.kd b hb
      have hc := S.bc b hb
      have tb := S.tb hb
      rw [e1, e2, Option.bind_some, Option.bind_some, if_neg n10, if_neg n10, r_27_1 hU, Option.bind_some, a_28 hU (by omega), Option.bind_some, jm_1 m, ek, tak_m hU m (by omega) hkd hk]
      have hx : f_X10_isOf σ μX (B b) (nI k) = some (if under kd k = true then 1 else 0) := by
        rw [ek] at hc
        unfold f_X10_isOf oIn
        rw [if_pos tb, hc]
        rcases k_cases hkd with q | q | q | q | q | q <;> subst q <;> rcases k_cases hk with q | q | q | q | q | q <;> subst q <;> decide
      simp only [r_0_0 hU, Option.bind_some, S.oq hb, hx, S.b0 hb, S.ban hb (show 3 < 6 by decide), (h.nw b hb).2.2.2.1]
      by_cases d : under kd k = true
      · rw [if_pos d, if_neg n10, if_pos d]; exact ⟨_, rfl, rfl⟩
      · rw [if_neg d, if_pos (show (0 : Int32) = 0 from rfl), if_neg d]; exact ⟨_, rfl, rfl⟩
    · rw [e1, e2, Option.bind_some, Option.bind_some, if_pos rfl, if_pos rfl]
      exact ⟨_, rfl, rfl⟩
  · rw [if_neg c, if_pos (show (0 : Int32) = 0 from rfl)]
    by_cases d : y < 0
    · rw [if_pos d]; exact ⟨_, rfl, rfl⟩
    · rw [if_neg d, if_neg (fun q => c ⟨Int32.not_lt.mp d, q⟩)]; exact ⟨_, rfl, rfl⟩
end SJ
