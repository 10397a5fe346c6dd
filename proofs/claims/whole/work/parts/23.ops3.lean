section O3
variable {z : Nat} {σ : th_S} {Z Y : th_M} {B U ω : Nat → Nat} {n nt b t : Nat} {μ μ' μX μM A A' A2 : th_M}
theorem nobody_loop : ∀ k i bits f g μX μM, i + k = n → k < f → k < g → JX z σ Z B U ω n nt μX A → JM z Y μM A → LA z σ Z Y B U ω n nt A (f_X10_nobody_b4 f σ μX z bits (nI i)) (f_X11_nobody_b4 g σ μM (z + 27) bits (nI i)) := by
  intro k
  induction k with
  | zero =>
    intro i bits f g μX μM hi hf hg h m
    obtain ⟨f, rfl⟩ : ∃ f', f = f' + 1 := ⟨f - 1, by omega⟩
    obtain ⟨g, rfl⟩ : ∃ g', g = g' + 1 := ⟨g - 1, by omega⟩
    have hU := h.sh.sx
    have e : i = n := by omega
    subst e
    have hX : f_X10_nobody_b4 (f + 1) σ μX z bits (nI i) = some (bits, μX) := by
      show (oI σ μX 10 z 1).bind _ = _
      rw [i_0 hU, Option.bind_some, h.xn, if_pos (Int32.le_refl _)]
    have hM : f_X11_nobody_b4 (g + 1) σ μM (z + 27) bits (nI i) = some (bits, μM) := by
      show (oI σ μM 11 (z + 27) 0).bind _ = _
      rw [i_27 hU, Option.bind_some, jm_0_0 m, h.nn, if_pos (Int32.le_refl _)]
    rw [hX, hM]
    exact LA.mk h m bits
  | succ k ih =>
    intro i bits f g μX μM hi hf hg h m
    obtain ⟨f, rfl⟩ : ∃ f', f = f' + 1 := ⟨f - 1, by omega⟩
    obtain ⟨g, rfl⟩ : ∃ g', g = g' + 1 := ⟨g - 1, by omega⟩
    have S := h.sh
    have hU := S.sx
    have n7 := S.n7
    have hin : i < n := by omega
    have nl : ¬ nI n ≤ nI i := nI_ge hin (by omega)
    have hX : f_X10_nobody_b4 (f + 1) σ μX z bits (nI i) = if A 6 i = 0 then b2 (f_X10_wouldComeNow σ μX z (nI i)) fun v3 μ4 => (if v3 = 0 then f_X10_nobody_b4 f σ μ4 z (bits ||| jshl 1 (nI i)) (nI (i + 1)) else f_X10_nobody_b4 f σ μ4 z bits (nI (i + 1))) else f_X10_nobody_b4 f σ μX z bits (nI (i + 1)) := by
      show (oI σ μX 10 z 1).bind _ = _
      simp only [i_0 hU, Option.bind_some, h.xn, if_neg nl, c_0 hU, x_on h hin, nI_1]
      by_cases c : A 6 i = 0
      · rw [if_pos c, if_pos c, if_neg n10]
      · rw [if_neg c, if_neg c, if_pos (show (0 : Int32) = 0 from rfl)]
    have hM : f_X11_nobody_b4 (g + 1) σ μM (z + 27) bits (nI i) = if A 6 i = 0 then b2 (f_X11_would_ σ μM (z + 27) (nI i)) fun v3 μ4 => (if v3 = 0 then f_X11_nobody_b4 g σ μ4 (z + 27) (bits ||| jshl 1 (nI i)) (nI (i + 1)) else f_X11_nobody_b4 g σ μ4 (z + 27) bits (nI (i + 1))) else f_X11_nobody_b4 g σ μM (z + 27) bits (nI (i + 1)) := by
      show (oI σ μM 11 (z + 27) 0).bind _ = _
      simp only [i_27 hU, Option.bind_some, jm_0_0 m, h.nn, if_neg nl, r_27_6 hU, a_33 hU (show i < 7 by omega), jm_6 m, nI_1, c_27 hU]
    rw [hX, hM]
    by_cases c : A 6 i = 0
    · rw [if_pos c, if_pos c]
      obtain ⟨v, u, w, a1, a2, a3, a4, a5⟩ := now_lock h m hin
      rw [a1, a2, b2s, b2s]
      rcases a3 with e | e
      · rw [if_pos e, if_pos e]
        exact ih (i + 1) _ f g u w (by omega) (by omega) (by omega) a4 a5
      · rw [if_neg (by rw [e]; exact n10), if_neg (by rw [e]; exact n10)]
        exact ih (i + 1) _ f g u w (by omega) (by omega) (by omega) a4 a5
    · rw [if_neg c, if_neg c]
      exact ih (i + 1) _ f g μX μM (by omega) (by omega) (by omega) h m
theorem nobody_lock (h : JX z σ Z B U ω n nt μX A) (m : JM z Y μM A) : LA z σ Z Y B U ω n nt A (f_X10_nobody σ μX z) (f_X11_nobody σ μM (z + 27)) := by
  have n7 := h.sh.n7
  exact nobody_loop n 0 0 fu fu μX μM (by omega) (by unfold fu; omega) (by unfold fu; omega) h m
theorem coming_lock (h : JX z σ Z B U ω n nt μX A) (m : JM z Y μM A) (hb : b < n) :
    ∃ v u w, f_X10_comingAt σ μX z (nI b) = some (v, u) ∧ f_X11_wouldBeIn σ μM (z + 27) (nI b) = some (v, w) ∧ (v = -1 ∨ (rg v 20000 ∧ A 6 b ≠ 2)) ∧ JX z σ Z B U ω n nt u A ∧ JM z Y w A := by
  have S := h.sh
  have hU := S.sx
  have n7 := S.n7
  have b7 : b < 7 := by omega
  have w := h.nw b hb
  unfold f_X10_comingAt f_X11_wouldBeIn
  simp only [r_0_0 hU, Option.bind_some, S.oq hb, S.b0 hb, S.ban hb (show 4 < 6 by decide), S.ban hb (show 5 < 6 by decide), w.2.2.2.2.1, w.2.2.2.2.2, c_0 hU, x_on h hb, r_27_6 hU, a_33 hU b7, jm_6 m, r_27_7 hU, a_34 hU b7, jm_7 m, c_27 hU]
  by_cases c : A 6 b = 1
  · rw [if_pos c, if_pos c]
    refine ⟨A 7 b, μX, μM, rfl, rfl, Or.inr ⟨(h.rn b hb).2.2.2.2.2 (by rw [c]; decide), by rw [c]; decide⟩, h, m⟩
  · rw [if_neg c, if_neg c]
    by_cases d : A 6 b = 0
    · rw [if_pos d, if_neg n10, if_pos d]
      obtain ⟨v, u, w, a1, a2, a3, a4, a5⟩ := now_lock h m hb
      rw [a1, a2, b2s, b2s]
      rcases a3 with e | e
      · rw [if_pos e, if_pos e]
        exact ⟨-1, u, w, rfl, rfl, Or.inl rfl, a4, a5⟩
      · rw [if_neg (by rw [e]; exact n10), if_neg (by rw [e]; exact n10)]
        obtain ⟨k, hk, n1, n2⟩ := needs_lock a4 a5 hb
        obtain ⟨mi, hmi, emi⟩ := h.rl.2.2.1
        refine ⟨A 0 10 + nI k, u, w, ?_, ?_, Or.inr ⟨by rw [emi, nI_add]; exact ⟨mi + k, by omega, rfl⟩, by rw [d]; decide⟩, a4, a5⟩
        · rw [r_0_2 hU, Option.bind_some, an_2 hU (by decide), Option.bind_some, n1, Option.bind_some, a4.lk.2.2.2.2.2.1]
        · rw [i_27 hU, Option.bind_some, n2, Option.bind_some, jm_0_10 a5]
    · rw [if_neg d, if_pos (show (0 : Int32) = 0 from rfl), if_neg d]
      exact ⟨-1, μX, μM, rfl, rfl, Or.inl rfl, h, m⟩
theorem allIn_loop : ∀ k i lat f g μX μM, i + k = n → k < f → k < g → JX z σ Z B U ω n nt μX A → JM z Y μM A → LA z σ Z Y B U ω n nt A (f_X10_allIn_b10 f σ μX z lat (nI i)) (f_X11_allIn_b7 g σ μM (z + 27) lat (nI i)) := by
  intro k
  induction k with
  | zero =>
    intro i lat f g μX μM hi hf hg h m
    obtain ⟨f, rfl⟩ : ∃ f', f = f' + 1 := ⟨f - 1, by omega⟩
    obtain ⟨g, rfl⟩ : ∃ g', g = g' + 1 := ⟨g - 1, by omega⟩
    have hU := h.sh.sx
    have e : i = n := by omega
    subst e
    have hX : f_X10_allIn_b10 (f + 1) σ μX z lat (nI i) = some (lat, μX) := by
      show (oI σ μX 10 z 1).bind _ = _
      rw [i_0 hU, Option.bind_some, h.xn, if_pos (Int32.le_refl _)]
    have hM : f_X11_allIn_b7 (g + 1) σ μM (z + 27) lat (nI i) = some (lat, μM) := by
      show (oI σ μM 11 (z + 27) 0).bind _ = _
      rw [i_27 hU, Option.bind_some, jm_0_0 m, h.nn, if_pos (Int32.le_refl _)]
    rw [hX, hM]
    exact LA.mk h m lat
  | succ k ih =>
    intro i lat f g μX μM hi hf hg h m
    obtain ⟨f, rfl⟩ : ∃ f', f = f' + 1 := ⟨f - 1, by omega⟩
    obtain ⟨g, rfl⟩ : ∃ g', g = g' + 1 := ⟨g - 1, by omega⟩
    have S := h.sh
    have hU := S.sx
    have n7 := S.n7
    have hin : i < n := by omega
    have nl : ¬ nI n ≤ nI i := nI_ge hin (by omega)
    have hX : f_X10_allIn_b10 (f + 1) σ μX z lat (nI i) = b2 (f_X10_comingAt σ μX z (nI i)) fun v2 μ3 => f_X10_allIn_b10 f σ μ3 z (jmax lat v2) (nI (i + 1)) := by
      show (oI σ μX 10 z 1).bind _ = _
      simp only [i_0 hU, Option.bind_some, h.xn, if_neg nl, c_0 hU, nI_1]
    have hM : f_X11_allIn_b7 (g + 1) σ μM (z + 27) lat (nI i) = b2 (f_X11_wouldBeIn σ μM (z + 27) (nI i)) fun v2 μ3 => f_X11_allIn_b7 g σ μ3 (z + 27) (jmax lat v2) (nI (i + 1)) := by
      show (oI σ μM 11 (z + 27) 0).bind _ = _
      simp only [i_27 hU, Option.bind_some, jm_0_0 m, h.nn, if_neg nl, nI_1, c_27 hU]
    obtain ⟨v, u, w, a1, a2, a3, a4, a5⟩ := coming_lock h m hin
    rw [hX, hM, a1, a2, b2s, b2s]
    exact ih (i + 1) _ f g u w (by omega) (by omega) (by omega) a4 a5
theorem allIn_lock (h : JX z σ Z B U ω n nt μX A) (m : JM z Y μM A) : LA z σ Z Y B U ω n nt A (f_X10_allIn σ μX z) (f_X11_allIn σ μM (z + 27)) := by
  have n7 := h.sh.n7
  have hU := h.sh.sx
  unfold f_X10_allIn f_X11_allIn
  rw [r_0_2 hU, Option.bind_some, an_2 hU (by decide), Option.bind_some, h.lk.2.2.2.2.2.1, i_27 hU, Option.bind_some, jm_0_10 m]
  exact allIn_loop n 0 _ fu fu μX μM (by omega) (by unfold fu; omega) (by unfold fu; omega) h m
/-- a boat's soonest minute and the reference's test are one -/
theorem soon {o p k mi j : Nat} (ho : o ≤ 999) (hp : p ≤ 240) (hk : k ≤ 240) (hm : mi ≤ 9999) (hj : j ≤ 300) : (nI mi + nI j < (nI o + nI p) - nI k) ↔ ((nI mi + nI j) + nI k < nI o + nI p) := by
  rw [nI_add, nI_add, nI_add, Int32.lt_iff_toInt_lt, Int32.lt_iff_toInt_lt, Int32.toInt_sub, nI_toInt (by omega), nI_toInt (by omega), nI_toInt (by omega), nI_toInt (by omega), Int.bmod_eq_of_le (by omega) (by omega)]
  omega
theorem callAt_loop (hb : b < n) {d : Nat} : ∀ k i f g μX μM, i + k = 241 → k < f → k < g → JX z σ Z B U ω n nt μX A → JM z Y μM A → d ≤ 240 → (∀ μM, JM z Y μM A → f_X11_needs σ μM (z + 27) (nI b) = some (nI d)) → LA z σ Z Y B U ω n nt A (f_X10_callAt_b40 f σ μX z (nI b) ((A 4 b + A 5 b) - nI d) (nI i)) (f_X11_callAt_b25 g σ μM (z + 27) (nI b) (nI i)) := by
  intro k
  induction k with
  | zero =>
    intro i f g μX μM hi hf hg h m hd hnd
    obtain ⟨f, rfl⟩ : ∃ f', f = f' + 1 := ⟨f - 1, by omega⟩
    obtain ⟨g, rfl⟩ : ∃ g', g = g' + 1 := ⟨g - 1, by omega⟩
    have e : i = 241 := by omega
    subst e
    have hX : f_X10_callAt_b40 (f + 1) σ μX z (nI b) ((A 4 b + A 5 b) - nI d) (nI 241) = some (-1, μX) := by
      show (if (240 : Int32) < nI 241 then _ else _) = _
      rw [if_pos (by decide)]
    have hM : f_X11_callAt_b25 (g + 1) σ μM (z + 27) (nI b) (nI 241) = some (-1, μM) := by
      show (if (241 : Int32) ≤ nI 241 then _ else _) = _
      rw [if_pos (by decide)]
    rw [hX, hM]
    exact LA.mk h m _
  | succ k ih =>
    intro i f g μX μM hi hf hg h m hd hnd
    obtain ⟨f, rfl⟩ : ∃ f', f = f' + 1 := ⟨f - 1, by omega⟩
    obtain ⟨g, rfl⟩ : ∃ g', g = g' + 1 := ⟨g - 1, by omega⟩
    have S := h.sh
    have hU := S.sx
    have n7 := S.n7
    have b7 : b < 7 := by omega
    have w := h.nw b hb
    have l := h.lk
    have nl : ¬ (240 : Int32) < nI i := nI_nlt (b := i) (a := 240) (by omega) (by decide)
    have nl2 : ¬ (241 : Int32) ≤ nI i := nI_ge (b := 241) (by omega) (by decide)
    have hX : f_X10_callAt_b40 (f + 1) σ μX z (nI b) ((A 4 b + A 5 b) - nI d) (nI i) = if A 0 10 + nI i < (A 4 b + A 5 b) - nI d then f_X10_callAt_b40 f σ μX z (nI b) ((A 4 b + A 5 b) - nI d) (nI (i + 1)) else b2 (f_X10_wouldCome σ μX z (nI b) (A 3 b) (A 0 10 + nI i) (A 0 9)) fun v9 μ10 => if v9 = 0 then f_X10_callAt_b40 f σ μ10 z (nI b) ((A 4 b + A 5 b) - nI d) (nI (i + 1)) else some (nI i, μ10) := by
      show (if (240 : Int32) < nI i then _ else _) = _
      simp only [if_neg nl, r_0_2 hU, Option.bind_some, an_2 hU (show 9 < 12 by decide), an_2 hU (show 5 < 12 by decide), l.2.2.2.2.2.1, l.2.1, r_0_0 hU, S.oq hb, S.b0 hb, S.ban hb (show 0 < 6 by decide), w.1, c_0 hU, nI_1]
    have hM : f_X11_callAt_b25 (g + 1) σ μM (z + 27) (nI b) (nI i) = if (A 0 10 + nI i) + nI d < A 4 b + A 5 b then f_X11_callAt_b25 g σ μM (z + 27) (nI b) (nI (i + 1)) else b2 (f_X11_would σ μM (z + 27) (nI b) (A 3 b) (A 0 10 + nI i)) fun v10 μ11 => if v10 = 0 then f_X11_callAt_b25 g σ μ11 (z + 27) (nI b) (nI (i + 1)) else some (nI i, μ11) := by
      show (if (241 : Int32) ≤ nI i then _ else _) = _
      simp only [if_neg nl2, i_27 hU, Option.bind_some, jm_0_10 m, c_27 hU, hnd μM m, r_27_4 hU, a_31 hU b7, jm_4 m, r_27_5 hU, a_32 hU b7, jm_5 m, r_27_3 hU, a_30 hU b7, jm_3 m, nI_1]
    rw [hX, hM]
    obtain ⟨⟨r0, r1, r2, r3, r4, r5⟩, mi, hmi, emi⟩ := And.intro (h.rn b hb) h.rl.2.2.1
    obtain ⟨o, ho, eo⟩ := r1
    obtain ⟨p, hp, ep⟩ := r2
    have sn := soon (mi := mi) (j := i) ho hp hd hmi (by omega)
    rw [← eo, ← ep, ← emi] at sn
    by_cases c : A 0 10 + nI i < (A 4 b + A 5 b) - nI d
    · rw [if_pos c, if_pos (sn.mp c)]
      exact ih (i + 1) f g μX μM (by omega) (by omega) (by omega) h m hd hnd
    · rw [if_neg c, if_neg (fun q => c (sn.mpr q))]
      obtain ⟨v, u, w, a1, a2, a3, a4, a5⟩ := would_lock h (AG.refl A) m hb (mi := A 0 10 + nI i) r0 h.rl.2.1
      rw [a1, a2, b2s, b2s]
      rcases a3 with e | e
      · rw [if_pos e, if_pos e]
        exact ih (i + 1) f g u w (by omega) (by omega) (by omega) a4 a5 hd hnd
      · rw [if_neg (by rw [e]; exact n10), if_neg (by rw [e]; exact n10)]
        exact LA.mk a4 a5 _
theorem callAt_lock (h : JX z σ Z B U ω n nt μX A) (m : JM z Y μM A) (x : Int32) : LA z σ Z Y B U ω n nt A (f_X10_callAt σ μX z x) (f_X11_callAt σ μM (z + 27) x) := by
  have S := h.sh
  have hU := S.sx
  have n7 := S.n7
  unfold f_X10_callAt f_X11_callAt
  rw [c_0 hU, c_27 hU]
  rcases isb_lock h m x with ⟨b, hb, rfl, e1, e2⟩ | ⟨e1, e2, -⟩
  · have b7 : b < 7 := by omega
    rw [e1, e2, Option.bind_some, Option.bind_some, if_neg n10, if_neg n10, x_on h hb, Option.bind_some, r_27_6 hU, Option.bind_some, a_33 hU b7, Option.bind_some, jm_6 m]
    by_cases c : A 6 b = 0
    · rw [if_pos c, if_neg n10, if_pos c]
      obtain ⟨d, hd, n1, n2⟩ := needs_lock h m hb
      have w := h.nw b hb
      rw [r_0_0 hU, Option.bind_some, S.oq hb, Option.bind_some, S.due hb, Option.bind_some, n1, Option.bind_some, w.2.1, w.2.2.1]
      refine callAt_loop hb 241 0 fu fu μX μM (by omega) (by unfold fu; omega) (by unfold fu; omega) h m hd (fun μ' m' => ?_)
      obtain ⟨d', hd', n3, n4⟩ := needs_lock h m' hb
      rw [n4, ← n3, n1]
    · rw [if_neg c, if_pos (show (0 : Int32) = 0 from rfl), if_neg c]
      exact LA.mk h m _
  · rw [e1, e2, Option.bind_some, Option.bind_some, if_pos rfl, if_pos rfl]
    exact LA.mk h m _
end O3
