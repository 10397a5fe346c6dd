section O1
variable {z : Nat} {σ : th_S} {Z Y : th_M} {B U ω : Nat → Nat} {n nt b t : Nat} {μ μ' μX μM A A' A2 : th_M}
/-- both answer alike, A is as it was -/
def LA (z : Nat) (σ : th_S) (Z Y : th_M) (B U ω : Nat → Nat) (n nt : Nat) (A : th_M) (x y : Option (Int32 × th_M)) : Prop := ∃ v u w, x = some (v, u) ∧ y = some (v, w) ∧ JX z σ Z B U ω n nt u A ∧ JM z Y w A
/-- both answer alike -/
def LK (z : Nat) (σ : th_S) (Z Y : th_M) (B U ω : Nat → Nat) (n nt : Nat) (x y : Option (Int32 × th_M)) : Prop := ∃ A, LA z σ Z Y B U ω n nt A x y
theorem LA.k {x y : Option (Int32 × th_M)} (h : LA z σ Z Y B U ω n nt A x y) : LK z σ Z Y B U ω n nt x y := ⟨A, h⟩
theorem LA.mk (h : JX z σ Z B U ω n nt μX A) (m : JM z Y μM A) (v : Int32) : LA z σ Z Y B U ω n nt A (some (v, μX)) (some (v, μM)) := ⟨v, μX, μM, rfl, rfl, h, m⟩
theorem m_within (x a b : Int32) : f_X11_within x a b = some (if a ≤ x ∧ x ≤ b then 1 else 0) := by
  unfold f_X11_within
  by_cases c : x < a
  · rw [if_pos c, if_neg (fun q => Int32.not_lt.mpr q.1 c)]
  · rw [if_neg c]
    by_cases d : b < x
    · rw [if_pos d, if_neg (fun q => Int32.not_lt.mpr q.2 d)]
    · rw [if_neg d, if_pos ⟨Int32.not_lt.mp c, Int32.not_lt.mp d⟩]
theorem nI_asI {x : Int32} (h : 0 ≤ x.toInt) : x = nI x.toInt.toNat := by
  apply Int32.toInt_inj.mp
  have := x.toInt_lt
  rw [nI_toInt (by omega)]
  omega
theorem isb_lock (h : JX z σ Z B U ω n nt μX A) (m : JM z Y μM A) (x : Int32) :
    (∃ b, b < n ∧ x = nI b ∧ f_X10_isBoat σ μX z x = some 1 ∧ f_X11_isBoat σ μM (z + 27) x = some 1) ∨ (f_X10_isBoat σ μX z x = some 0 ∧ f_X11_isBoat σ μM (z + 27) x = some 0 ∧ ∀ b, b < n → x ≠ nI b) := by
  have S := h.sh
  have hU := S.sx
  have n7 := S.n7
  have z0 : (0 : Int32).toInt = 0 := by decide
  have hn1 : (nI n - 1).toInt = (n : Int) - 1 := by
    rw [Int32.toInt_sub, nI_toInt (by omega), show (1 : Int32).toInt = 1 from by decide, Int.bmod_eq_of_le (by omega) (by omega)]
  have hX : f_X10_isBoat σ μX z x = if x < 0 then some 0 else if nI n ≤ x then some 0 else some 1 := by
    unfold f_X10_isBoat
    simp only [i_0 hU, Option.bind_some, h.xn]
  have hM : f_X11_isBoat σ μM (z + 27) x = some (if 0 ≤ x ∧ x ≤ nI n - 1 then 1 else 0) := by
    unfold f_X11_isBoat
    simp only [i_27 hU, Option.bind_some, jm_0_0 m, h.nn, m_within]
    by_cases c : 0 ≤ x ∧ x ≤ nI n - 1
    · rw [if_pos c]; rfl
    · rw [if_neg c]; rfl
  rw [hX, hM]
  by_cases c : 0 ≤ x.toInt ∧ x.toInt < n
  · refine Or.inl ⟨x.toInt.toNat, by omega, nI_asI c.1, ?_, ?_⟩
    · rw [if_neg (by rw [Int32.lt_iff_toInt_lt, z0]; omega), if_neg (by rw [Int32.le_iff_toInt_le, nI_toInt (by omega)]; omega)]
    · rw [if_pos ⟨by rw [Int32.le_iff_toInt_le, z0]; omega, by rw [Int32.le_iff_toInt_le, hn1]; omega⟩]
  · refine Or.inr ⟨?_, ?_, ?_⟩
    · by_cases d : x < 0
      · rw [if_pos d]
      · rw [if_neg d]
        rw [Int32.lt_iff_toInt_lt, z0] at d
        rw [if_pos (by rw [Int32.le_iff_toInt_le, nI_toInt (by omega)]; omega)]
    · rw [if_neg]
      rintro ⟨d1, d2⟩
      rw [Int32.le_iff_toInt_le, z0] at d1
      rw [Int32.le_iff_toInt_le, hn1] at d2
      omega
    · intro b hb e
      rw [e, nI_toInt (by omega)] at c
      omega
theorem x_on (h : JX z σ Z B U ω n nt μX A) (hb : b < n) : f_X10_isOnTheLake σ μX z (nI b) = some (if A 6 b = 0 then 1 else 0) := by
  have S := h.sh
  unfold f_X10_isOnTheLake
  simp only [r_0_0 S.sx, Option.bind_some, S.oq hb, S.b0 hb, S.ban hb (show 4 < 6 by decide), (h.nw b hb).2.2.2.2.1]
  by_cases c : A 6 b = 0
  · rw [if_pos c, if_pos c]
  · rw [if_neg c, if_neg c]
theorem pass_loop : ∀ k i came f g A μX μM, i + k = n → k < f → k < g → JX z σ Z B U ω n nt μX A → JM z Y μM A → LK z σ Z Y B U ω n nt (f_X10_pass_b26 f σ μX z came (nI i)) (f_X11_passes_b20 g σ μM (z + 27) came (nI i)) := by
  intro k
  induction k with
  | zero =>
    intro i came f g A μX μM hi hf hg h m
    obtain ⟨f, rfl⟩ : ∃ f', f = f' + 1 := ⟨f - 1, by omega⟩
    obtain ⟨g, rfl⟩ : ∃ g', g = g' + 1 := ⟨g - 1, by omega⟩
    have hU := h.sh.sx
    have e : i = n := by omega
    subst e
    have hX : f_X10_pass_b26 (f + 1) σ μX z came (nI i) = some (came, μX) := by
      show (oI σ μX 10 z 1).bind _ = _
      rw [i_0 hU, Option.bind_some, h.xn, if_pos (Int32.le_refl _)]
    have hM : f_X11_passes_b20 (g + 1) σ μM (z + 27) came (nI i) = some (came, μM) := by
      show (oI σ μM 11 (z + 27) 0).bind _ = _
      rw [i_27 hU, Option.bind_some, jm_0_0 m, h.nn, if_pos (Int32.le_refl _)]
    rw [hX, hM]
    exact (LA.mk h m came).k
  | succ k ih =>
    intro i came f g A μX μM hi hf hg h m
    obtain ⟨f, rfl⟩ : ∃ f', f = f' + 1 := ⟨f - 1, by omega⟩
    obtain ⟨g, rfl⟩ : ∃ g', g = g' + 1 := ⟨g - 1, by omega⟩
    have S := h.sh
    have hU := S.sx
    have n7 := S.n7
    have hin : i < n := by omega
    have nl : ¬ nI n ≤ nI i := nI_ge hin (by omega)
    have w := h.nw i hin
    have hX : f_X10_pass_b26 (f + 1) σ μX z came (nI i) = if A 6 i = 1 then (if A 0 10 < A 7 i then f_X10_pass_b26 f σ μX z came (nI (i + 1)) else (f_X10_comeIn σ μX z (nI i) (A 7 i)).bind fun μ16 => f_X10_pass_b26 f σ μ16 z (came + 1) (nI (i + 1))) else f_X10_pass_b26 f σ μX z came (nI (i + 1)) := by
      show (oI σ μX 10 z 1).bind _ = _
      simp only [i_0 hU, Option.bind_some, h.xn, if_neg nl, r_0_0 hU, S.oq hin, S.b0 hin, S.ban hin (show 4 < 6 by decide), S.ban hin (show 5 < 6 by decide), r_0_2 hU, an_2 hU (show 9 < 12 by decide), w.2.2.2.2.1, w.2.2.2.2.2, h.lk.2.2.2.2.2.1, nI_1, c_0 hU]
    have hM : f_X11_passes_b20 (g + 1) σ μM (z + 27) came (nI i) = if A 6 i = 1 then (if A 7 i ≤ A 0 10 then (f_X11_comesIn σ μM (z + 27) (nI i) (A 7 i)).bind fun μ16 => f_X11_passes_b20 g σ μ16 (z + 27) (came + 1) (nI (i + 1)) else f_X11_passes_b20 g σ μM (z + 27) came (nI (i + 1))) else f_X11_passes_b20 g σ μM (z + 27) came (nI (i + 1)) := by
      show (oI σ μM 11 (z + 27) 0).bind _ = _
      simp only [i_27 hU, Option.bind_some, jm_0_0 m, h.nn, if_neg nl, r_27_6 hU, a_33 hU (show i < 7 by omega), jm_6 m, r_27_7 hU, a_34 hU (show i < 7 by omega), jm_7 m, jm_0_10 m, nI_1, c_27 hU]
    rw [hX, hM]
    by_cases c : A 6 i = 1
    · rw [if_pos c, if_pos c]
      by_cases d : A 7 i ≤ A 0 10
      · obtain ⟨u, v, A', a1, a2, a3, a4, -⟩ := in_lock h m hin (mi := A 7 i) ((h.rn i hin).2.2.2.2.2 (by rw [c]; decide))
        rw [if_neg (Int32.not_lt.mpr d), if_pos d, a1, a2, Option.bind_some, Option.bind_some]
        exact ih (i + 1) (came + 1) f g A' u v (by omega) (by omega) (by omega) a3 a4
      · rw [if_pos (Int32.not_le.mp d), if_neg d]
        exact ih (i + 1) came f g A μX μM (by omega) (by omega) (by omega) h m
    · rw [if_neg c, if_neg c]
      exact ih (i + 1) came f g A μX μM (by omega) (by omega) (by omega) h m
theorem min_rg {a x : Int32} (ha : rg a 9999) (hx : rg x 100000) : rg (jmin 9999 (a + x)) 9999 := by
  obtain ⟨k, hk, rfl⟩ := ha
  obtain ⟨j, hj, rfl⟩ := hx
  rw [nI_add]
  unfold jmin
  by_cases c : nI (k + j) < 9999
  · rw [if_pos c]
    rw [show (9999 : Int32) = nI 9999 from rfl, Int32.lt_iff_toInt_lt, nI_toInt (by omega), nI_toInt (by omega)] at c
    exact ⟨k + j, by omega, rfl⟩
  · rw [if_neg c]
    exact ⟨9999, by omega, rfl⟩
theorem pass_lock (h : JX z σ Z B U ω n nt μX A) (m : JM z Y μM A) {x : Int32} (hx : rg x 100000) : LK z σ Z Y B U ω n nt (f_X10_pass σ μX z x) (f_X11_passes σ μM (z + 27) x) := by
  have hU := h.sh.sx
  have n7 := h.sh.n7
  have hX : f_X10_pass σ μX z x = f_X10_pass_b26 fu σ (th_w μX (z + 2) 9 (jmin 9999 (A 0 10 + x))) z 0 (nI 0) := by
    unfold f_X10_pass
    rw [r_0_2 hU, Option.bind_some, Option.bind_some, an_2 hU (by decide), Option.bind_some, h.lk.2.2.2.2.2.1, sn_2 hU (by decide), Option.bind_some]
    exact congrArg (f_X10_pass_b26 fu σ _ z 0) (show (0 : Int32) = nI 0 from rfl)
  have hM : f_X11_passes σ μM (z + 27) x = f_X11_passes_b20 fu σ (th_w μM (z + 27) 10 (jmin 9999 (A 0 10 + x))) (z + 27) 0 (nI 0) := by
    unfold f_X11_passes
    rw [i_27 hU, Option.bind_some, p_27 hU, Option.bind_some, jm_0_10 m]
    exact congrArg (f_X11_passes_b20 fu σ _ (z + 27) 0) (show (0 : Int32) = nI 0 from rfl)
  rw [hX, hM]
  obtain ⟨l0, l1, l2, l3, l4, l5, l6, l7⟩ := h.rl
  refine pass_loop n 0 0 fu fu (th_w A 0 10 (jmin 9999 (A 0 10 + x))) _ _ (by omega) (by unfold fu; omega) (by unfold fu; omega) (h.wlake (by omega) ?_ ?_) (m.w (p := 0) (by decide))
  · simp only [th_w_at]
    simp [l0, l1, l3, l4, l5, l6, l7, min_rg l2 hx]
  · simp only [th_w_at]
    simpa using h.ru
theorem time_lock (h : JX z σ Z B U ω n nt μX A) (m : JM z Y μM A) (x : Int32) : LK z σ Z Y B U ω n nt (f_X10_time σ μX z x) (f_X11_time σ μM (z + 27) x) := by
  have hU := h.sh.sx
  unfold f_X10_time f_X11_time
  rw [m_within, Option.bind_some, c_0 hU, c_27 hU]
  by_cases c : 0 ≤ x ∧ x ≤ 240
  · rw [if_pos c, if_neg (Int32.not_lt.mpr c.1), if_pos c.2, if_neg (by decide)]
    have hx : rg x 100000 := by
      have c1 := c.1
      have c2 := c.2
      rw [Int32.le_iff_toInt_le, show (0 : Int32).toInt = 0 from by decide] at c1
      rw [Int32.le_iff_toInt_le, show (240 : Int32).toInt = 240 from by decide] at c2
      exact rg_of c1 (by omega) (by decide)
    obtain ⟨A', v, u, w, a1, a2, a3, a4⟩ := pass_lock h m hx
    rw [a1, a2, b2s, b2s]
    exact (LA.mk a3 a4 v).k
  · rw [if_neg c, if_pos rfl]
    by_cases d : x < 0
    · rw [if_pos d]; exact (LA.mk h m _).k
    · rw [if_neg d, if_neg (fun q => c ⟨Int32.not_lt.mp d, q⟩)]; exact (LA.mk h m _).k
end O1
