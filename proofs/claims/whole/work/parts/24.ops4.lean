section O4
variable {z : Nat} {σ : th_S} {Z Y : th_M} {B U ω : Nat → Nat} {n nt b t : Nat} {μ μ' μX μM A A' A2 : th_M}
theorem where_loop (hb : b < n) {y : Nat} (hy : y < 6) : ∀ k i bits f g μX μM, i + k = 8 → k < f → k < g → JX z σ Z B U ω n nt μX A → JM z Y μM A → LA z σ Z Y B U ω n nt A (f_X10_where_b26 f σ μX z (nI b) (nI y) bits (nI i)) (f_X11_where_b25 g σ μM (z + 27) (nI b) (nI y) bits (nI i)) := by
  intro k
  induction k with
  | zero =>
    intro i bits f g μX μM hi hf hg h m
    obtain ⟨f, rfl⟩ : ∃ f', f = f' + 1 := ⟨f - 1, by omega⟩
    obtain ⟨g, rfl⟩ : ∃ g', g = g' + 1 := ⟨g - 1, by omega⟩
    have e : i = 8 := by omega
    subst e
    exact LA.mk h m bits
  | succ k ih =>
    intro i bits f g μX μM hi hf hg h m
    obtain ⟨f, rfl⟩ : ∃ f', f = f' + 1 := ⟨f - 1, by omega⟩
    obtain ⟨g, rfl⟩ : ∃ g', g = g' + 1 := ⟨g - 1, by omega⟩
    have S := h.sh
    have hU := S.sx
    have l := h.lk
    have nl : ¬ (8 : Int32) ≤ nI i := nI_ge (b := 8) (by omega) (by decide)
    have ec : (8 * nI y) + nI i = nI (8 * y + i) := by rw [show (8 : Int32) = nI 8 from rfl, nI_mul, nI_add]
    have hX : f_X10_where_b26 (f + 1) σ μX z (nI b) (nI y) bits (nI i) = b2 (f_X10_wouldCome σ μX z (nI b) (nI (8 * y + i)) (A 0 10) (A 0 9)) fun v5 μ6 => if v5 = 0 then f_X10_where_b26 f σ μ6 z (nI b) (nI y) bits (nI (i + 1)) else f_X10_where_b26 f σ μ6 z (nI b) (nI y) (bits ||| jshl 1 (nI i)) (nI (i + 1)) := by
      show (if (8 : Int32) ≤ nI i then _ else _) = _
      simp only [if_neg nl, r_0_2 hU, Option.bind_some, an_2 hU (show 9 < 12 by decide), an_2 hU (show 5 < 12 by decide), l.2.2.2.2.2.1, l.2.1, c_0 hU, nI_1, ec]
    have hM : f_X11_where_b25 (g + 1) σ μM (z + 27) (nI b) (nI y) bits (nI i) = b2 (f_X11_would σ μM (z + 27) (nI b) (nI (8 * y + i)) (A 0 10)) fun v5 μ6 => if v5 = 0 then f_X11_where_b25 g σ μ6 (z + 27) (nI b) (nI y) bits (nI (i + 1)) else f_X11_where_b25 g σ μ6 (z + 27) (nI b) (nI y) (bits ||| jshl 1 (nI i)) (nI (i + 1)) := by
      show (if (8 : Int32) ≤ nI i then _ else _) = _
      simp only [if_neg nl, i_27 hU, Option.bind_some, jm_0_10 m, c_27 hU, nI_1, ec]
    obtain ⟨v, u, w, a1, a2, a3, a4, a5⟩ := would_lock h (AG.refl A) m hb (cell := nI (8 * y + i)) (mi := A 0 10) ⟨8 * y + i, by omega, rfl⟩ h.rl.2.1
    rw [hX, hM, a1, a2, b2s, b2s]
    rcases a3 with e | e
    · rw [if_pos e, if_pos e]
      exact ih (i + 1) _ f g u w (by omega) (by omega) (by omega) a4 a5
    · rw [if_neg (by rw [e]; exact n10), if_neg (by rw [e]; exact n10)]
      exact ih (i + 1) _ f g u w (by omega) (by omega) (by omega) a4 a5
theorem where_lock (h : JX z σ Z B U ω n nt μX A) (m : JM z Y μM A) (x y : Int32) : LA z σ Z Y B U ω n nt A (f_X10_where σ μX z x y) (f_X11_where σ μM (z + 27) x y) := by
  have S := h.sh
  have hU := S.sx
  unfold f_X10_where f_X11_where
  rw [c_0 hU, c_27 hU]
  rcases isb_lock h m x with ⟨b, hb, rfl, e1, e2⟩ | ⟨e1, e2, -⟩
  · rw [e1, e2, Option.bind_some, Option.bind_some, if_neg n10, if_neg n10, m_within, Option.bind_some]
    by_cases c : 0 ≤ y ∧ y ≤ 5
    · obtain ⟨c1, c2⟩ := c
      rw [if_pos (show 0 ≤ y ∧ y ≤ 5 from ⟨c1, c2⟩), if_neg n10, if_neg (Int32.not_lt.mpr c1), if_pos (Int32.lt_of_le_of_lt c2 (by decide))]
      rw [Int32.le_iff_toInt_le, show (0 : Int32).toInt = 0 from by decide] at c1
      rw [Int32.le_iff_toInt_le, show (5 : Int32).toInt = 5 from by decide] at c2
      rw [nI_asI c1]
      exact where_loop hb (by omega) 8 0 0 fu fu μX μM (by omega) (by unfold fu; omega) (by unfold fu; omega) h m
    · rw [if_neg c, if_pos (show (0 : Int32) = 0 from rfl)]
      by_cases d : y < 0
      · rw [if_pos d]; exact LA.mk h m _
      · rw [if_neg d, if_neg (fun q => c ⟨Int32.not_lt.mp d, by
          rw [Int32.lt_iff_toInt_lt, show (6 : Int32).toInt = 6 from by decide] at q
          rw [Int32.le_iff_toInt_le, show (5 : Int32).toInt = 5 from by decide]
          omega⟩)]
        exact LA.mk h m _
  · rw [e1, e2, Option.bind_some, Option.bind_some, if_pos rfl, if_pos rfl]
    exact LA.mk h m _
/-- the drawn wind -/
theorem dw_rg (x : Int32) : rg (jrem ((((x * 1103515245) + 12345).toUInt32 >>> ((10 : Int32).toUInt32 &&& Int32.toUInt32 31)).toInt32) 10) 9 := by
  generalize hy : (((x * 1103515245) + 12345).toUInt32 >>> ((10 : Int32).toUInt32 &&& Int32.toUInt32 31)) = q
  have h1 : q.toNat < 2 ^ 22 := by
    rw [← hy, UInt32.toNat_shiftRight, show ((10 : Int32).toUInt32 &&& Int32.toUInt32 31).toNat % 32 = 10 from by decide, Nat.shiftRight_eq_div_pow]
    have := ((x * 1103515245) + 12345).toUInt32.toNat_lt
    omega
  have h2 : q.toInt32 = nI q.toNat := by
    apply Int32.toBitVec_inj.mp
    show q.toBitVec = BitVec.ofNat 32 q.toNat
    exact (BitVec.ofNat_toNat 32 q.toBitVec).symm ▸ by simp
  rw [h2]
  unfold jrem
  rw [show (10 : Int32) = nI 10 from rfl, nI_div (by omega) (by omega), nI_mul]
  refine ⟨q.toNat % 10, by omega, ?_⟩
  have e : nI q.toNat = nI (q.toNat % 10) + nI (q.toNat / 10 * 10) := by
    rw [nI_add]
    congr 1
    omega
  rw [e, Int32.add_sub_cancel]
theorem drawn_loop {w : Int32} (hw : rg w 9) {was : Int32} (hA : A 0 9 = was) : ∀ k i s f g μX μM, i + k = n → k < f → k < g → JX z σ Z B U ω n nt μX A → JM z Y μM (th_w A 0 9 w) → LA z σ Z Y B U ω n nt A (f_X10_drawn_b10 f σ μX z w s (nI i)) (f_X11_drawn_b29 g σ μM (z + 27) was s (nI i)) := by
  intro k
  induction k with
  | zero =>
    intro i s f g μX μM hi hf hg h m
    obtain ⟨f, rfl⟩ : ∃ f', f = f' + 1 := ⟨f - 1, by omega⟩
    obtain ⟨g, rfl⟩ : ∃ g', g = g' + 1 := ⟨g - 1, by omega⟩
    have hU := h.sh.sx
    have e : i = n := by omega
    subst e
    have hX : f_X10_drawn_b10 (f + 1) σ μX z w s (nI i) = some (s, μX) := by
      show (oI σ μX 10 z 1).bind _ = _
      rw [i_0 hU, Option.bind_some, h.xn, if_pos (Int32.le_refl _)]
    have hM : f_X11_drawn_b29 (g + 1) σ μM (z + 27) was s (nI i) = some (s, th_w μM (z + 27) 9 was) := by
      show (oI σ μM 11 (z + 27) 0).bind _ = _
      have e0 : μM (z + 27) 0 = nI i := by rw [jm_0_0 m, th_w_hit, if_neg (by decide), h.nn]
      rw [i_27 hU, Option.bind_some, e0, if_pos (Int32.le_refl _), p_27 hU, Option.bind_some]
    rw [hX, hM]
    have mm : JM z Y (th_w μM (z + 27) 9 was) (th_w (th_w A 0 9 w) 0 9 was) := m.w (p := 0) (by decide)
    have ee : th_w (th_w A 0 9 w) 0 9 was = A := by
      funext p k
      rw [th_w_at, th_w_at]
      by_cases c : p = 0 ∧ k = 9
      · rw [if_pos c, c.1, c.2, hA]
      · rw [if_neg c, if_neg c]
    rw [ee] at mm
    exact LA.mk h mm s
  | succ k ih =>
    intro i s f g μX μM hi hf hg h m
    obtain ⟨f, rfl⟩ : ∃ f', f = f' + 1 := ⟨f - 1, by omega⟩
    obtain ⟨g, rfl⟩ : ∃ g', g = g' + 1 := ⟨g - 1, by omega⟩
    have S := h.sh
    have hU := S.sx
    have n7 := S.n7
    have hin : i < n := by omega
    have i7 : i < 7 := by omega
    have nl : ¬ nI n ≤ nI i := nI_ge hin (by omega)
    have l := h.lk
    have hX : f_X10_drawn_b10 (f + 1) σ μX z w s (nI i) = if A 6 i = 0 then b2 (f_X10_wouldCome σ μX z (nI i) (A 3 i) (A 0 10) w) fun v3 μ4 => (if v3 = 0 then f_X10_drawn_b10 f σ μ4 z w s (nI (i + 1)) else f_X10_drawn_b10 f σ μ4 z w (s + 1) (nI (i + 1))) else f_X10_drawn_b10 f σ μX z w s (nI (i + 1)) := by
      show (oI σ μX 10 z 1).bind _ = _
      simp only [i_0 hU, Option.bind_some, h.xn, if_neg nl, c_0 hU, x_on h hin, nI_1, r_0_0 hU, S.oq hin, S.b0 hin, S.ban hin (show 0 < 6 by decide), (h.nw i hin).1, r_0_2 hU, an_2 hU (show 9 < 12 by decide), l.2.2.2.2.2.1]
      by_cases c : A 6 i = 0
      · rw [if_pos c, if_pos c, if_neg n10]
      · rw [if_neg c, if_neg c, if_pos (show (0 : Int32) = 0 from rfl)]
    have hM : f_X11_drawn_b29 (g + 1) σ μM (z + 27) was s (nI i) = if A 6 i = 0 then b2 (f_X11_would_ σ μM (z + 27) (nI i)) fun v3 μ4 => (if v3 = 0 then f_X11_drawn_b29 g σ μ4 (z + 27) was s (nI (i + 1)) else f_X11_drawn_b29 g σ μ4 (z + 27) was (s + 1) (nI (i + 1))) else f_X11_drawn_b29 g σ μM (z + 27) was s (nI (i + 1)) := by
      show (oI σ μM 11 (z + 27) 0).bind _ = _
      have e6 : μM (z + 33) i = A 6 i := by rw [jm_6 m, th_w_ne _ _ (by decide)]
      have e0 : μM (z + 27) 0 = nI n := by rw [jm_0_0 m, th_w_hit, if_neg (by decide), h.nn]
      simp only [i_27 hU, Option.bind_some, e0, if_neg nl, r_27_6 hU, a_33 hU i7, e6, nI_1, c_27 hU]
    rw [hX, hM]
    by_cases c : A 6 i = 0
    · rw [if_pos c, if_pos c]
      obtain ⟨v, u, w2, a1, a2, a3, a4, a5⟩ := would_lock h (AG.wind A w) m hin (mi := A 0 10) (h.rn i hin).1 hw
      have hM2 : f_X11_would_ σ μM (z + 27) (nI i) = some (v, w2) := by
        have gg : v &&& 1 = v := by rcases a3 with e | e <;> rw [e] <;> decide
        have e3 : μM (z + 30) i = A 3 i := by rw [jm_3 m, th_w_ne _ _ (by decide)]
        have e10 : μM (z + 27) 10 = A 0 10 := by rw [jm_0_10 m, th_w_hit, if_neg (by decide)]
        unfold f_X11_would_
        rw [r_27_3 hU, Option.bind_some, a_30 hU i7, Option.bind_some, i_27 hU, Option.bind_some, c_27 hU, e3, e10, a2, b2s]
        unfold oG
        rw [if_pos gg]
      rw [a1, hM2, b2s, b2s]
      rcases a3 with e | e
      · rw [if_pos e, if_pos e]
        exact ih (i + 1) _ f g u w2 (by omega) (by omega) (by omega) a4 a5
      · rw [if_neg (by rw [e]; exact n10), if_neg (by rw [e]; exact n10)]
        exact ih (i + 1) _ f g u w2 (by omega) (by omega) (by omega) a4 a5
    · rw [if_neg c, if_neg c]
      exact ih (i + 1) _ f g μX μM (by omega) (by omega) (by omega) h m
theorem drawn_lock (h : JX z σ Z B U ω n nt μX A) (m : JM z Y μM A) (x : Int32) : LA z σ Z Y B U ω n nt A (f_X10_drawn σ μX z x) (f_X11_drawn σ μM (z + 27) x) := by
  have n7 := h.sh.n7
  have hU := h.sh.sx
  unfold f_X10_drawn f_X11_drawn f_X10_drawnWind
  rw [Option.bind_some, i_27 hU, Option.bind_some, p_27 hU, Option.bind_some, jm_0_9 m]
  exact drawn_loop (dw_rg x) rfl n 0 0 fu fu μX _ (by omega) (by unfold fu; omega) (by unfold fu; omega) h (m.w (p := 0) (by decide))
end O4
