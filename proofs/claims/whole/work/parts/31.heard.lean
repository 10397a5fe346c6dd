section SI
variable {z : Nat} {σ : th_S} {Z Y : th_M} {B U ω : Nat → Nat} {n nt b t : Nat} {μ μ' μX μM A A' A2 : th_M}
theorem x_at (h : JX z σ Z B U ω n nt μX A) {i l j : Nat} (hi : i < 4) (hl : l ≤ 40) (e2 : μX (z + (15 + 2 * i)) 2 = nI l) (hj : j < l) : f_X6_at σ μX (z + (15 + 2 * i)) (nI j) = some (μX (z + (16 + 2 * i)) j) := by
  have hU := h.sh.sx
  unfold f_X6_at
  rw [sh_c hU hi, x_has hU hi, Option.bind_some, e2, if_pos ((in_row hl).mpr ⟨j, hj, rfl⟩), if_neg n10, sh_r hU hi, Option.bind_some, oA_nI (sh_w hU hi).1 (sh_w hU hi).2 (by decide) (by omega), Option.bind_some]
/-- a row told of HEARD: both go on, or both stop -/
theorem true_lock (h : JX z σ Z B U ω n nt μX A) (m : JM z Y μM A) (x c : Int32) {f : th_M → Option (Int32 × th_M)} {r : Int32} :
    ∃ v u w, f_X10_isTrue σ μX z x c = some (v, u) ∧ (v = 0 ∨ v = 1) ∧ JX z σ Z B U ω n nt u A ∧ JM z Y w A ∧
      (oC σ 11 (z + 27) <|
      (f_X11_isBoat σ μM (z + 27) x).bind fun v5 =>
      if v5 = 0 then some (r, μM) else
        (f_X11_within c 0 1).bind fun v6 =>
        if v6 = 0 then some (r, μM) else
          (oR σ 11 (z + 27) 6).bind fun a7 =>
          (oA σ μM a7 x).bind fun v8 =>
          if v8 = 0 then
            b2 (f_X11_would_ σ μM (z + 27) x) fun v9 μ10 =>
            if c = 1 then (if v9 = 1 then f μ10 else some (r, μ10)) else (if v9 = 0 then f μ10 else some (r, μ10))
          else some (r, μM)) = if v = 0 then some (r, w) else f w := by
  have S := h.sh
  have hU := S.sx
  have n7 := S.n7
  unfold f_X10_isTrue
  rw [c_0 hU, c_27 hU]
  rcases isb_lock h m x with ⟨b, hb, rfl, e1, e2⟩ | ⟨e1, e2, -⟩
  · have b7 : b < 7 := by omega
    rw [e1, e2, Option.bind_some, Option.bind_some, if_neg n10, if_neg n10, m_within, Option.bind_some]
    by_cases d : 0 ≤ c ∧ c ≤ 1
    · rw [if_neg (Int32.not_lt.mpr d.1), if_neg (Int32.not_lt.mpr d.2), if_pos d, if_neg n10, x_on h hb, Option.bind_some, r_27_6 hU, Option.bind_some, a_33 hU b7, Option.bind_some, jm_6 m]
      by_cases e : A 6 b = 0
      · rw [if_pos e, if_neg n10, if_pos e]
        obtain ⟨v, u, w, a1, a2, a3, a4, a5⟩ := now_lock h m hb
        rw [a1, a2, b2s, b2s]
        by_cases k : c = 1
        · rw [if_pos k, if_pos k]
          rcases a3 with q | q
          · rw [if_neg (by rw [q]; decide), if_neg (by rw [q]; decide)]
            exact ⟨0, u, w, rfl, Or.inl rfl, a4, a5, by rw [if_pos rfl]⟩
          · rw [if_pos q, if_pos q]
            exact ⟨1, u, w, rfl, Or.inr rfl, a4, a5, by rw [if_neg n10]⟩
        · rw [if_neg k, if_neg k]
          rcases a3 with q | q
          · rw [if_pos q, if_pos q]
            exact ⟨1, u, w, rfl, Or.inr rfl, a4, a5, by rw [if_neg n10]⟩
          · rw [if_neg (by rw [q]; decide), if_neg (by rw [q]; decide)]
            exact ⟨0, u, w, rfl, Or.inl rfl, a4, a5, by rw [if_pos rfl]⟩
      · rw [if_neg e, if_pos (show (0 : Int32) = 0 from rfl), if_neg e]
        exact ⟨0, μX, μM, rfl, Or.inl rfl, h, m, by rw [if_pos rfl]⟩
    · rw [if_neg d, if_pos (show (0 : Int32) = 0 from rfl)]
      refine ⟨0, μX, μM, ?_, Or.inl rfl, h, m, by rw [if_pos rfl]⟩
      by_cases q : c < 0
      · rw [if_pos q]
      · rw [if_neg q, if_pos (Int32.not_le.mp (fun w => d ⟨Int32.not_lt.mp q, w⟩))]
  · rw [e1, e2, Option.bind_some, Option.bind_some, if_pos (show (0 : Int32) = 0 from rfl), if_pos (show (0 : Int32) = 0 from rfl)]
    exact ⟨0, μX, μM, rfl, Or.inl rfl, h, m, by rw [if_pos rfl]⟩
theorem heard_loop {i l : Nat} (hi : i < 4) (hl : l ≤ 40) (hc : ¬ A 17 i = -1) (hA : A 18 i = nI l) : ∀ k j f g μX μM, j + k = l / 2 → k < f → k < g → JX z σ Z B U ω n nt μX A → JM z Y μM A → LA z σ Z Y B U ω n nt A (f_X10_heard_b41 f σ μX z (z + (15 + 2 * i)) (nI j)) (f_X11_heard_b44 g σ μM (z + 27) (nI i) (nI l) (nI j)) := by
  intro k
  have hd : nI l / 2 = nI (l / 2) := nI_div (b := 2) (by omega) (by decide)
  induction k with
  | zero =>
    intro j f g μX μM hj hf hg h m
    obtain ⟨f, rfl⟩ : ∃ f', f = f' + 1 := ⟨f - 1, by omega⟩
    obtain ⟨g, rfl⟩ : ∃ g', g = g' + 1 := ⟨g - 1, by omega⟩
    have hU := h.sh.sx
    obtain ⟨g1, l', hl', g2, g3, g4⟩ := (h.st i hi).2.resolve_left hc
    have el : nI l' = nI l := by rw [← g2, hA]
    have hX : f_X10_heard_b41 (f + 1) σ μX z (z + (15 + 2 * i)) (nI j) = some (-1, μX) := by
      show (oI σ μX 6 (z + (15 + 2 * i)) 2).bind _ = _
      rw [sh_i hU hi, Option.bind_some, g3, el, hd, if_pos (nI_le (by omega) (by omega))]
    have hM : f_X11_heard_b44 (g + 1) σ μM (z + 27) (nI i) (nI l) (nI j) = some (-1, μM) := by
      show (if nI l / 2 ≤ nI j then _ else _) = _
      rw [hd, if_pos (nI_le (by omega) (by omega))]
    rw [hX, hM]
    exact LA.mk h m _
  | succ k ih =>
    intro j f g μX μM hj hf hg h m
    obtain ⟨f, rfl⟩ : ∃ f', f = f' + 1 := ⟨f - 1, by omega⟩
    obtain ⟨g, rfl⟩ : ∃ g', g = g' + 1 := ⟨g - 1, by omega⟩
    have hU := h.sh.sx
    obtain ⟨g1, l', hl', g2, g3, g4⟩ := (h.st i hi).2.resolve_left hc
    have el : nI l' = nI l := by rw [← g2, hA]
    have el' : l' = l := (nI_eq (by omega) (by omega)).mp el
    subst el'
    have nl : ¬ nI (l' / 2) ≤ nI j := nI_ge (by omega) (by omega)
    have e0 : (2 : Int32) * nI j = nI (2 * j) := nI_mul 2 j
    have a0 : f_X6_at σ μX (z + (15 + 2 * i)) (nI (2 * j)) = some (A 19 (40 * i + 2 * j)) := by rw [x_at h hi hl' g3 (by omega), g4 _ (by omega)]
    have a1 : f_X6_at σ μX (z + (15 + 2 * i)) (nI (2 * j + 1)) = some (A 19 (40 * i + 2 * j + 1)) := by rw [x_at h hi hl' g3 (by omega), g4 _ (by omega)]; rfl
    have i0 : (40 : Int32) * nI i + nI (2 * j) = nI (40 * i + 2 * j) := by rw [show (40 : Int32) = nI 40 from rfl, nI_mul, nI_add]
    obtain ⟨v, u, w, b1, b2', b3', b4, b5⟩ := true_lock h m (A 19 (40 * i + 2 * j)) (A 19 (40 * i + 2 * j + 1)) (f := fun μ10 => f_X11_heard_b44 g σ μ10 (z + 27) (nI i) (nI l') (nI (j + 1))) (r := nI j)
    have hX : f_X10_heard_b41 (f + 1) σ μX z (z + (15 + 2 * i)) (nI j) = if v = 0 then some (nI j, u) else f_X10_heard_b41 f σ u z (z + (15 + 2 * i)) (nI (j + 1)) := by
      show (oI σ μX 6 (z + (15 + 2 * i)) 2).bind _ = _
      rw [sh_i hU hi, Option.bind_some, g3, hd, if_neg nl, sh_c hU hi, e0, a0, Option.bind_some, nI_1, a1, Option.bind_some, c_0 hU, b1, b2s, nI_1]
    have hM : f_X11_heard_b44 (g + 1) σ μM (z + 27) (nI i) (nI l') (nI j) = if v = 0 then some (nI j, w) else f_X11_heard_b44 g σ w (z + 27) (nI i) (nI l') (nI (j + 1)) := by
      rw [← b5]
      show (if nI l' / 2 ≤ nI j then _ else _) = _
      rw [hd, if_neg nl, r_27_38 hU, Option.bind_some, e0, i0, a_46 hU (by omega), Option.bind_some, Option.bind_some, nI_1, a_46 hU (by omega), Option.bind_some, jm_19 m, jm_19 m, nI_1]
    rw [hX, hM]
    rcases b2' with q | q
    · rw [if_pos q, if_pos q]; exact LA.mk b3' b4 _
    · rw [if_neg (by rw [q]; exact n10), if_neg (by rw [q]; exact n10)]
      exact ih (j + 1) f g u w (by omega) (by omega) (by omega) b3' b4
theorem odd_eq : ∀ l, l < 41 → (jrem (nI l) 2 = 0 ↔ ¬ jrem (nI l) 2 = 1) := by decide +kernel
theorem heard_lock (h : JX z σ Z B U ω n nt μX A) (m : JM z Y μM A) (x : Int32) : LA z σ Z Y B U ω n nt A (f_X10_heard σ μX z x) (f_X11_heard σ μM (z + 27) x) := by
  have S := h.sh
  have hU := S.sx
  unfold f_X10_heard f_X11_heard
  rcases s_cases x with ⟨i, hi, rfl, e1, e2⟩ | ⟨e1, e2⟩
  · rw [e1, e2, Option.bind_some, Option.bind_some, if_neg n10, if_neg n10]
    simp only [r_0_11 hU, Option.bind_some, sh_q hU hi, sh_c hU hi, x_miss h hi, sh_i hU hi, r_27_36 hU, a_44 hU hi, r_27_37 hU, a_45 hU hi, jm_17 m, jm_18 m]
    by_cases c : A 17 i = -1
    · rw [if_pos c, if_neg n10, if_pos c]
      exact LA.mk h m _
    · rw [if_neg c, if_pos (show (0 : Int32) = 0 from rfl), if_neg c]
      obtain ⟨g1, l, hl, g2, g3, g4⟩ := (h.st i hi).2.resolve_left c
      rw [g3, g2]
      by_cases d : jrem (nI l) 2 = 0
      · rw [if_pos d, if_neg ((odd_eq l (by omega)).mp d)]
        exact heard_loop hi hl c g2 (l / 2) 0 fu fu μX μM (by omega) (by unfold fu; omega) (by unfold fu; omega) h m
      · have d1 : jrem (nI l) 2 = 1 := by
          by_cases q : jrem (nI l) 2 = 1
          · exact q
          · exact absurd ((odd_eq l (by omega)).mpr q) d
        rw [if_neg d, if_pos d1]
        exact LA.mk h m _
  · rw [e1, e2, Option.bind_some, Option.bind_some, if_pos (show (0 : Int32) = 0 from rfl), if_pos (show (0 : Int32) = 0 from rfl)]
    exact LA.mk h m _
end SI
