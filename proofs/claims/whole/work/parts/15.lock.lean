/-! one step, and all steps, of both -/
theorem th_w_hit (μ : th_M) (a k j : Nat) (v : Int32) : th_w μ a k v a j = if j = k then v else μ a j := by
  rw [th_w_at]
  by_cases e : j = k
  · rw [if_pos e, if_pos ⟨rfl, e⟩]
  · rw [if_neg e, if_neg (fun q => e q.2)]
theorem th_w_self (μ : th_M) (a k : Nat) (v : Int32) : th_w μ a k v a k = v := by rw [th_w_hit, if_pos rfl]
theorem b2s {α β γ : Type} (a : α) (b : β) (f : α → β → Option γ) : b2 (some (a, b)) f = f a b := rfl
theorem b3s {α β γ δ : Type} (a : α) (b : β) (c : γ) (f : α → β → γ → Option δ) : b3 (some (a, b, c)) f = f a b c := rfl
section RK
variable {z : Nat} {σ : th_S} {B U ω : Nat → Nat} {n nt t : Nat} {K : Nat → Int32}
theorem f_joined {m x y : Int32} (h : (-20 : Int32) < m ∧ m < -10) (h1 : m ≠ -13) (h2 : m ≠ -19) : f_X5_joined ((-1) - tk m) x y = some (jn m x y) := by
  rcases tk_cases h with q | q | q | q | q | q | q | q | q <;> subst q
  · show f_X5_joined 9 x y = some (if x = 0 then (if y = 0 then 0 else 1) else 1)
    by_cases a : x = 0 <;> by_cases b : y = 0 <;> simp [f_X5_joined, a, b]
  · show f_X5_joined 10 x y = some (if x = 0 then 0 else if y = 0 then 0 else 1)
    by_cases a : x = 0 <;> by_cases b : y = 0 <;> simp [f_X5_joined, a, b]
  · exact absurd rfl h1
  · show f_X5_joined 60 x y = some (if y ≤ x then 0 else 1)
    by_cases a : y ≤ x <;> simp [f_X5_joined, a]
  · show f_X5_joined 61 x y = some (if x = y then 1 else 0)
    by_cases a : x = y <;> simp [f_X5_joined, a]
  · show f_X5_joined 43 x y = some (x + y)
    simp [f_X5_joined]
  · show f_X5_joined 45 x y = some (x - y)
    simp [f_X5_joined]
  · show f_X5_joined 42 x y = some (x * y)
    simp [f_X5_joined]
  · exact absurd rfl h2
theorem m_join {m : Int32} (h : (-20 : Int32) < m ∧ m < -10) (h1 : m ≠ -13) (h2 : m ≠ -19) {G : Nat → th_S → th_M → Nat → Int32 → Int32 → Int32 → Option (Int32 × th_M)} {f : Nat} {σ : th_S} {μ : th_M} {a x5 x6 x7 : _} {x y : Int32} :
    (if m = (-17) then f_X11_rules_b429 (G f) σ μ a x5 x6 x7 (x - y) else
     if m = (-16) then f_X11_rules_b429 (G f) σ μ a x5 x6 x7 (x + y) else
     if m = (-15) then (if x = y then f_X11_rules_b429 (G f) σ μ a x5 x6 x7 1 else f_X11_rules_b429 (G f) σ μ a x5 x6 x7 0) else
     if m = (-14) then (if y ≤ x then f_X11_rules_b429 (G f) σ μ a x5 x6 x7 0 else f_X11_rules_b429 (G f) σ μ a x5 x6 x7 1) else
     if m = (-13) then f_X11_rules_b429 (G f) σ μ a x5 x6 x7 (x * y) else
     if m = (-12) then (if x = 0 then f_X11_rules_b429 (G f) σ μ a x5 x6 x7 0 else if y = 0 then f_X11_rules_b429 (G f) σ μ a x5 x6 x7 0 else f_X11_rules_b429 (G f) σ μ a x5 x6 x7 1) else
     if m = (-11) then (if x = 0 then (if y = 0 then f_X11_rules_b429 (G f) σ μ a x5 x6 x7 0 else f_X11_rules_b429 (G f) σ μ a x5 x6 x7 1) else f_X11_rules_b429 (G f) σ μ a x5 x6 x7 1) else
     f_X11_rules_b429 (G f) σ μ a x5 x6 x7 (x * y)) = f_X11_rules_b429 (G f) σ μ a x5 x6 x7 (jn m x y) := by
  rcases tk_cases h with q | q | q | q | q | q | q | q | q <;> subst q
  · show _ = f_X11_rules_b429 (G f) σ μ a x5 x6 x7 (if x = 0 then (if y = 0 then 0 else 1) else 1)
    by_cases a : x = 0 <;> by_cases b : y = 0 <;> simp [a, b]
  · show _ = f_X11_rules_b429 (G f) σ μ a x5 x6 x7 (if x = 0 then 0 else if y = 0 then 0 else 1)
    by_cases a : x = 0 <;> by_cases b : y = 0 <;> simp [a, b]
  · exact absurd rfl h1
  · show _ = f_X11_rules_b429 (G f) σ μ a x5 x6 x7 (if y ≤ x then 0 else 1)
    by_cases a : y ≤ x <;> simp [a]
  · show _ = f_X11_rules_b429 (G f) σ μ a x5 x6 x7 (if x = y then 1 else 0)
    by_cases a : x = y <;> simp [a]
  · show _ = f_X11_rules_b429 (G f) σ μ a x5 x6 x7 (x + y)
    simp
  · show _ = f_X11_rules_b429 (G f) σ μ a x5 x6 x7 (x - y)
    simp
  · show _ = f_X11_rules_b429 (G f) σ μ a x5 x6 x7 (x * y)
    simp
  · exact absurd rfl h2
theorem ev_lock (S : SH z σ B U ω n nt K) (ht : t < nt) {c : Nat → Int32} {r cl e : Nat} (hr : r < 6) (hcl : cl < 3) (he : e ≤ σ.2.1 (U t + 1)) (w1 : z + 9 ≠ U t) (w2 : z + 9 ≠ U t + 3) :
    ∀ k i h f g μX μM, h ≤ 31 → k < f → k < g → i + k = e → hg c k i h →
      (∀ j, j < e → μX (U t + 1) j = tk (c j)) → (∀ j, j < e → μM (z + 36) (170 * r + j) = c j) → μM (z + 27) 18 = nI r → μX (U t + 2) cl = nI e → μX (U t) 3 = nI h →
      (∀ j, j < h → μX (U t + 3) j = μM (z + 38) j) → (∀ j, j < 6 → μX (z + 9) j = μM (z + 39) j) →
      ∃ v μX' μM', f_X5_value_b22 f σ μX (U t) (nI cl) (z + 9) (nI i) = some (v, μX') ∧ f_X11_rules_b132 g σ μM (z + 27) (nI e) (nI h) (nI i) = some (v, μM') ∧
        (∀ q, q ≠ U t → q ≠ U t + 3 → μX' q = μX q) ∧ (∀ q, q ≠ z + 38 → μM' q = μM q) := by
  have hU := S.sx
  have he160 : e ≤ 160 := by have := (S.u1 t ht).2; omega
  intro k
  induction k with
  | zero =>
    intro i h f g μX μM h32 hf hg' hi hh hc hm hq hx hz hs hn
    obtain ⟨f, rfl⟩ : ∃ f', f = f' + 1 := ⟨f - 1, by omega⟩
    obtain ⟨g, rfl⟩ : ∃ g', g = g' + 1 := ⟨g - 1, by omega⟩
    have hh : h = 1 := hh
    subst hh
    have hie : i = e := by omega
    subst hie
    refine ⟨μX (U t + 3) 0, th_w μX (U t) 3 (nI 0), μM, ?_, ?_, fun q h1 _ => th_w_ne _ _ h1, fun q _ => rfl⟩
    · show (oR σ 5 (U t) 1).bind _ = _
      rw [S.ur1 ht, Option.bind_some, S.u2a ht hcl, Option.bind_some, hx, if_pos (Int32.le_refl _), S.uC ht, S.pop ht hz (by decide)]
      rfl
    · show (if nI i ≤ nI i then _ else _) = _
      rw [if_pos (Int32.le_refl _), r_27_27 hU, Option.bind_some, an_38 hU (by decide), Option.bind_some, hs 0 (by decide)]
  | succ k ih =>
    intro i h f g μX μM h32 hf hg' hi hh hc hm hq hx hz hs hn
    obtain ⟨f, rfl⟩ : ∃ f', f = f' + 1 := ⟨f - 1, by omega⟩
    obtain ⟨g, rfl⟩ : ∃ g', g = g' + 1 := ⟨g - 1, by omega⟩
    obtain ⟨hok, hh⟩ := hh
    have hlt : ¬ nI e ≤ nI i := nI_ge (by omega) (by omega)
    have hci := hc i (by omega)
    have hmi := hm i (by omega)
    have hco : oA σ μX (U t + 1) (nI i) = some (tk (c i)) := by rw [S.u1a ht (by omega), hci]
    have hmo : oA σ μM (z + 36) ((170 * nI r) + nI i) = some (c i) := by
      rw [show (170 : Int32) * nI r + nI i = nI (170 * r + i) by rw [← nI_add, show nI (170 * r) = 170 * nI r from Int32.ofNat_mul 170 r], a_36 hU (by omega), hmi]
    have X0 : ∀ x : Option (Int32 × th_M), f_X5_value_b22 (f + 1) σ μX (U t) (nI cl) (z + 9) (nI i) = x ↔ f_X5_value_b22 (f + 1) σ μX (U t) (nI cl) (z + 9) (nI i) = x := fun _ => Iff.rfl
    by_cases hp : (-7 : Int32) < c i
    · rw [if_pos hp] at hh
      obtain ⟨h31, hh⟩ := hh
      by_cases h0 : 0 ≤ c i
      · -- a number
        obtain ⟨k1, k2⟩ := tk_num h0
        obtain ⟨v, μX', μM', a1, a2, a3, a4⟩ := ih (i + 1) (h + 1) f g (th_w (th_w μX (U t + 3) h (c i)) (U t) 3 (nI (h + 1))) (th_w μM (z + 38) h (c i)) (by omega) (by omega) (by omega) (by omega) hh
          (fun j hj => by rw [th_w_ne _ _ (by omega), th_w_ne _ _ (by omega)]; exact hc j hj)
          (fun j hj => by rw [th_w_ne _ _ (by omega)]; exact hm j hj)
          (by rw [th_w_ne _ _ (by omega)]; exact hq) (by rw [th_w_ne _ _ (by omega), th_w_ne _ _ (by omega)]; exact hx) (by rw [th_w_self])
          (fun j hj => by
            rw [th_w_ne _ _ (show U t + 3 ≠ U t by omega), th_w_hit, th_w_hit]
            by_cases e : j = h
            · rw [if_pos e, if_pos e]
            · rw [if_neg e, if_neg e]; exact hs j (by omega))
          (fun j hj => by rw [th_w_ne _ _ w1, th_w_ne _ _ w2, th_w_ne _ _ (by omega)]; exact hn j hj)
        refine ⟨v, μX', μM', ?_, ?_, fun q q1 q2 => by rw [a3 q q1 q2, th_w_ne _ _ q1, th_w_ne _ _ q2], fun q q1 => by rw [a4 q q1, th_w_ne _ _ q1]⟩
        · show (oR σ 5 (U t) 1).bind _ = _
          rw [S.ur1 ht, Option.bind_some, S.u2a ht hcl, Option.bind_some, hx, if_neg hlt, S.ur0 ht, Option.bind_some, hco, Option.bind_some, k1, if_neg k2, Option.bind_some, hco, Option.bind_some, S.uC ht, k1, S.push ht hz h31, Option.bind_some, nI_1]
          exact a1
        · show (if nI e ≤ nI i then _ else _) = _
          rw [if_neg hlt, r_27_19 hU, Option.bind_some, i_27 hU, Option.bind_some, hq, hmo, Option.bind_some, if_neg (by rw [Int32.not_lt]; exact h0), r_27_27 hU, Option.bind_some, s_38 hU (by omega), Option.bind_some, nI_1, nI_1]
          exact a2
      · -- a name
        have hneg : c i < 0 := Int32.not_le.mp h0
        obtain ⟨j, hj, j1, j2⟩ := tk_names ⟨hp, hneg⟩
        obtain ⟨v, μX', μM', a1, a2, a3, a4⟩ := ih (i + 1) (h + 1) f g (th_w (th_w μX (U t + 3) h (μX (z + 9) j)) (U t) 3 (nI (h + 1))) (th_w μM (z + 38) h (μM (z + 39) j)) (by omega) (by omega) (by omega) (by omega) hh
          (fun j hj => by rw [th_w_ne _ _ (by omega), th_w_ne _ _ (by omega)]; exact hc j hj)
          (fun j hj => by rw [th_w_ne _ _ (by omega)]; exact hm j hj)
          (by rw [th_w_ne _ _ (by omega)]; exact hq) (by rw [th_w_ne _ _ (by omega), th_w_ne _ _ (by omega)]; exact hx) (by rw [th_w_self])
          (fun l hl => by
            rw [th_w_ne _ _ (show U t + 3 ≠ U t by omega), th_w_hit, th_w_hit]
            by_cases e : l = h
            · rw [if_pos e, if_pos e]; exact hn j hj
            · rw [if_neg e, if_neg e]; exact hs l (by omega))
          (fun j hj => by rw [th_w_ne _ _ w1, th_w_ne _ _ w2, th_w_ne _ _ (by omega)]; exact hn j hj)
        refine ⟨v, μX', μM', ?_, ?_, fun q q1 q2 => by rw [a3 q q1 q2, th_w_ne _ _ q1, th_w_ne _ _ q2], fun q q1 => by rw [a4 q q1, th_w_ne _ _ q1]⟩
        · show (oR σ 5 (U t) 1).bind _ = _
          rw [S.ur1 ht, Option.bind_some, S.u2a ht hcl, Option.bind_some, hx, if_neg hlt, S.ur0 ht, Option.bind_some, hco, Option.bind_some, j1, if_pos (nI_pos' (by omega)), if_neg (show ¬ (6 : Int32) ≤ nI j from nI_ge hj (by decide)), a_9 hU (by omega), Option.bind_some, S.uC ht, S.push ht hz h31, Option.bind_some, nI_1]
          exact a1
        · show (if nI e ≤ nI i then _ else _) = _
          rw [if_neg hlt, r_27_19 hU, Option.bind_some, i_27 hU, Option.bind_some, hq, hmo, Option.bind_some, if_pos hneg, if_neg (Int32.not_le.mpr hp), r_27_27 hU, Option.bind_some, r_27_28 hU, Option.bind_some, j2, a_39 hU (by omega), Option.bind_some, s_38 hU (by omega), Option.bind_some, nI_1, nI_1]
          exact a2
    · rw [if_neg hp] at hh
      have hng : (-20 : Int32) < c i ∧ c i < -10 := by
        rcases hok with q | q | q
        · exact absurd (Int32.lt_of_lt_of_le (by decide) q) hp
        · exact absurd q.1 hp
        · exact q
      have hneg : c i < 0 := Int32.lt_of_lt_of_le hng.2 (by decide)
      have hle7 : c i ≤ -7 := Int32.not_lt.mp hp
      have s0 : (0 : Int32) ≤ (-1) - tk (c i) := by
        rcases tk_cases hng with q | q | q | q | q | q | q | q | q <;> rw [q] <;> decide
      have s6 : (6 : Int32) ≤ (-1) - tk (c i) := by
        rcases tk_cases hng with q | q | q | q | q | q | q | q | q <;> rw [q] <;> decide
      by_cases hu : c i = -13 ∨ c i = -19
      · rw [if_pos hu] at hh
        obtain ⟨h1, hh⟩ := hh
        obtain ⟨h, rfl⟩ : ∃ h', h = h' + 1 := ⟨h - 1, by omega⟩
        have hst : h < 31 := by omega
        have key : ∀ y : Int32, y = (if c i = -13 then (if μM (z + 38) h = 0 then 1 else 0) else - μM (z + 38) h) → ∃ v μX' μM', f_X5_value_b22 f σ (th_w (th_w (th_w μX (U t) 3 (nI h)) (U t + 3) h y) (U t) 3 (nI (h + 1))) (U t) (nI cl) (z + 9) (nI (i + 1)) = some (v, μX') ∧ f_X11_rules_b132 g σ (th_w μM (z + 38) h y) (z + 27) (nI e) (nI (h + 1)) (nI (i + 1)) = some (v, μM') ∧
            (∀ q, q ≠ U t → q ≠ U t + 3 → μX' q = μX q) ∧ (∀ q, q ≠ z + 38 → μM' q = μM q) := by
          intro y _
          obtain ⟨v, μX', μM', a1, a2, a3, a4⟩ := ih (i + 1) (h + 1) f g (th_w (th_w (th_w μX (U t) 3 (nI h)) (U t + 3) h y) (U t) 3 (nI (h + 1))) (th_w μM (z + 38) h y) (by omega) (by omega) (by omega) (by omega) hh
            (fun j hj => by rw [th_w_ne _ _ (by omega), th_w_ne _ _ (by omega), th_w_ne _ _ (by omega)]; exact hc j hj)
            (fun j hj => by rw [th_w_ne _ _ (by omega)]; exact hm j hj)
            (by rw [th_w_ne _ _ (by omega)]; exact hq) (by rw [th_w_ne _ _ (by omega), th_w_ne _ _ (by omega), th_w_ne _ _ (by omega)]; exact hx) (by rw [th_w_self])
            (fun l hl => by
              rw [th_w_ne _ _ (show U t + 3 ≠ U t by omega), th_w_hit, th_w_hit]
              by_cases e : l = h
              · rw [if_pos e, if_pos e]
              · rw [if_neg e, if_neg e, th_w_ne _ _ (show U t + 3 ≠ U t by omega)]; exact hs l (by omega))
            (fun j hj => by rw [th_w_ne _ _ w1, th_w_ne _ _ w2, th_w_ne _ _ w1, th_w_ne _ _ (by omega)]; exact hn j hj)
          exact ⟨v, μX', μM', a1, a2, fun q q1 q2 => by rw [a3 q q1 q2, th_w_ne _ _ q1, th_w_ne _ _ q2, th_w_ne _ _ q1], fun q q1 => by rw [a4 q q1, th_w_ne _ _ q1]⟩
        have hpop := S.pop ht hz hst
        have hpz : th_w μX (U t) 3 (nI h) (U t) 3 = nI h := by rw [th_w_self]
        have hsv : μX (U t + 3) h = μM (z + 38) h := hs h (by omega)
        have hd : nI (h + 1) - 1 = nI h := nI_pred h
        rcases hu with hu | hu
        · obtain ⟨v, μX', μM', a1, a2, a3, a4⟩ := key _ rfl
          rw [if_pos hu] at a1 a2
          refine ⟨v, μX', μM', ?_, ?_, a3, a4⟩
          · show (oR σ 5 (U t) 1).bind _ = _
            rw [S.ur1 ht, Option.bind_some, S.u2a ht hcl, Option.bind_some, hx, if_neg hlt, S.ur0 ht, Option.bind_some, hco, Option.bind_some, if_pos s0, if_pos s6, hu, if_neg (by decide), if_pos (by decide), S.uC ht, hpop]
            show (if μX (U t + 3) h = 0 then _ else _) = _
            rw [hsv]
            by_cases e0 : μM (z + 38) h = 0
            · rw [if_pos e0] at a1 ⊢
              rw [S.push ht hpz (by omega), Option.bind_some, nI_1]
              exact a1
            · rw [if_neg e0] at a1 ⊢
              rw [S.push ht hpz (by omega), Option.bind_some, nI_1]
              exact a1
          · show (if nI e ≤ nI i then _ else _) = _
            rw [if_neg hlt, r_27_19 hU, Option.bind_some, i_27 hU, Option.bind_some, hq, hmo, Option.bind_some, if_pos hneg, if_pos hle7, r_27_27 hU, Option.bind_some, hd, a_38 hU (by omega), Option.bind_some, if_pos hu, Option.bind_some]
            by_cases e0 : μM (z + 38) h = 0
            · rw [if_pos e0] at a2 ⊢
              rw [s_38 hU (by omega), Option.bind_some, nI_1]
              exact a2
            · rw [if_neg e0] at a2 ⊢
              rw [s_38 hU (by omega), Option.bind_some, nI_1]
              exact a2
        · obtain ⟨v, μX', μM', a1, a2, a3, a4⟩ := key _ rfl
          have hu3 : ¬ c i = -13 := by rw [hu]; decide
          rw [if_neg hu3] at a1 a2
          refine ⟨v, μX', μM', ?_, ?_, a3, a4⟩
          · show (oR σ 5 (U t) 1).bind _ = _
            rw [S.ur1 ht, Option.bind_some, S.u2a ht hcl, Option.bind_some, hx, if_neg hlt, S.ur0 ht, Option.bind_some, hco, Option.bind_some, if_pos s0, if_pos s6, hu, if_pos (by decide), S.uC ht, hpop]
            show (f_X5_push σ _ (U t) (-μX (U t + 3) h)).bind _ = _
            rw [hsv, S.push ht hpz (by omega), Option.bind_some, nI_1]
            exact a1
          · show (if nI e ≤ nI i then _ else _) = _
            rw [if_neg hlt, r_27_19 hU, Option.bind_some, i_27 hU, Option.bind_some, hq, hmo, Option.bind_some, if_pos hneg, if_pos hle7, r_27_27 hU, Option.bind_some, hd, a_38 hU (by omega), Option.bind_some, if_neg hu3, if_pos hu, Option.bind_some, s_38 hU (by omega), Option.bind_some, nI_1]
            exact a2
      · rw [if_neg hu] at hh
        have hu1 : c i ≠ -13 := fun q => hu (Or.inl q)
        have hu2 : c i ≠ -19 := fun q => hu (Or.inr q)
        obtain ⟨h1, hh⟩ := hh
        obtain ⟨h, rfl⟩ : ∃ h', h = h' + 2 := ⟨h - 2, by omega⟩
        have hh : hg c k (i + 1) (h + 1) := hh
        have hpop := S.pop (μ := μX) ht (h := h + 1) hz (by omega)
        have hpop2 := S.pop (μ := th_w μX (U t) 3 (nI (h + 1))) ht (h := h) (th_w_self _ _ _ _) (by omega)
        have hpz : th_w (th_w μX (U t) 3 (nI (h + 1))) (U t) 3 (nI h) (U t) 3 = nI h := th_w_self _ _ _ _
        have hsv : μX (U t + 3) (h + 1) = μM (z + 38) (h + 1) := hs (h + 1) (by omega)
        have hsw : μX (U t + 3) h = μM (z + 38) h := hs h (by omega)
        have hd : nI (h + 2) - 1 = nI (h + 1) := nI_pred (h + 1)
        have hd1 : nI (h + 1) - 1 = nI h := nI_pred h
        have hd2 : nI (h + 2) - 2 = nI h := by
          rw [show (2 : Int32) = nI 1 + nI 1 from by decide, ← Int32.sub_sub, show nI (h + 2) - nI 1 = nI (h + 1) from hd]
          exact hd1
        have hd3 : nI (h + 2) + (-1) = nI (h + 1) := by rw [← hd, Int32.sub_eq_add_neg]
        obtain ⟨v, μX', μM', a1, a2, a3, a4⟩ := ih (i + 1) (h + 1) f g (th_w (th_w (th_w (th_w μX (U t) 3 (nI (h + 1))) (U t) 3 (nI h)) (U t + 3) h (jn (c i) (μM (z + 38) h) (μM (z + 38) (h + 1)))) (U t) 3 (nI (h + 1))) (th_w μM (z + 38) h (jn (c i) (μM (z + 38) h) (μM (z + 38) (h + 1)))) (by omega) (by omega) (by omega) (by omega) hh
            (fun j hj => by rw [th_w_ne _ _ (by omega), th_w_ne _ _ (by omega), th_w_ne _ _ (by omega), th_w_ne _ _ (by omega)]; exact hc j hj)
            (fun j hj => by rw [th_w_ne _ _ (by omega)]; exact hm j hj)
            (by rw [th_w_ne _ _ (by omega)]; exact hq) (by rw [th_w_ne _ _ (by omega), th_w_ne _ _ (by omega), th_w_ne _ _ (by omega), th_w_ne _ _ (by omega)]; exact hx) (th_w_self _ _ _ _)
            (fun l hl => by
              rw [th_w_ne _ _ (show U t + 3 ≠ U t by omega), th_w_hit, th_w_hit]
              by_cases e : l = h
              · rw [if_pos e, if_pos e]
              · rw [if_neg e, if_neg e, th_w_ne _ _ (show U t + 3 ≠ U t by omega), th_w_ne _ _ (show U t + 3 ≠ U t by omega)]; exact hs l (by omega))
            (fun j hj => by rw [th_w_ne _ _ w1, th_w_ne _ _ w2, th_w_ne _ _ w1, th_w_ne _ _ w1, th_w_ne _ _ (by omega)]; exact hn j hj)
        refine ⟨v, μX', μM', ?_, ?_, fun q q1 q2 => by rw [a3 q q1 q2, th_w_ne _ _ q1, th_w_ne _ _ q2, th_w_ne _ _ q1, th_w_ne _ _ q1], fun q q1 => by rw [a4 q q1, th_w_ne _ _ q1]⟩
        · show (oR σ 5 (U t) 1).bind _ = _
          have t13 : ¬ ((-1) - tk (c i) : Int32) = 13 := by
            rcases tk_cases hng with q | q | q | q | q | q | q | q | q <;> first | (rw [q]; decide) | exact absurd q hu2
          have t11 : ¬ ((-1) - tk (c i) : Int32) = 11 := by
            rcases tk_cases hng with q | q | q | q | q | q | q | q | q <;> first | (rw [q]; decide) | exact absurd q hu1
          rw [S.ur1 ht, Option.bind_some, S.u2a ht hcl, Option.bind_some, hx, if_neg hlt, S.ur0 ht, Option.bind_some, hco, Option.bind_some, if_pos s0, if_pos s6, if_neg t13, if_neg t11, S.uC ht, hpop, b2s, hpop2, b2s, th_w_ne _ _ (show U t + 3 ≠ U t by omega), hsv, hsw, f_joined hng hu1 hu2, Option.bind_some, S.push ht hpz (by omega), Option.bind_some, nI_1]
          exact a1
        · show (if nI e ≤ nI i then _ else _) = _
          rw [if_neg hlt, r_27_19 hU, Option.bind_some, i_27 hU, Option.bind_some, hq, hmo, Option.bind_some, if_pos hneg, if_pos hle7, r_27_27 hU, Option.bind_some, hd, a_38 hU (by omega), Option.bind_some, if_neg hu1, if_neg hu2, Option.bind_some, hd2, a_38 hU (by omega), Option.bind_some, hd3]
          refine (m_join (G := f_X11_rules_b132) (f := g) hng hu1 hu2).trans ?_
          unfold f_X11_rules_b429
          rw [r_27_27 hU, Option.bind_some, hd1, s_38 hU (by omega), Option.bind_some, nI_1]
          exact a2
end RK
