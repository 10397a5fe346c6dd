section LW2
theorem lg_eq (v : Int64) : lg_cmp v v = 0 := by
  have h := lg_lt v v
  have h1 : ¬ lg_cmp v v < 0 := fun q => Int64.lt_irrefl (h.1.mp q)
  have h2 : ¬ 0 < lg_cmp v v := fun q => Int64.lt_irrefl (h.2.1.mp q)
  exact Int32.le_antisymm (Int32.not_lt.mp h2) (Int32.not_lt.mp h1)
theorem law_loop {z L : Nat} {xs : Nat → Int32} (hL : L ≤ 3072) : ∀ f j σ μ, 0 < f → j + f ≤ 600 → L < 6 * (j + f) → GI z σ μ → f_L_law_b18 L xs f σ μ z (z + 27) (nI (6 * j)) = some 1 := by
  intro f
  induction f with
  | zero => intro j σ μ h0; omega
  | succ f ih =>
    intro j σ μ _ hjf hj g
    have hU := g.sx
    have eL : Int32.ofNat L - 6 < nI (6 * j) ↔ L < 6 * (j + 1) := by
      have e : (Int32.ofNat L - 6).toInt = (L : Int) - 6 := by
        rw [Int32.toInt_sub, show (Int32.ofNat L).toInt = (L : Int) from nI_toInt (n := L) (by omega), show (6 : Int32).toInt = 6 from by decide, Int.bmod_eq_of_le (by omega) (by omega)]
      rw [Int32.lt_iff_toInt_lt, e]
      rw [nI_toInt (by omega)]
      omega
    by_cases c : L < 6 * (j + 1)
    · show (if Int32.ofNat L - 6 < nI (6 * j) then _ else _) = _
      rw [if_pos (eL.mpr c)]
    have hx0 : oXs L xs (nI (6 * j)) = some (xs (6 * j)) := oXs_n hL (by omega)
    have hx1 : oXs L xs (nI (6 * j) + 1) = some (xs (6 * j + 1)) := by rw [show nI (6 * j) + 1 = nI (6 * j + 1) from nI_add _ 1]; exact oXs_n hL (by omega)
    have hx2 : oXs L xs (nI (6 * j) + 2) = some (xs (6 * j + 2)) := by rw [show nI (6 * j) + 2 = nI (6 * j + 2) from nI_add _ 2]; exact oXs_n hL (by omega)
    have hx3 : oXs L xs (nI (6 * j) + 3) = some (xs (6 * j + 3)) := by rw [show nI (6 * j) + 3 = nI (6 * j + 3) from nI_add _ 3]; exact oXs_n hL (by omega)
    have hx4 : oXs L xs (nI (6 * j) + 4) = some (xs (6 * j + 4)) := by rw [show nI (6 * j) + 4 = nI (6 * j + 4) from nI_add _ 4]; exact oXs_n hL (by omega)
    have hx5 : oXs L xs (nI (6 * j) + 5) = some (xs (6 * j + 5)) := by rw [show nI (6 * j) + 5 = nI (6 * j + 5) from nI_add _ 5]; exact oXs_n hL (by omega)
    have nxt : ∀ σ' w, GI z σ' w → f_L_law_b18 L xs f σ' w z (z + 27) (nI (6 * j) + 6) = some 1 := fun σ' w g' => by
      rw [show nI (6 * j) + 6 = nI (6 * (j + 1)) from nI_add (6 * j) 6]
      exact ih (j + 1) σ' w (by omega) (by omega) (by omega) g'
    generalize nI (6 * j) = x3 at eL hx0 hx1 hx2 hx3 hx4 hx5 nxt ⊢
    generalize xs (6 * j) = v0 at hx0
    generalize xs (6 * j + 1) = v1 at hx1
    generalize xs (6 * j + 2) = v2 at hx2
    generalize xs (6 * j + 3) = v3 at hx3
    generalize xs (6 * j + 4) = v4 at hx4
    generalize xs (6 * j + 5) = v5 at hx5
    clear ih
    show (if Int32.ofNat L - 6 < x3 then _ else _) = _
    rw [if_neg (fun q => c (eL.mp q)), hx0, Option.bind_some]
    by_cases k0 : v0 &&& 31 = 0
    · rw [if_pos k0]
      obtain ⟨v, σ', u, w, e1, e2, g'⟩ := g.both (fX := f_X10_boat σ μ z v1 v2 v3) (fM := fun σ μ => f_X11_boat σ μ (z + 27) v1 v2 v3) (fun A B U ω n nt Z h => by obtain ⟨v, s, u, B2, o2, n2, A2, q1, q2, -, q3⟩ := boat_both h v1 v2 v3; exact ⟨v, s, u, B2, o2, n2, A2, q1, q2, q3⟩)
      have e2 : f_X11_boat σ' u (z + 27) v1 v2 v3 = some (v, w) := e2
      have hU' := g'.sx
      simp only [hx1, hx2, hx3, Option.bind_some, c_0 hU, e1, b3s, c_27 hU', b2s, e2]
      rw [if_pos trivial]
      exact nxt _ _ g'
    rw [if_neg k0]
    by_cases k1 : v0 &&& 31 = 1
    · rw [if_pos k1]
      obtain ⟨v, u, w, e1, e2, g'⟩ := g.step (fX := fun μ => f_X10_set σ μ z v1 v2 v3) (fM := fun μ => f_X11_set σ μ (z + 27) v1 v2 v3) (fun A B U ω n nt Z Y μX μM h m e => ⟨n, (set_lock h m _ _ _).w e⟩)
      have e1 : f_X10_set σ μ z v1 v2 v3 = some (v, u) := e1
      have e2 : f_X11_set σ u (z + 27) v1 v2 v3 = some (v, w) := e2
      simp only [hx1, hx2, hx3, Option.bind_some, c_0 hU, c_27 hU, e1, b2s, e2]
      rw [if_pos trivial]
      exact nxt _ _ g'
    rw [if_neg k1]
    by_cases k2 : v0 &&& 31 = 2
    · rw [if_pos k2]
      obtain ⟨v, u, w, e1, e2, g'⟩ := g.step (fX := fun μ => f_X10_told σ μ z v1 v2) (fM := fun μ => f_X11_told σ μ (z + 27) v1 v2) (fun A B U ω n nt Z Y μX μM h m e => ⟨n, (told_lock h m _ _).w e⟩)
      have e1 : f_X10_told σ μ z v1 v2 = some (v, u) := e1
      have e2 : f_X11_told σ u (z + 27) v1 v2 = some (v, w) := e2
      simp only [hx1, hx2, Option.bind_some, c_0 hU, c_27 hU, e1, b2s, e2]
      rw [if_pos trivial]
      exact nxt _ _ g'
    rw [if_neg k2]
    by_cases k3 : v0 &&& 31 = 3
    · rw [if_pos k3]
      obtain ⟨v, u, w, e1, e2, g'⟩ := g.step (fX := fun μ => f_X10_feed σ μ z v1) (fM := fun μ => f_X11_feed σ μ (z + 27) v1) (fun A B U ω n nt Z Y μX μM h m e => ⟨n, (feed_lock h m _).w e⟩)
      have e1 : f_X10_feed σ μ z v1 = some (v, u) := e1
      have e2 : f_X11_feed σ u (z + 27) v1 = some (v, w) := e2
      simp only [hx1, Option.bind_some, c_0 hU, c_27 hU, e1, b2s, e2]
      rw [if_pos trivial]
      exact nxt _ _ g'
    rw [if_neg k3]
    by_cases k4 : v0 &&& 31 = 4
    · rw [if_pos k4]
      obtain ⟨v, σ', u, w, e1, e2, g'⟩ := g.text
      have e2 : f_X11_text σ' u (z + 27) = some (v, w) := e2
      have hU' := g'.sx
      simp only [Option.bind_some, c_0 hU, e1, b3s, c_27 hU', b2s, e2]
      rw [if_pos trivial]
      exact nxt _ _ g'
    rw [if_neg k4]
    by_cases k5 : v0 &&& 31 = 5
    · rw [if_pos k5]
      obtain ⟨v, u, w, e1, e2, g'⟩ := g.step (fX := fun μ => f_X10_force σ μ z v1) (fM := fun μ => f_X11_force σ μ (z + 27) v1) (fun A B U ω n nt Z Y μX μM h m e => ⟨n, (force_lock h m _).w e⟩)
      have e1 : f_X10_force σ μ z v1 = some (v, u) := e1
      have e2 : f_X11_force σ u (z + 27) v1 = some (v, w) := e2
      simp only [hx1, Option.bind_some, c_0 hU, c_27 hU, e1, b2s, e2]
      rw [if_pos trivial]
      exact nxt _ _ g'
    rw [if_neg k5]
    by_cases k6 : v0 &&& 31 = 6
    · rw [if_pos k6]
      obtain ⟨v, u, w, e1, e2, g'⟩ := g.step (fX := fun μ => f_X10_call σ μ z v1) (fM := fun μ => f_X11_call σ μ (z + 27) v1) (fun A B U ω n nt Z Y μX μM h m e => ⟨n, (call_lock h m _).w e⟩)
      have e1 : f_X10_call σ μ z v1 = some (v, u) := e1
      have e2 : f_X11_call σ u (z + 27) v1 = some (v, w) := e2
      simp only [hx1, Option.bind_some, c_0 hU, c_27 hU, e1, b2s, e2]
      rw [if_pos trivial]
      exact nxt _ _ g'
    rw [if_neg k6]
    by_cases k7 : v0 &&& 31 = 7
    · rw [if_pos k7]
      obtain ⟨v, u, w, e1, e2, g'⟩ := g.step (fX := fun μ => f_X10_time σ μ z v1) (fM := fun μ => f_X11_time σ μ (z + 27) v1) (fun A B U ω n nt Z Y μX μM h m e => ⟨n, (time_lock h m _).w e⟩)
      have e1 : f_X10_time σ μ z v1 = some (v, u) := e1
      have e2 : f_X11_time σ u (z + 27) v1 = some (v, w) := e2
      simp only [hx1, Option.bind_some, c_0 hU, c_27 hU, e1, b2s, e2]
      rw [if_pos trivial]
      exact nxt _ _ g'
    rw [if_neg k7]
    by_cases k8 : v0 &&& 31 = 8
    · rw [if_pos k8]
      obtain ⟨v, u, w, e1, e2, g'⟩ := g.step (fX := fun μ => f_X10_nobody σ μ z) (fM := fun μ => f_X11_nobody σ μ (z + 27)) (fun A B U ω n nt Z Y μX μM h m e => ⟨n, (nobody_lock h m).w e⟩)
      have e1 : f_X10_nobody σ μ z = some (v, u) := e1
      have e2 : f_X11_nobody σ u (z + 27) = some (v, w) := e2
      simp only [Option.bind_some, c_0 hU, c_27 hU, e1, b2s, e2]
      rw [if_pos trivial]
      exact nxt _ _ g'
    rw [if_neg k8]
    by_cases k9 : v0 &&& 31 = 9
    · rw [if_pos k9]
      obtain ⟨v, u, w, e1, e2, g'⟩ := g.step (fX := fun μ => f_X10_callAt σ μ z v1) (fM := fun μ => f_X11_callAt σ μ (z + 27) v1) (fun A B U ω n nt Z Y μX μM h m e => ⟨n, (callAt_lock h m _).w e⟩)
      have e1 : f_X10_callAt σ μ z v1 = some (v, u) := e1
      have e2 : f_X11_callAt σ u (z + 27) v1 = some (v, w) := e2
      simp only [hx1, Option.bind_some, c_0 hU, c_27 hU, e1, b2s, e2]
      rw [if_pos trivial]
      exact nxt _ _ g'
    rw [if_neg k9]
    by_cases k10 : v0 &&& 31 = 10
    · rw [if_pos k10]
      obtain ⟨v, u, w, e1, e2, g'⟩ := g.step (fX := fun μ => f_X10_allIn σ μ z) (fM := fun μ => f_X11_allIn σ μ (z + 27)) (fun A B U ω n nt Z Y μX μM h m e => ⟨n, (allIn_lock h m).w e⟩)
      have e1 : f_X10_allIn σ μ z = some (v, u) := e1
      have e2 : f_X11_allIn σ u (z + 27) = some (v, w) := e2
      simp only [Option.bind_some, c_0 hU, c_27 hU, e1, b2s, e2]
      rw [if_pos trivial]
      exact nxt _ _ g'
    rw [if_neg k10]
    by_cases k11 : v0 &&& 31 = 11
    · rw [if_pos k11]
      obtain ⟨v, u, w, e1, e2, g'⟩ := g.step (fX := fun μ => f_X10_fetch σ μ z v1 v2) (fM := fun μ => f_X11_fetch σ μ (z + 27) v1 v2) (fun A B U ω n nt Z Y μX μM h m e => ⟨n, (fetch_lock h m _ _).w e⟩)
      have e1 : f_X10_fetch σ μ z v1 v2 = some (v, u) := e1
      have e2 : f_X11_fetch σ u (z + 27) v1 v2 = some (v, w) := e2
      simp only [hx1, hx2, Option.bind_some, c_0 hU, c_27 hU, e1, b2s, e2]
      rw [if_pos trivial]
      exact nxt _ _ g'
    rw [if_neg k11]
    by_cases k12 : v0 &&& 31 = 12
    · rw [if_pos k12]
      obtain ⟨v, u, w, e1, e2, g'⟩ := g.step (fX := fun μ => f_X10_launch σ μ z v1) (fM := fun μ => f_X11_launch σ μ (z + 27) v1) (fun A B U ω n nt Z Y μX μM h m e => ⟨n, (launch_lock h m _).w e⟩)
      have e1 : f_X10_launch σ μ z v1 = some (v, u) := e1
      have e2 : f_X11_launch σ u (z + 27) v1 = some (v, w) := e2
      simp only [hx1, Option.bind_some, c_0 hU, c_27 hU, e1, b2s, e2]
      rw [if_pos trivial]
      exact nxt _ _ g'
    rw [if_neg k12]
    by_cases k13 : v0 &&& 31 = 13
    · rw [if_pos k13]
      obtain ⟨v, u, w, e1, e2, g'⟩ := g.step (fX := fun μ => f_X10_one σ μ z v1) (fM := fun μ => f_X11_one_ σ μ (z + 27) v1) (fun A B U ω n nt Z Y μX μM h m e => ⟨n, (one_lock h m _).w e⟩)
      have e1 : f_X10_one σ μ z v1 = some (v, u) := e1
      have e2 : f_X11_one_ σ u (z + 27) v1 = some (v, w) := e2
      simp only [hx1, Option.bind_some, c_0 hU, c_27 hU, e1, b2s, e2]
      rw [if_pos trivial]
      exact nxt _ _ g'
    rw [if_neg k13]
    by_cases k14 : v0 &&& 31 = 14
    · rw [if_pos k14]
      obtain ⟨v, u, w, e1, e2, g'⟩ := g.step (fX := fun μ => f_X10_thunder σ μ z v1 v2) (fM := fun μ => f_X11_thunder σ μ (z + 27) v1 v2) (fun A B U ω n nt Z Y μX μM h m e => ⟨n, (thunder_lock h m _ _).w e⟩)
      have e1 : f_X10_thunder σ μ z v1 v2 = some (v, u) := e1
      have e2 : f_X11_thunder σ u (z + 27) v1 v2 = some (v, w) := e2
      simp only [hx1, hx2, Option.bind_some, c_0 hU, c_27 hU, e1, b2s, e2]
      rw [if_pos trivial]
      exact nxt _ _ g'
    rw [if_neg k14]
    by_cases k15 : v0 &&& 31 = 15
    · rw [if_pos k15]
      obtain ⟨v, u, w, e1, e2, g'⟩ := g.step (fX := fun μ => f_X10_stand σ μ z) (fM := fun μ => f_X11_stand σ μ (z + 27)) (fun A B U ω n nt Z Y μX μM h m e => ⟨n, stand_lock h m e⟩)
      have e1 : f_X10_stand σ μ z = some (v, u) := e1
      have e2 : f_X11_stand σ u (z + 27) = some (v, w) := e2
      simp only [Option.bind_some, c_0 hU, c_27 hU, e1, b2s, e2]
      rw [if_pos trivial]
      exact nxt _ _ g'
    rw [if_neg k15]
    by_cases k16 : v0 &&& 31 = 16
    · rw [if_pos k16]
      obtain ⟨v, u, w, e1, e2, g'⟩ := g.step (fX := fun μ => f_X10_heard σ μ z v1) (fM := fun μ => f_X11_heard σ μ (z + 27) v1) (fun A B U ω n nt Z Y μX μM h m e => ⟨n, (heard_lock h m _).w e⟩)
      have e1 : f_X10_heard σ μ z v1 = some (v, u) := e1
      have e2 : f_X11_heard σ u (z + 27) v1 = some (v, w) := e2
      simp only [hx1, Option.bind_some, c_0 hU, c_27 hU, e1, b2s, e2]
      rw [if_pos trivial]
      exact nxt _ _ g'
    rw [if_neg k16]
    by_cases k17 : v0 &&& 31 = 17
    · rw [if_pos k17]
      obtain ⟨v, u, w, e1, e2, g'⟩ := g.step (fX := fun μ => f_X10_where σ μ z v1 v2) (fM := fun μ => f_X11_where σ μ (z + 27) v1 v2) (fun A B U ω n nt Z Y μX μM h m e => ⟨n, (where_lock h m _ _).w e⟩)
      have e1 : f_X10_where σ μ z v1 v2 = some (v, u) := e1
      have e2 : f_X11_where σ u (z + 27) v1 v2 = some (v, w) := e2
      simp only [hx1, hx2, Option.bind_some, c_0 hU, c_27 hU, e1, b2s, e2]
      rw [if_pos trivial]
      exact nxt _ _ g'
    rw [if_neg k17]
    by_cases k18 : v0 &&& 31 = 18
    · rw [if_pos k18]
      obtain ⟨v, u, w, e1, e2, g'⟩ := g.step (fX := fun μ => f_X10_drawn σ μ z v1) (fM := fun μ => f_X11_drawn σ μ (z + 27) v1) (fun A B U ω n nt Z Y μX μM h m e => ⟨n, (drawn_lock h m _).w e⟩)
      have e1 : f_X10_drawn σ μ z v1 = some (v, u) := e1
      have e2 : f_X11_drawn σ u (z + 27) v1 = some (v, w) := e2
      simp only [hx1, Option.bind_some, c_0 hU, c_27 hU, e1, b2s, e2]
      rw [if_pos trivial]
      exact nxt _ _ g'
    rw [if_neg k18]
    by_cases k19 : v0 &&& 31 = 19
    · rw [if_pos k19]
      obtain ⟨v, u, w, e1, e2, g'⟩ := g.long (fX := fun μ => f_X10_chance σ μ z v1 v2 v3) (fM := fun μ => f_X11_chance σ μ (z + 27) v1 v2 v3) (fun A B U ω n nt Z Y μX μM h m => chance_lock h m _ _ _)
      have e1 : f_X10_chance σ μ z v1 v2 v3 = some (v, u) := e1
      have e2 : f_X11_chance σ u (z + 27) v1 v2 v3 = some (v, w) := e2
      simp only [hx1, hx2, hx3, Option.bind_some, c_0 hU, c_27 hU, e1, b2s, e2]
      rw [if_pos (lg_eq v)]
      exact nxt _ _ g'
    rw [if_neg k19]
    by_cases k20 : v0 &&& 31 = 20
    · rw [if_pos k20]
      obtain ⟨v, u, w, e1, e2, g'⟩ := g.step (fX := fun μ => f_X10_image σ μ z) (fM := fun μ => f_X11_image σ μ (z + 27)) (fun A B U ω n nt Z Y μX μM h m e => ⟨n, (image_lock h m).w e⟩)
      have e1 : f_X10_image σ μ z = some (v, u) := e1
      have e2 : f_X11_image σ u (z + 27) = some (v, w) := e2
      simp only [Option.bind_some, c_0 hU, c_27 hU, e1, b2s, e2]
      rw [if_pos trivial]
      exact nxt _ _ g'
    rw [if_neg k20]
    by_cases k21 : v0 &&& 31 = 21
    · rw [if_pos k21]
      obtain ⟨v, u, w, e1, e2, g'⟩ := g.step (fX := fun μ => f_X10_back σ μ z) (fM := fun μ => f_X11_back σ μ (z + 27)) (fun A B U ω n nt Z Y μX μM h m e => by obtain ⟨n2, r⟩ := back_lock h m; exact ⟨n2, r.w e⟩)
      have e1 : f_X10_back σ μ z = some (v, u) := e1
      have e2 : f_X11_back σ u (z + 27) = some (v, w) := e2
      simp only [Option.bind_some, c_0 hU, c_27 hU, e1, b2s, e2]
      rw [if_pos trivial]
      exact nxt _ _ g'
    rw [if_neg k21]
    by_cases k22 : v0 &&& 31 = 22
    · rw [if_pos k22]
      obtain ⟨v, e1, e2⟩ := g.val (fX := f_X10_count σ μ z v1) (fM := f_X11_count σ μ (z + 27) v1) (fun A B U ω n nt Z Y h m => count_lock h m _)
      simp only [hx1, Option.bind_some, c_0 hU, c_27 hU, e1, e2]
      rw [if_pos trivial]
      exact nxt _ _ g
    rw [if_neg k22]
    by_cases k23 : v0 &&& 31 = 23
    · rw [if_pos k23]
      obtain ⟨v, u, w, e1, e2, g'⟩ := g.step (fX := fun μ => f_X10_sheet σ μ z v1 v2 v3) (fM := fun μ => f_X11_sheet σ μ (z + 27) v1 v2 v3) (fun A B U ω n nt Z Y μX μM h m e => ⟨n, (sheet_lock h m _ _ _).w e⟩)
      have e1 : f_X10_sheet σ μ z v1 v2 v3 = some (v, u) := e1
      have e2 : f_X11_sheet σ u (z + 27) v1 v2 v3 = some (v, w) := e2
      simp only [hx1, hx2, hx3, Option.bind_some, c_0 hU, c_27 hU, e1, b2s, e2]
      rw [if_pos trivial]
      exact nxt _ _ g'
    rw [if_neg k23]
    by_cases k24 : v0 &&& 31 = 24
    · rw [if_pos k24]
      obtain ⟨v, u, w, e1, e2, g'⟩ := g.step (fX := fun μ => f_X10_cell σ μ z v1 v2 v3) (fM := fun μ => f_X11_cell σ μ (z + 27) v1 v2 v3) (fun A B U ω n nt Z Y μX μM h m e => ⟨n, (cell_lock h m _ _ _).w e⟩)
      have e1 : f_X10_cell σ μ z v1 v2 v3 = some (v, u) := e1
      have e2 : f_X11_cell σ u (z + 27) v1 v2 v3 = some (v, w) := e2
      simp only [hx1, hx2, hx3, Option.bind_some, c_0 hU, c_27 hU, e1, b2s, e2]
      rw [if_pos trivial]
      exact nxt _ _ g'
    rw [if_neg k24]
    by_cases k25 : v0 &&& 31 = 25
    · rw [if_pos k25]
      obtain ⟨v, u, w, e1, e2, g'⟩ := g.step (fX := fun μ => f_X10_copy σ μ z v1 v2 v3 v4 v5) (fM := fun μ => f_X11_copy σ μ (z + 27) v1 v2 v3 v4 v5) (fun A B U ω n nt Z Y μX μM h m e => ⟨n, (copy_lock h m _ _ _ _ _).w e⟩)
      have e1 : f_X10_copy σ μ z v1 v2 v3 v4 v5 = some (v, u) := e1
      have e2 : f_X11_copy σ u (z + 27) v1 v2 v3 v4 v5 = some (v, w) := e2
      simp only [hx1, hx2, hx3, hx4, hx5, Option.bind_some, c_0 hU, c_27 hU, e1, b2s, e2]
      rw [if_pos trivial]
      exact nxt _ _ g'
    rw [if_neg k25]
    by_cases k26 : v0 &&& 31 = 26
    · rw [if_pos k26]
      obtain ⟨v, σ', u, w, e1, e2, g'⟩ := g.both (fX := f_X10_boats σ μ z v1 v2 v3 v4) (fM := fun σ μ => f_X11_boats σ μ (z + 27) v1 v2 v3 v4) (fun A B U ω n nt Z h => boats_both h _ _ _ _)
      have e2 : f_X11_boats σ' u (z + 27) v1 v2 v3 v4 = some (v, w) := e2
      have hU' := g'.sx
      simp only [hx1, hx2, hx3, hx4, Option.bind_some, c_0 hU, e1, b3s, c_27 hU', b2s, e2]
      rw [if_pos trivial]
      exact nxt _ _ g'
    rw [if_neg k26]
    by_cases k27 : v0 &&& 31 = 27
    · rw [if_pos k27]
      obtain ⟨v, e1, e2⟩ := g.val (fX := f_X10_taken σ μ z v1 v2) (fM := f_X11_taken σ μ (z + 27) v1 v2) (fun A B U ω n nt Z Y h m => taken_lock h m _ _)
      simp only [hx1, hx2, Option.bind_some, c_0 hU, c_27 hU, e1, e2]
      rw [if_pos trivial]
      exact nxt _ _ g
    rw [if_neg k27]
    exact nxt _ _ g
end LW2
