section GR
variable {z : Nat} {σ σM : th_S} {m a d op nt dX dM : Nat} {p : Nat → Int32} {μ μ' μX μM μX0 μM0 : th_M}
def gX (σ : th_S) (z d k op : Nat) : th_M → Option (Int32 × th_M) := fun μ => f_scc_X8_either d k σ μ (z + 4) (nI op)
def gM (σ : th_S) (z d k : Nat) : th_M → Option (Int32 × th_M) := fun μ => f_scc_X11_any d k σ μ (z + 27)
theorem is10 {v s : Int32} : (v = s) ∨ ¬ (v = s) := Classical.em _
theorem either_lock (hU : XT σ z) (hM : SX σM z) (hR : SPp z m p nt μX0 μM0 (gX σ z dX 1 op) (gM σM z dM 1) op 1) : SPp z m p nt μX0 μM0 (gX σ z (dX + 1) 0 op) (gM σM z (dM + 1) 0) op 0 := by
  have eX : gX σ z (dX + 1) 0 op = fun μ => b2 (gX σ z dX 1 op μ) fun v1 μ2 => if v1 = 0 then some (0, μ2) else f_X8_either_b12 (f_scc_X8_either dX) fu σ μ2 (z + 4) (nI op) (nI 0) := by
    funext μ
    show oC σ 8 (z + 4) _ = _
    rw [tc_4 hU]
    rfl
  have eM : gM σM z (dM + 1) 0 = fun μ => b2 (gM σM z dM 1 μ) fun v1 μ2 => if v1 = 0 then some (0, μ2) else f_X11_any_b9 (f_scc_X11_any dM) fu σM μ2 (z + 27) := by
    funext μ
    show oC σM 11 (z + 27) _ = _
    rw [c_27 hM]
    rfl
  rw [eX, eM]
  refine level_lock hR (fun μX μM d a h hda => ?_)
  have m160 := h.1.1.1
  refine loop_lock hU hM hR (LX := fun f μ x => f_X8_either_b12 (f_scc_X8_either dX) f σ μ (z + 4) (nI op) x) (LM := fun g μ => f_X11_any_b9 (f_scc_X11_any dM) g σM μ (z + 27)) (Sg := fun s => s = 9) (cd := fun _ => -11) (fun s hs => ⟨by rw [hs]; decide, by rw [hs]; decide, Or.inl rfl⟩) (fun s => is10) (fun f μX i a hk hi q => ?_) (fun f μX i a hk q => ?_) (fun g μX μM op d a h q => ?_) (fun g μX μM op d a h q => ?_) (m - a) 0 fu fu μX μM d a (Nat.le_refl _) (by unfold fu; omega) (by unfold fu; omega) (Nat.zero_le _) h hda
  · show (if nI 160 ≤ nI i then _ else _) = _
    rw [if_neg (nI_ge hi (by decide)), hk, Option.bind_some, if_pos q, tc_4 hU, nI_1, q]
    rfl
  · show (if nI 160 ≤ nI i then _ else _) = _
    by_cases c : nI 160 ≤ nI i
    · rw [if_pos c]
    · rw [if_neg c, hk, Option.bind_some, if_neg q]
  · show oC σM 11 (z + 27) _ = _
    rw [c_27 hM, show f_X11_is σM μM (z + 27) 10 = _ from h.is hM (w := 9) (by decide), Option.bind_some, if_pos (show kT p m a = nI 9 from q), if_neg n10]
    rfl
  · show oC σM 11 (z + 27) _ = _
    rw [c_27 hM, show f_X11_is σM μM (z + 27) 10 = _ from h.is hM (w := 9) (by decide), Option.bind_some, if_neg (show ¬ kT p m a = nI 9 from q), if_pos rfl]
theorem both_lock (hU : XT σ z) (hM : SX σM z) (hR : SPp z m p nt μX0 μM0 (gX σ z dX 2 op) (gM σM z dM 2) op 2) : SPp z m p nt μX0 μM0 (gX σ z (dX + 1) 1 op) (gM σM z (dM + 1) 1) op 1 := by
  have eX : gX σ z (dX + 1) 1 op = fun μ => b2 (gX σ z dX 2 op μ) fun v1 μ2 => if v1 = 0 then some (0, μ2) else f_X8_both_b12 (f_scc_X8_either dX) fu σ μ2 (z + 4) (nI op) (nI 0) := by
    funext μ
    show oC σ 8 (z + 4) _ = _
    rw [tc_4 hU]
    rfl
  have eM : gM σM z (dM + 1) 1 = fun μ => b2 (gM σM z dM 2 μ) fun v1 μ2 => if v1 = 0 then some (0, μ2) else f_X11_both_b9 (f_scc_X11_any dM) fu σM μ2 (z + 27) := by
    funext μ
    show oC σM 11 (z + 27) _ = _
    rw [c_27 hM]
    rfl
  rw [eX, eM]
  refine level_lock hR (fun μX μM d a h hda => ?_)
  have m160 := h.1.1.1
  refine loop_lock hU hM hR (LX := fun f μ x => f_X8_both_b12 (f_scc_X8_either dX) f σ μ (z + 4) (nI op) x) (LM := fun g μ => f_X11_both_b9 (f_scc_X11_any dM) g σM μ (z + 27)) (Sg := fun s => s = 10) (cd := fun _ => -12) (fun s hs => ⟨by rw [hs]; decide, by rw [hs]; decide, Or.inr (Or.inl rfl)⟩) (fun s => is10) (fun f μX i a hk hi q => ?_) (fun f μX i a hk q => ?_) (fun g μX μM op d a h q => ?_) (fun g μX μM op d a h q => ?_) (m - a) 0 fu fu μX μM d a (Nat.le_refl _) (by unfold fu; omega) (by unfold fu; omega) (Nat.zero_le _) h hda
  · show (if nI 160 ≤ nI i then _ else _) = _
    rw [if_neg (nI_ge hi (by decide)), hk, Option.bind_some, if_pos q, tc_4 hU, nI_1, q]
    rfl
  · show (if nI 160 ≤ nI i then _ else _) = _
    by_cases c : nI 160 ≤ nI i
    · rw [if_pos c]
    · rw [if_neg c, hk, Option.bind_some, if_neg q]
  · show oC σM 11 (z + 27) _ = _
    rw [c_27 hM, show f_X11_is σM μM (z + 27) 11 = _ from h.is hM (w := 10) (by decide), Option.bind_some, if_pos (show kT p m a = nI 10 from q), if_neg n10]
    rfl
  · show oC σM 11 (z + 27) _ = _
    rw [c_27 hM, show f_X11_is σM μM (z + 27) 11 = _ from h.is hM (w := 10) (by decide), Option.bind_some, if_neg (show ¬ kT p m a = nI 10 from q), if_pos rfl]
theorem prod_lock (hU : XT σ z) (hM : SX σM z) (hR : SPp z m p nt μX0 μM0 (gX σ z dX 6 op) (gM σM z dM 5) op 5) : SPp z m p nt μX0 μM0 (gX σ z (dX + 1) 5 op) (gM σM z (dM + 1) 4) op 4 := by
  have eX : gX σ z (dX + 1) 5 op = fun μ => b2 (gX σ z dX 6 op μ) fun v1 μ2 => if v1 = 0 then some (0, μ2) else f_X8_product_b12 (f_scc_X8_either dX) fu σ μ2 (z + 4) (nI op) (nI 0) := by
    funext μ
    show oC σ 8 (z + 4) _ = _
    rw [tc_4 hU]
    rfl
  have eM : gM σM z (dM + 1) 4 = fun μ => b2 (gM σM z dM 5 μ) fun v1 μ2 => if v1 = 0 then some (0, μ2) else f_X11_term_b9 (f_scc_X11_any dM) fu σM μ2 (z + 27) := by
    funext μ
    show oC σM 11 (z + 27) _ = _
    rw [c_27 hM]
    rfl
  rw [eX, eM]
  refine level_lock hR (fun μX μM d a h hda => ?_)
  have m160 := h.1.1.1
  refine loop_lock hU hM hR (LX := fun f μ x => f_X8_product_b12 (f_scc_X8_either dX) f σ μ (z + 4) (nI op) x) (LM := fun g μ => f_X11_term_b9 (f_scc_X11_any dM) g σM μ (z + 27)) (Sg := fun s => s = 42) (cd := fun _ => -18) (fun s hs => ⟨by rw [hs]; decide, by rw [hs]; decide, Or.inr (Or.inr (Or.inr (Or.inr (Or.inr (Or.inr rfl)))))⟩) (fun s => is10) (fun f μX i a hk hi q => ?_) (fun f μX i a hk q => ?_) (fun g μX μM op d a h q => ?_) (fun g μX μM op d a h q => ?_) (m - a) 0 fu fu μX μM d a (Nat.le_refl _) (by unfold fu; omega) (by unfold fu; omega) (Nat.zero_le _) h hda
  · show (if nI 160 ≤ nI i then _ else _) = _
    rw [if_neg (nI_ge hi (by decide)), hk, Option.bind_some, if_pos q, tc_4 hU, nI_1, q]
    rfl
  · show (if nI 160 ≤ nI i then _ else _) = _
    by_cases c : nI 160 ≤ nI i
    · rw [if_pos c]
    · rw [if_neg c, hk, Option.bind_some, if_neg q]
  · show oC σM 11 (z + 27) _ = _
    rw [c_27 hM, show f_X11_is_ σM μM (z + 27) 42 = _ from h.iss hM (s := 42) (by decide) (by decide) (by decide), Option.bind_some, if_pos (show kT p m a = nI 42 from q), if_neg n10]
    rfl
  · show oC σM 11 (z + 27) _ = _
    rw [c_27 hM, show f_X11_is_ σM μM (z + 27) 42 = _ from h.iss hM (s := 42) (by decide) (by decide) (by decide), Option.bind_some, if_neg (show ¬ kT p m a = nI 42 from q), if_pos rfl]
theorem sum_lock (hU : XT σ z) (hM : SX σM z) (hR : SPp z m p nt μX0 μM0 (gX σ z dX 5 op) (gM σM z dM 4) op 4) : SPp z m p nt μX0 μM0 (gX σ z (dX + 1) 4 op) (gM σM z (dM + 1) 3) op 3 := by
  have eX : gX σ z (dX + 1) 4 op = fun μ => b2 (gX σ z dX 5 op μ) fun v1 μ2 => if v1 = 0 then some (0, μ2) else f_X8_sum_b12 (f_scc_X8_either dX) fu σ μ2 (z + 4) (nI op) (nI 0) := by
    funext μ
    show oC σ 8 (z + 4) _ = _
    rw [tc_4 hU]
    rfl
  have eM : gM σM z (dM + 1) 3 = fun μ => b2 (gM σM z dM 4 μ) fun v1 μ2 => if v1 = 0 then some (0, μ2) else f_X11_sum_b9 (f_scc_X11_any dM) fu σM μ2 (z + 27) := by
    funext μ
    show oC σM 11 (z + 27) _ = _
    rw [c_27 hM]
    rfl
  rw [eX, eM]
  refine level_lock hR (fun μX μM d a h hda => ?_)
  have m160 := h.1.1.1
  refine loop_lock hU hM hR (LX := fun f μ x => f_X8_sum_b12 (f_scc_X8_either dX) f σ μ (z + 4) (nI op) x) (LM := fun g μ => f_X11_sum_b9 (f_scc_X11_any dM) g σM μ (z + 27)) (Sg := fun s => s = 43 ∨ s = 45) (cd := fun s => if s = 43 then -16 else -17) (fun s hs => ?_) (fun s => Classical.em _) (fun f μX i a hk hi q => ?_) (fun f μX i a hk q => ?_) (fun g μX μM op d a h q => ?_) (fun g μX μM op d a h q => ?_) (m - a) 0 fu fu μX μM d a (Nat.le_refl _) (by unfold fu; omega) (by unfold fu; omega) (Nat.zero_le _) h hda
  · rcases hs with e | e
    · subst e
      exact ⟨by decide, by decide, by rw [if_pos rfl]; exact Or.inr (Or.inr (Or.inr (Or.inr (Or.inl rfl))))⟩
    · subst e
      exact ⟨by decide, by decide, by rw [if_neg (by decide)]; exact Or.inr (Or.inr (Or.inr (Or.inr (Or.inr (Or.inl rfl)))))⟩
  · show (if nI 160 ≤ nI i then _ else _) = _
    rw [if_neg (nI_ge hi (by decide)), hk, Option.bind_some]
    unfold f_X8_sum_b37
    rw [hk, Option.bind_some, Option.bind_some, tc_4 hU, nI_1]
    rcases q with q | q
    · rw [if_pos q]
      rfl
    · rw [if_neg (by rw [q]; decide), if_pos q]
      rfl
  · show (if nI 160 ≤ nI i then _ else _) = _
    by_cases c : nI 160 ≤ nI i
    · rw [if_pos c]
    · rw [if_neg c, hk, Option.bind_some, if_neg (fun r => q (Or.inl r)), Option.bind_some, if_neg (fun r => q (Or.inr r))]
  · show oC σM 11 (z + 27) _ = _
    rw [c_27 hM, show f_X11_is_ σM μM (z + 27) 43 = _ from h.iss hM (s := 43) (by decide) (by decide) (by decide), show f_X11_is_ σM μM (z + 27) 45 = _ from h.iss hM (s := 45) (by decide) (by decide) (by decide), Option.bind_some, Option.bind_some, Option.bind_some]
    unfold f_X11_sum_b43
    rw [c_27 hM, c_27 hM]
    by_cases q3 : kT p m a = 43
    · rw [if_pos (show kT p m a = nI 43 from q3), if_neg n10, if_neg n10, if_pos q3]
      rfl
    · have q5 : kT p m a = 45 := q.resolve_left q3
      rw [if_neg (show ¬ kT p m a = nI 43 from q3), if_pos rfl, if_pos (show kT p m a = nI 45 from q5), if_neg n10, if_pos rfl, if_neg q3]
      rfl
  · show oC σM 11 (z + 27) _ = _
    rw [c_27 hM, show f_X11_is_ σM μM (z + 27) 43 = _ from h.iss hM (s := 43) (by decide) (by decide) (by decide), show f_X11_is_ σM μM (z + 27) 45 = _ from h.iss hM (s := 45) (by decide) (by decide) (by decide), Option.bind_some, Option.bind_some, if_neg (show ¬ kT p m a = nI 43 from fun r => q (Or.inl r)), if_pos rfl, if_neg (show ¬ kT p m a = nI 45 from fun r => q (Or.inr r)), if_pos rfl]
/-- a comparison; the reference reads it within not() -/
def cmpM (σ : th_S) (z dM : Nat) : th_M → Option (Int32 × th_M) := fun μ => b2 (gM σ z dM 3 μ) fun v2 μ3 =>
    if v2 = 0 then (
      some (0, μ3)
    ) else (
      (f_X11_is_ σ μ3 (z + 27) 60).bind fun v4 =>
      if v4 = 0 then (
        (f_X11_is_ σ μ3 (z + 27) 61).bind fun v5 =>
        if v5 = 0 then (
          some (1, μ3)
        ) else (
          (f_X11_is_ σ μ3 (z + 27) 60).bind fun v6 =>
          if v6 = 0 then (
            f_X11_not_b103 (f_scc_X11_any dM) σ μ3 (z + 27) (-15)
          ) else (
            f_X11_not_b103 (f_scc_X11_any dM) σ μ3 (z + 27) (-14)
          )
        )
      ) else (
        (f_X11_is_ σ μ3 (z + 27) 60).bind fun v7 =>
        if v7 = 0 then (
          f_X11_not_b103 (f_scc_X11_any dM) σ μ3 (z + 27) (-15)
        ) else (
          f_X11_not_b103 (f_scc_X11_any dM) σ μ3 (z + 27) (-14)
        )
      )
    )
theorem cmp_lock (hU : XT σ z) (hM : SX σM z) (hR : SPp z m p nt μX0 μM0 (gX σ z dX 4 op) (gM σM z dM 3) op 3) : SPp z m p nt μX0 μM0 (gX σ z (dX + 1) 3 op) (cmpM σM z dM) op 2 := by
  have eX : gX σ z (dX + 1) 3 op = fun μ => b2 (gX σ z dX 4 op μ) fun v1 μ2 => if v1 = 0 then some (0, μ2) else ((oI σ μ2 8 (z + 4) 7).bind fun v3 => if v3 = 60 then f_X8_compared_b29 (f_scc_X8_either dX) σ μ2 (z + 4) (nI op) v3 else if v3 = 61 then f_X8_compared_b29 (f_scc_X8_either dX) σ μ2 (z + 4) (nI op) v3 else some (1, μ2)) := by
    funext μ
    show oC σ 8 (z + 4) _ = _
    rw [tc_4 hU]
    rfl
  rw [eX]
  refine level_lock (LX := fun μ2 => (oI σ μ2 8 (z + 4) 7).bind fun v3 => if v3 = 60 then f_X8_compared_b29 (f_scc_X8_either dX) σ μ2 (z + 4) (nI op) v3 else if v3 = 61 then f_X8_compared_b29 (f_scc_X8_either dX) σ μ2 (z + 4) (nI op) v3 else some (1, μ2)) hR (fun μX μM d a h hda => ?_)
  have fin : ∀ {s c : Int32}, s ≠ -1 → kT p m a = s → (-1) - s = tk c → bin c → SPq z m p nt μX0 μM0 μM op d a 2 1 1 (f_X8_compared_b29 (f_scc_X8_either dX) σ μX (z + 4) (nI op) s) (f_X11_not_b103 (f_scc_X11_any dM) σM μM (z + 27) c) := by
    intro s c hs hk h1 h2
    unfold f_X8_compared_b29 f_X11_not_b103
    rw [tc_4 hU, c_27 hM]
    exact body_lock hU hM hR (KX := fun μ => some (1, μ)) (KM := fun μ => some (1, μ)) h1 h2 h hda (kT_end (by rw [hk]; exact hs)) (fun u w d' a' h' h1 h2 h3 => SPq.go h3 ⟨1, u, w, op, d', a', rfl, rfl, h', Or.inr ⟨rfl, GO.refl w⟩⟩)
  show SPq z m p nt μX0 μM0 μM op d a 2 1 1 ((oI σ μX 8 (z + 4) 7).bind _) _
  rw [h.kx hU, Option.bind_some, show f_X11_is_ σM μM (z + 27) 60 = _ from h.iss hM (s := 60) (by decide) (by decide) (by decide), show f_X11_is_ σM μM (z + 27) 61 = _ from h.iss hM (s := 61) (by decide) (by decide) (by decide), Option.bind_some, Option.bind_some, Option.bind_some]
  by_cases q3 : kT p m a = 60
  · rw [if_pos q3, if_pos (show kT p m a = nI 60 from q3), if_neg n10, if_neg n10]
    rw [q3]
    exact fin (by decide) q3 (by decide) (Or.inr (Or.inr (Or.inl rfl)))
  · rw [if_neg q3, if_neg (show ¬ kT p m a = nI 60 from q3), if_pos rfl]
    by_cases q5 : kT p m a = 61
    · rw [if_pos q5, if_pos (show kT p m a = nI 61 from q5), if_neg n10, if_pos rfl]
      rw [q5]
      exact fin (by decide) q5 (by decide) (Or.inr (Or.inr (Or.inr (Or.inl rfl))))
    · rw [if_neg q5, if_neg (show ¬ kT p m a = nI 61 from q5), if_pos rfl]
      exact ⟨1, μX, μM, op, d, a, rfl, rfl, h, Or.inr ⟨rfl, GO.refl μM⟩⟩
end GR
