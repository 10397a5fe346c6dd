section GT
variable {z : Nat} {σ σM : th_S} {m a d op nt dX dM : Nat} {p : Nat → Int32} {μ μ' μX μM μX0 μM0 : th_M}
theorem SPq.bad (h : PP z m p nt μX0 μM0 μX μM op d a) {lv e0 e1 : Nat} {μ2 : th_M} {op2 d2 a2 : Nat} : SPq z m p nt μX0 μM0 μ2 op2 d2 a2 lv e0 e1 (some (0, μX)) (some (0, μM)) := ⟨0, μX, μM, op, d, a, rfl, rfl, h, Or.inl rfl⟩
theorem denied_lock (hU : XT σ z) (hM : SX σM z) (hop : op ≤ 5) (hC : SPp z m p nt μX0 μM0 (gX σ z (dX + 1) 3 op) (cmpM σM z dM) op 2) (hD : op < 5 → SPp z m p nt μX0 μM0 (gX σ z (dX + 1) 2 (op + 1)) (gM σM z dM 2) (op + 1) 2) :
    SPp z m p nt μX0 μM0 (gX σ z (dX + 2) 2 op) (gM σM z (dM + 1) 2) op 2 := by
  intro μX μM d a h hda
  show SPq z m p nt μX0 μM0 μM op d a 2 0 1 (fb_X8_denied (f_scc_X8_either (dX + 1)) σ μX (z + 4) (nI op)) (fb_X11_not (f_scc_X11_any dM) σM μM (z + 27))
  unfold fb_X8_denied fb_X11_not
  rw [h.kx hU, Option.bind_some, c_27 hM, show f_X11_is σM μM (z + 27) 12 = _ from h.is hM (w := 11) (by decide), Option.bind_some]
  by_cases k : kT p m a = 11
  · have ham := kT_end (p := p) (m := m) (a := a) (by rw [k]; decide)
    have m160 := h.1.1.1
    have l := eT_le (p := p) (a := a) (m := m) (by omega)
    have l2 := aN_le (p := p) (a := a) (m := m) (by omega)
    have m26 : μM (z + 27) 26 = nI op := h.2.1.2.2.2.2.2.2.1
    rw [if_pos k, if_pos (show kT p m a = nI 11 from k), if_neg n10, i_27 hM, Option.bind_some, m26]
    by_cases o5 : op < 5
    · rw [if_pos (show nI op < 5 from (nI_lt o5 (by decide) : nI op < nI 5)), if_neg (show ¬ nI op = 5 from fun q => by have := (nI_eq (by omega) (by decide) : nI op = nI 5 ↔ op = 5).mp q; omega), tc_4 hU, Option.bind_some, p_27 hM, Option.bind_some, nI_1]
      obtain ⟨u1, w1, a1, a2, a3, a4⟩ := step_lock hU hM (h.opn (op + 1))
      rw [a1, a2, Option.bind_some, Option.bind_some]
      obtain ⟨v, u2, w2, op2, d2, a2', b1, b2', b3, b4⟩ := hD o5 u1 w1 d (aN p m a) a3 (by omega)
      rw [show f_scc_X8_either (dX + 1) 2 σ u1 (z + 4) (nI (op + 1)) = _ from b1, show f_scc_X11_any dM 2 σM w1 (z + 27) = _ from b2', b2s, b2s]
      rcases b4 with e | ⟨e, g1, g2, g3, g4, g5⟩
      · subst e
        rw [if_pos rfl, if_pos rfl]
        exact SPq.bad b3
      · subst e
        subst g1
        have ham2 := b3.2.2.2.2.1
        have m26' : w2 (z + 27) 26 = nI (op + 1) := b3.2.1.2.2.2.2.2.2.1
        rw [if_neg n10, if_neg n10, i_27 hM, Option.bind_some, m26', nI_pred, p_27 hM, Option.bind_some]
        obtain ⟨u3, w3, c1, c2, c3, c4, c5⟩ := emit_lock hU hM (b3.opn op) (by omega) (-13) 11 (by decide)
        rw [c1, c2, Option.bind_some, Option.bind_some]
        refine ⟨1, u3, w3, op, d2 + 1, a2', rfl, rfl, c3, Or.inr ⟨rfl, rfl, by omega, by omega, fun i hi => ?_, fun h hh => ?_⟩⟩
        · rw [c4 i (by omega), C9_op, g4 i hi]
          unfold C9
          rw [a4, th_w_ne _ _ (by omega)]
        · rw [show d2 + 1 - d = (d2 - d) + 1 by omega]
          refine hq_app (d2 - d) 1 d h (h + 1) (h + 1) (hq_ext _ _ _ _ (fun j h1 h2 => by rw [c4 j (by omega), C9_op]) (g5 h (by omega))) ?_
          rw [show d + (d2 - d) = d2 by omega]
          exact hq_un (by rw [c5]; exact Or.inl rfl) (by omega)
    · rw [if_neg (show ¬ nI op < 5 from (nI_nlt (by omega) (by omega) : ¬ nI op < nI 5)), if_pos (show nI op = 5 by rw [show op = 5 by omega]; rfl)]
      exact SPq.bad h
  · rw [if_neg k, if_neg (show ¬ kT p m a = nI 11 from k), if_pos rfl, tc_4 hU]
    obtain ⟨v, u, w, op', d', a', h1, h2, h3, h4⟩ := hC μX μM d a h hda
    refine ⟨v, u, w, op', d', a', ?_, h2, h3, h4⟩
    rw [show f_scc_X8_either (dX + 1) 3 σ μX (z + 4) (nI op) = _ from h1, b2s]
    unfold oG
    rw [if_pos (by rcases h4 with e | ⟨e, -⟩ <;> rw [e] <;> decide)]
theorem m_name_hit (hM : SX σM z) (h : PP z m p nt μX0 μM0 μX μM op d a) {w : Nat} (hw : w < 6) (hk : kT p m a = nI w) : f_X11_name σM μM (z + 27) = some (nI (w + 1)) := by
  have i0 := h.is hM (w := 0) (by decide)
  have i1 := h.is hM (w := 1) (by decide)
  have i2 := h.is hM (w := 2) (by decide)
  have i3 := h.is hM (w := 3) (by decide)
  have i4 := h.is hM (w := 4) (by decide)
  have i5 := h.is hM (w := 5) (by decide)
  unfold f_X11_name
  rw [c_27 hM, show f_X11_is σM μM (z + 27) 1 = _ from i0, show f_X11_is σM μM (z + 27) 2 = _ from i1, show f_X11_is σM μM (z + 27) 3 = _ from i2, show f_X11_is σM μM (z + 27) 4 = _ from i3, show f_X11_is σM μM (z + 27) 5 = _ from i4, show f_X11_is σM μM (z + 27) 6 = _ from i5, hk]
  rcases (by omega : w = 0 ∨ w = 1 ∨ w = 2 ∨ w = 3 ∨ w = 4 ∨ w = 5) with e | e | e | e | e | e <;> subst e <;> rfl
theorem m_name_no (hM : SX σM z) (h : PP z m p nt μX0 μM0 μX μM op d a) (hk : ∀ w, w < 6 → ¬ kT p m a = nI w) : f_X11_name σM μM (z + 27) = some 0 := by
  have i0 := h.is hM (w := 0) (by decide)
  have i1 := h.is hM (w := 1) (by decide)
  have i2 := h.is hM (w := 2) (by decide)
  have i3 := h.is hM (w := 3) (by decide)
  have i4 := h.is hM (w := 4) (by decide)
  have i5 := h.is hM (w := 5) (by decide)
  rw [if_neg (hk 0 (by decide))] at i0
  rw [if_neg (hk 1 (by decide))] at i1
  rw [if_neg (hk 2 (by decide))] at i2
  rw [if_neg (hk 3 (by decide))] at i3
  rw [if_neg (hk 4 (by decide))] at i4
  rw [if_neg (hk 5 (by decide))] at i5
  unfold f_X11_name
  rw [c_27 hM, show f_X11_is σM μM (z + 27) 1 = _ from i0, show f_X11_is σM μM (z + 27) 2 = _ from i1, show f_X11_is σM μM (z + 27) 3 = _ from i2, show f_X11_is σM μM (z + 27) 4 = _ from i3, show f_X11_is σM μM (z + 27) 5 = _ from i4, show f_X11_is σM μM (z + 27) 6 = _ from i5]
  rfl
theorem nm_tk : ∀ w, w < 6 → (-1) - nI w = tk (-(nI (w + 1))) ∧ (-7 : Int32) < -(nI (w + 1)) ∧ tkOk (-(nI (w + 1))) := by
  intro w hw
  rcases (by omega : w = 0 ∨ w = 1 ∨ w = 2 ∨ w = 3 ∨ w = 4 ∨ w = 5) with e | e | e | e | e | e <;> subst e
  all_goals exact ⟨by decide, by decide, Or.inr (Or.inl (by decide))⟩
/-- what is put down, and the next in hand -/
theorem one_put (hU : XT σ z) (hM : SX σM z) (hop : op ≤ 5) (h : PP z m p nt μX0 μM0 μX μM op d a) (hda : d ≤ a) (ham : a < m) {v w : Int32} (hw : w = tk v) (hv : tkOk v) (hv7 : (-7 : Int32) < v) :
    SPq z m p nt μX0 μM0 μM op d a 5 0 1 ((f_X8_put σ μX (z + 4) w).bind fun μ3 => (f_X8_step σ μ3 (z + 4)).bind fun μ4 => some (1, μ4)) ((f_X11_put σM μM (z + 27) v).bind fun μ3 => (f_X11_next σM μ3 (z + 27)).bind fun μ4 => some (1, μ4)) := by
  have m160 := h.1.1.1
  have l := eT_le (p := p) (a := a) (m := m) (by omega)
  have l2 := aN_le (p := p) (a := a) (m := m) (by omega)
  obtain ⟨u1, w1, a1, a2, a3, a4, a5⟩ := put_lock hU hM h (by omega) v w hw
  obtain ⟨u2, w2, b1, b2', b3, b4⟩ := step_lock hU hM a3
  rw [a1, a2, Option.bind_some, Option.bind_some, b1, b2', Option.bind_some, Option.bind_some]
  have e9 : ∀ i, C9 z nt w2 i = C9 z nt w1 i := fun i => by unfold C9; rw [b4]
  refine ⟨1, u2, w2, op, d + 1, aN p m a, rfl, rfl, b3, Or.inr ⟨rfl, rfl, by omega, by omega, fun i hi => by rw [e9, a4 i hi], fun h hh => ?_⟩⟩
  rw [show d + 1 - d = 1 by omega]
  exact hq_push (by rw [e9, a5]; exact hv) (by rw [e9, a5]; exact hv7) (by omega)
theorem single_lock (hU : XT σ z) (hM : SX σM z) (hop : op ≤ 5) (h6 : op < 5 → SPp z m p nt μX0 μM0 (gX σ z dX 6 (op + 1)) (gM σM z dM 5) (op + 1) 5) (h0 : op < 5 → SPp z m p nt μX0 μM0 (gX σ z dX 0 (op + 1)) (gM σM z dM 0) (op + 1) 0) :
    SPp z m p nt μX0 μM0 (gX σ z (dX + 1) 6 op) (gM σM z (dM + 1) 5) op 5 := by
  intro μX μM d a h hda
  show SPq z m p nt μX0 μM0 μM op d a 5 0 1 (fb_X8_single (f_scc_X8_either dX) σ μX (z + 4) (nI op)) (fb_X11_one (f_scc_X11_any dM) σM μM (z + 27))
  have m24 : μM (z + 27) 24 = sT p m a := h.2.1.2.2.2.1
  have m26 : μM (z + 27) 26 = nI op := h.2.1.2.2.2.2.2.2.1
  unfold fb_X8_single fb_X11_one
  rw [h.kx hU, i_27 hM, m24]
  simp only [Option.bind_some]
  by_cases k12 : kT p m a = 12
  · have ham := kT_end (p := p) (m := m) (a := a) (by rw [k12]; decide)
    have s1 := kT_num.mp k12
    have v0 := h.num k12
    rw [if_pos k12, if_pos s1, ti_4 hU, Option.bind_some, h.1.2.2.2.2.1 k12, i_27 hM, Option.bind_some, h.2.1.2.2.2.2.1 s1, tc_4 hU, c_27 hM]
    exact one_put hU hM hop h hda ham (tk_num v0).1.symm (Or.inl v0) (by
      rw [Int32.le_iff_toInt_le, Int32.toInt_zero] at v0
      rw [Int32.lt_iff_toInt_lt, show (-7 : Int32).toInt = -7 from by decide]
      omega)
  · rw [if_neg k12, if_neg (fun q => k12 (kT_num.mpr q)), c_27 hM]
    by_cases kn : ∃ w, w < 6 ∧ kT p m a = nI w
    · obtain ⟨w, hw, hk⟩ := kn
      have ham := kT_end (p := p) (m := m) (a := a) (by rw [hk]; exact fun q => by have := nI_pos (n := w) (by omega); rw [q] at this; exact this (by decide))
      obtain ⟨t1, t2, t3⟩ := nm_tk w hw
      rw [m_name_hit hM h hw hk, Option.bind_some, if_neg (nI_nle (by omega) (by omega)), hk, if_neg (nI_pos (by omega)), if_neg (show ¬ (6 : Int32) ≤ nI w from (nI_ge hw (by decide) : ¬ nI 6 ≤ nI w)), tc_4 hU]
      unfold f_X8_emit
      rw [tc_4 hU]
      have := one_put hU hM hop h hda ham t1 t3 t2
      obtain ⟨v, u, w', op', d', a', x1, x2, x3, x4⟩ := this
      refine ⟨v, u, w', op', d', a', ?_, x2, x3, x4⟩
      rw [← x1]
      cases f_X8_put σ μX (z + 4) ((-1) - nI w) with
      | none => rfl
      | some q => rfl
    · have no : ∀ w, w < 6 → ¬ kT p m a = nI w := fun w hw q => kn ⟨w, hw, q⟩
      rw [m_name_no hM h no, Option.bind_some, if_pos (show (0 : Int32) ≤ 0 from Int32.le_refl _)]
      have xb : ∀ {α : Type} (x y : α), (if kT p m a < 0 then x else (if 6 ≤ kT p m a then x else y)) = x := fun x y => by
        rcases h.rng with e | e | ⟨k, hk, e⟩
        · rw [if_pos (by rw [e]; decide)]
        · rw [if_pos (by rw [e]; decide)]
        · by_cases q : kT p m a < 0
          · rw [if_pos q]
          · rw [if_neg q]
            have k6 : 6 ≤ k := by
              by_cases r : 6 ≤ k
              · exact r
              · exact absurd e (no k (by omega))
            rw [if_pos (by rw [e]; exact (nI_le k6 (by omega) : nI 6 ≤ nI k))]
      rw [xb]
      unfold f_X8_single_b53
      have is45 : f_X11_is_ σM μM (z + 27) 45 = _ := h.iss hM (s := 45) (by decide) (by decide) (by decide)
      have is40 : f_X11_is_ σM μM (z + 27) 40 = _ := h.iss hM (s := 40) (by decide) (by decide) (by decide)
      rw [is45, is40, i_27 hM, m26, h.kx hU]
      simp only [Option.bind_some]
      by_cases o5 : op < 5
      · have n5 : ¬ nI op = 5 := fun q => by have := (nI_eq (by omega) (by decide) : nI op = nI 5 ↔ op = 5).mp q; omega
        rw [if_pos (show nI op < 5 from (nI_lt o5 (by decide) : nI op < nI 5))]
        have m160 := h.1.1.1
        by_cases k45 : kT p m a = 45
        · have ham := kT_end (p := p) (m := m) (a := a) (by rw [k45]; decide)
          have l := eT_le (p := p) (a := a) (m := m) (by omega)
          have l2 := aN_le (p := p) (a := a) (m := m) (by omega)
          rw [if_pos k45, if_pos (show kT p m a = nI 45 from k45), if_neg n10, if_neg n5, tc_4 hU, p_27 hM, Option.bind_some, nI_1]
          obtain ⟨u1, w1, a1, a2, a3, a4⟩ := step_lock hU hM (h.opn (op + 1))
          rw [a1, a2, Option.bind_some, Option.bind_some]
          obtain ⟨v, u2, w2, op2, d2, a2', b1, b2', b3, b4⟩ := h6 o5 u1 w1 d (aN p m a) a3 (by omega)
          rw [show f_scc_X8_either dX 6 σ u1 (z + 4) (nI (op + 1)) = _ from b1, show f_scc_X11_any dM 5 σM w1 (z + 27) = _ from b2', b2s, b2s]
          rcases b4 with e | ⟨e, g1, g2, g3, g4, g5⟩
          · subst e
            rw [if_pos rfl, if_pos rfl]
            exact SPq.bad b3
          · subst e
            subst g1
            have ham2 := b3.2.2.2.2.1
            have m26' : w2 (z + 27) 26 = nI (op + 1) := b3.2.1.2.2.2.2.2.2.1
            rw [if_neg n10, if_neg n10, i_27 hM, Option.bind_some, m26', nI_pred, p_27 hM, Option.bind_some]
            obtain ⟨u3, w3, c1, c2, c3, c4, c5⟩ := emit_lock hU hM (b3.opn op) (by omega) (-19) 13 (by decide)
            rw [c1, c2, Option.bind_some, Option.bind_some]
            refine ⟨1, u3, w3, op, d2 + 1, a2', rfl, rfl, c3, Or.inr ⟨rfl, rfl, by omega, by omega, fun i hi => ?_, fun h hh => ?_⟩⟩
            · rw [c4 i (by omega), C9_op, g4 i hi]
              unfold C9
              rw [a4, th_w_ne _ _ (by omega)]
            · rw [show d2 + 1 - d = (d2 - d) + 1 by omega]
              refine hq_app (d2 - d) 1 d h (h + 1) (h + 1) (hq_ext _ _ _ _ (fun j h1 h2 => by rw [c4 j (by omega), C9_op]) (g5 h (by omega))) ?_
              rw [show d + (d2 - d) = d2 by omega]
              exact hq_un (by rw [c5]; exact Or.inr rfl) (by omega)
        · rw [if_neg k45, if_neg (show ¬ kT p m a = nI 45 from k45), if_pos rfl]
          by_cases k40 : kT p m a = 40
          · have ham := kT_end (p := p) (m := m) (a := a) (by rw [k40]; decide)
            have l := eT_le (p := p) (a := a) (m := m) (by omega)
            have l2 := aN_le (p := p) (a := a) (m := m) (by omega)
            rw [if_pos k40, if_pos (show kT p m a = nI 40 from k40), if_neg n10, if_neg n5, tc_4 hU, p_27 hM, Option.bind_some, nI_1]
            obtain ⟨u1, w1, a1, a2, a3, a4⟩ := step_lock hU hM (h.opn (op + 1))
            rw [a1, a2, Option.bind_some, Option.bind_some]
            obtain ⟨v, u2, w2, op2, d2, a2', b1, b2', b3, b4⟩ := h0 o5 u1 w1 d (aN p m a) a3 (by omega)
            rw [show f_scc_X8_either dX 0 σ u1 (z + 4) (nI (op + 1)) = _ from b1, show f_scc_X11_any dM 0 σM w1 (z + 27) = _ from b2', b2s, b2s]
            rcases b4 with e | ⟨e, g1, g2, g3, g4, g5⟩
            · subst e
              rw [if_pos rfl, if_pos rfl]
              exact SPq.bad b3
            · subst e
              subst g1
              have ham2 := b3.2.2.2.2.1
              have m26' : w2 (z + 27) 26 = nI (op + 1) := b3.2.1.2.2.2.2.2.2.1
              unfold f_X8_skip
              rw [if_neg n10, if_neg n10, b3.kx hU, Option.bind_some, show f_X11_is_ σM w2 (z + 27) 41 = _ from b3.iss hM (s := 41) (by decide) (by decide) (by decide), Option.bind_some]
              by_cases k41 : kT p m a2' = 41
              · have ham3 := kT_end (p := p) (m := m) (a := a2') (by rw [k41]; decide)
                have l3 := eT_le (p := p) (a := a2') (m := m) (by omega)
                have l4 := aN_le (p := p) (a := a2') (m := m) (by omega)
                rw [if_pos k41, if_pos (show kT p m a2' = nI 41 from k41), if_neg n10, tc_4 hU, i_27 hM, Option.bind_some, m26', nI_pred, p_27 hM, Option.bind_some]
                obtain ⟨u3, w3, c1, c2, c3, c4⟩ := step_lock hU hM (b3.opn op)
                rw [c1, c2, Option.bind_some, Option.bind_some, b2s, if_neg n10]
                have e9 : ∀ i, C9 z nt w3 i = C9 z nt w2 i := fun i => by unfold C9; rw [c4, th_w_ne _ _ (by omega)]
                refine ⟨1, u3, w3, op, d2, aN p m a2', rfl, rfl, c3, Or.inr ⟨rfl, rfl, by omega, by omega, fun i hi => ?_, fun h hh => ?_⟩⟩
                · rw [e9, g4 i hi]
                  unfold C9
                  rw [a4, th_w_ne _ _ (by omega)]
                · exact hq_ext _ _ _ _ (fun j h1 h2 => e9 j) (g5 h (by omega))
              · rw [if_neg k41, if_neg (show ¬ kT p m a2' = nI 41 from k41), if_pos rfl, b2s, if_pos rfl]
                exact SPq.bad b3
          · rw [if_neg k40, if_neg (show ¬ kT p m a = nI 40 from k40), if_pos rfl]
            exact SPq.bad h
      · have e5 : nI op = 5 := by rw [show op = 5 by omega]; rfl
        rw [if_neg (show ¬ nI op < 5 from (nI_nlt (by omega) (by omega) : ¬ nI op < nI 5))]
        by_cases k45 : kT p m a = 45
        · rw [if_pos (show kT p m a = nI 45 from k45), if_neg n10, if_pos e5]
          exact SPq.bad h
        · rw [if_neg (show ¬ kT p m a = nI 45 from k45), if_pos rfl]
          by_cases k40 : kT p m a = 40
          · rw [if_pos (show kT p m a = nI 40 from k40), if_neg n10, if_pos e5]
            exact SPq.bad h
          · rw [if_neg (show ¬ kT p m a = nI 40 from k40), if_pos rfl]
            exact SPq.bad h
/-- all parts, from the deepest on -/
theorem gram_all (hU : XT σ z) (hM : SX σM z) : ∀ r op, op + r = 5 → ∀ dX dM, 7 * r + 8 ≤ dX → 6 * r + 7 ≤ dM →
    SPp z m p nt μX0 μM0 (gX σ z dX 0 op) (gM σM z dM 0) op 0 ∧ SPp z m p nt μX0 μM0 (gX σ z dX 2 op) (gM σM z dM 2) op 2 ∧ SPp z m p nt μX0 μM0 (gX σ z dX 6 op) (gM σM z dM 5) op 5 := by
  intro r
  have lev : ∀ r op, op + r = 5 → (op < 5 → ∀ dX dM, 7 * (r - 1) + 8 ≤ dX → 6 * (r - 1) + 7 ≤ dM →
      SPp z m p nt μX0 μM0 (gX σ z dX 0 (op + 1)) (gM σM z dM 0) (op + 1) 0 ∧ SPp z m p nt μX0 μM0 (gX σ z dX 2 (op + 1)) (gM σM z dM 2) (op + 1) 2 ∧ SPp z m p nt μX0 μM0 (gX σ z dX 6 (op + 1)) (gM σM z dM 5) (op + 1) 5) →
      ∀ dX dM, 7 * r + 8 ≤ dX → 6 * r + 7 ≤ dM →
      SPp z m p nt μX0 μM0 (gX σ z dX 0 op) (gM σM z dM 0) op 0 ∧ SPp z m p nt μX0 μM0 (gX σ z dX 2 op) (gM σM z dM 2) op 2 ∧ SPp z m p nt μX0 μM0 (gX σ z dX 6 op) (gM σM z dM 5) op 5 := by
    intro r op hr ih
    have sg : ∀ dX dM, 7 * r + 2 ≤ dX → 6 * r + 2 ≤ dM → SPp z m p nt μX0 μM0 (gX σ z dX 6 op) (gM σM z dM 5) op 5 := by
      intro dX dM h1 h2
      obtain ⟨dX, rfl⟩ : ∃ d', dX = d' + 1 := ⟨dX - 1, by omega⟩
      obtain ⟨dM, rfl⟩ : ∃ d', dM = d' + 1 := ⟨dM - 1, by omega⟩
      exact single_lock hU hM (by omega) (fun o5 => (ih o5 dX dM (by omega) (by omega)).2.2) (fun o5 => (ih o5 dX dM (by omega) (by omega)).1)
    have pd : ∀ dX dM, 7 * r + 3 ≤ dX → 6 * r + 3 ≤ dM → SPp z m p nt μX0 μM0 (gX σ z dX 5 op) (gM σM z dM 4) op 4 := by
      intro dX dM h1 h2
      obtain ⟨dX, rfl⟩ : ∃ d', dX = d' + 1 := ⟨dX - 1, by omega⟩
      obtain ⟨dM, rfl⟩ : ∃ d', dM = d' + 1 := ⟨dM - 1, by omega⟩
      exact prod_lock hU hM (sg dX dM (by omega) (by omega))
    have sm : ∀ dX dM, 7 * r + 4 ≤ dX → 6 * r + 4 ≤ dM → SPp z m p nt μX0 μM0 (gX σ z dX 4 op) (gM σM z dM 3) op 3 := by
      intro dX dM h1 h2
      obtain ⟨dX, rfl⟩ : ∃ d', dX = d' + 1 := ⟨dX - 1, by omega⟩
      obtain ⟨dM, rfl⟩ : ∃ d', dM = d' + 1 := ⟨dM - 1, by omega⟩
      exact sum_lock hU hM (pd dX dM (by omega) (by omega))
    have dn : ∀ dX dM, 7 * r + 6 ≤ dX → 6 * r + 5 ≤ dM → SPp z m p nt μX0 μM0 (gX σ z dX 2 op) (gM σM z dM 2) op 2 := by
      intro dX dM h1 h2
      obtain ⟨dX, rfl⟩ : ∃ d', dX = d' + 2 := ⟨dX - 2, by omega⟩
      obtain ⟨dM, rfl⟩ : ∃ d', dM = d' + 1 := ⟨dM - 1, by omega⟩
      exact denied_lock hU hM (by omega) (cmp_lock hU hM (sm dX dM (by omega) (by omega))) (fun o5 => (ih o5 (dX + 1) dM (by omega) (by omega)).2.1)
    intro dX dM h1 h2
    refine ⟨?_, dn dX dM (by omega) (by omega), sg dX dM (by omega) (by omega)⟩
    obtain ⟨dX, rfl⟩ : ∃ d', dX = d' + 1 + 1 := ⟨dX - 2, by omega⟩
    obtain ⟨dM, rfl⟩ : ∃ d', dM = d' + 1 + 1 := ⟨dM - 2, by omega⟩
    exact either_lock hU hM (both_lock hU hM (dn dX dM (by omega) (by omega)))
  induction r with
  | zero =>
    intro op hr
    exact lev 0 op hr (fun o => absurd hr (by omega))
  | succ r ih =>
    intro op hr
    exact lev (r + 1) op hr (fun _ dX dM h1 h2 => ih (op + 1) (by omega) dX dM (by omega) (by omega))
theorem any_lock (hU : XT σ z) (hM : SX σM z) : SPp z m p nt μX0 μM0 (gX σ z 64 0 0) (gM σM z 64 0) 0 0 := (gram_all hU hM 5 0 rfl 64 64 (by decide) (by decide)).1
end GT
