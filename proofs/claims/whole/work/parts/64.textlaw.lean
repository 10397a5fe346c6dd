section TL
variable {z : Nat} {σ σ' : th_S} {Z Y : th_M} {B U ω : Nat → Nat} {n nt b t e2 : Nat} {μ μ' μX μM A A' A2 : th_M} {K : Nat → Int32}
/-- what holds between two calls of the law -/
def GI (z : Nat) (σ : th_S) (μ : th_M) : Prop := ∃ A B U ω n nt Z Y, JX z σ Z B U ω n nt μ A ∧ JM z Y μ A ∧ μ (z + 13) = μ (z + 42)
def txA (z : Nat) (w A : th_M) : th_M := fun q k => if q = 0 then (if k = 15 then w (z + 27) 15 else if k = 17 then w (z + 27) 17 else A 0 k) else if q = 9 then w (z + 36) k else if q = 10 then w (z + 37) k else A q k
theorem JM.txt (m : JM z Y μ A) {u w : th_M} (hu : ∀ p, p ≤ 20 → u (z + (27 + p)) = μ (z + (27 + p))) (hw : ∀ q, q ≠ z + 27 → q ≠ z + 36 → q ≠ z + 37 → w q = u q) (h0 : ∀ k, k ≠ 15 → k ≠ 17 → ¬ scr 0 k → w (z + 27) k = u (z + 27) k) : JM z u w (txA z w A) := by
  refine ⟨fun q k hq hs => ?_, fun q hq => hw q (by omega) (by omega) (by omega)⟩
  unfold txA
  by_cases c0 : q = 0
  · subst c0
    rw [if_pos rfl]
    by_cases c1 : k = 15
    · rw [if_pos c1, c1]
    · rw [if_neg c1]
      by_cases c2 : k = 17
      · rw [if_pos c2, c2]
      · rw [if_neg c2, ← m.1 0 k hq hs, ← hu 0 (by decide)]
        exact h0 k c1 c2 hs
  · rw [if_neg c0]
    by_cases c9 : q = 9
    · rw [if_pos c9, c9]
    · rw [if_neg c9]
      by_cases c10 : q = 10
      · rw [if_pos c10, c10]
      · rw [if_neg c10, hw _ (by omega) (by omega) (by omega), hu q hq]
        exact m.1 q k hq hs
theorem GI.mk {w0 w : th_M} (h : JX z σ Z B U ω n nt w0 A) (m : JM z Y w A) (e : ∀ q, (q < z + 27 ∨ z + 48 ≤ q) → w q = w0 q) (o : w (z + 13) = w (z + 42)) : GI z σ w := ⟨A, B, U, ω, n, nt, _, Y, h.mm e, m, o⟩
theorem JX.tp0 (h : JX z σ Z B U ω n nt μ A) : JX z σ Z B U ω n nt (th_w μ (z + 4) 1 0) (th_w A 0 15 0) := by
  have o := h.sh.wz 4 (by decide) (by decide)
  refine h.tape (fun q hq _ => th_w_ne _ _ (fun c => hq (by rw [c]; exact o))) (fun p h1 h2 => th_w_ne _ _ h1) (fun k hk _ => by rw [th_w_hit, if_neg hk]) ⟨0, by decide, ?_, ?_, fun i hi => absurd hi (Nat.not_lt_zero _)⟩
  · rw [th_w_self]; rfl
  · rw [th_w_self]; rfl
theorem text_law (h : JX z σ Z B U ω n nt μ A) (m : JM z Y μ A) (o : μ (z + 13) = μ (z + 42)) : ∃ v σ' u w, f_X10_text σ μ z = some (v, σ', u) ∧ f_X11_text σ' u (z + 27) = some (v, w) ∧ GI z σ' w := by
  have S := h.sh
  have hU := S.sx
  have z48 := hU.2.2.2
  have t6 := S.t6
  obtain ⟨mt, hm, e15, x1, xb⟩ := h.tp
  have E : XE z mt (A 8) μ := ⟨hm, x1, xb⟩
  by_cases c6 : nt < 6
  · have F : ME z mt (A 8) μ := ⟨hm, by rw [jm_0_15 m]; exact e15, fun i hi => ⟨by rw [jm_8 m], (xb i hi).2⟩⟩
    have n17 : μ (z + 27) 17 = nI nt := by rw [jm_0_17 m]; exact h.at
    obtain ⟨v, u0, w0, r1, -, rf, rr⟩ := parse_lock (nt := nt) hU.xT hU E F (by omega) n17
    obtain ⟨f1, f2, -⟩ := rf
    have sc0 : JX z σ Z B U ω n nt u0 A := by
      refine h.sc (fun q h1 h2 => f1 q (fun c => h2 (by rw [c]; exact S.wz 4 (by decide) (by decide))) (fun c => h1 (by rw [c, S.wz 6 (by decide) (by decide)]; exact Or.inl rfl)) (fun c => h1 (by rw [c, S.wz 7 (by decide) (by decide)]; exact Or.inr (Or.inl rfl)))) (f2 1 (by decide))
    have hX0 : ∀ g : Int32 → th_M → Option (Int32 × th_S × th_M), (b2 (f_X8_read σ μ (z + 4)) g) = g v u0 := fun g => by rw [r1, b2s]
    rcases rr with ⟨ev, e0, e1, e2, G⟩ | ⟨a, ha, ev, -⟩
    · subst ev
      obtain ⟨g1, g2, g3, g4, g5, g6, g7, -⟩ := G
      obtain ⟨σ1, u1, q1, F1, k1, k2, k3, k4, k5, k6, k7, k8, -⟩ := x_ruleRead (σ := σ) (μ := u0) hU.xT (by omega) g3 g4
      have S1 := S.newT c6 g3 (fun q hq => ⟨(F1 q hq).1, (F1 q hq).2.1, (F1 q hq).2.2.1⟩) k1 k2 k3 k4 k5 k6
      have hU1 := S1.sx
      have u07 : u0 z 7 = nI nt := sc0.xt
      have u17 : u1 z 7 = nI nt := by rw [(F1 z (by omega)).2.2.2]; exact u07
      have sq : oSQ σ1 14 (z + 8) (nI nt) σ.2.2.2 = some (th_wR σ1 (z + 8) nt σ.2.2.2) := by
        unfold oSQ
        rw [if_pos ⟨by rw [(F1 (z + 8) (by omega)).1]; exact sk_8 hU, by rw [k1]; rfl, by rw [(F1 (z + 8) (by omega)).2.1, sl_8 hU]; exact nI_in c6 (by decide)⟩, nI_clamp (by omega)]
      let u : th_M := th_w (th_w u1 z 7 (nI (nt + 1))) (z + 4) 1 0
      have uq : ∀ q, q < σ.2.2.2 → q ≠ z → q ≠ z + 4 → q ≠ z + 6 → q ≠ z + 7 → u q = μ q := fun q hq h1 h2 h3 h4 => by
        show th_w (th_w u1 z 7 (nI (nt + 1))) (z + 4) 1 0 q = _
        rw [th_w_ne _ _ h2, th_w_ne _ _ h1, (F1 q hq).2.2.2, f1 q h2 h3 h4]
      have uz7 : u z 7 = nI (nt + 1) := by
        show th_w (th_w u1 z 7 (nI (nt + 1))) (z + 4) 1 0 z 7 = _
        rw [th_w_ne _ _ (by omega), th_w_self]
      have hX : f_X10_text σ μ z = some (nI nt, th_wR σ1 (z + 8) nt σ.2.2.2, u) := by
        unfold f_X10_text
        rw [i_0 hU, Option.bind_some, h.xt, if_pos (show nI nt < 6 from (nI_lt c6 (by decide) : nI nt < nI 6)), r_0_5 hU, Option.bind_some, c_4 hU, hX0, if_pos rfl, r_0_6 hU, Option.bind_some, i_0 hU, Option.bind_some, u07, Option.bind_some, c_4 hU, q1, b3s, sq, Option.bind_some, i_0 hU1, Option.bind_some, u17, p_0 hU1, Option.bind_some, nI_1]
        unfold f_X10_text_b51 f_X8_empty
        rw [r_0_5 hU1, Option.bind_some, c_4 hU1, p_4 hU1, Option.bind_some, Option.bind_some, if_pos rfl, i_0 hU1, Option.bind_some]
        show some (u z 7 - 1, _, u) = _
        rw [uz7, nI_pred]
      have F' : ME z mt (A 8) u := F.fr (uq _ (by omega) (by omega) (by omega) (by omega) (by omega)) (by rw [uq (z + 27) (by omega) (by omega) (by omega) (by omega) (by omega)])
      obtain ⟨v', u0', w1, r1', r2', rf', rr'⟩ := parse_lock (nt := nt) hU.xT hU1 E F' (by omega) (by rw [uq (z + 27) (by omega) (by omega) (by omega) (by omega) (by omega)]; exact n17)
      rw [r1] at r1'
      have ee := Option.some.inj r1'
      have ev : v' = -1 := (congrArg Prod.fst ee).symm
      have eu : u0' = u0 := (congrArg Prod.snd ee).symm
      subst ev
      subst eu
      rcases rr' with ⟨-, e0', e1', e2', G'⟩ | ⟨a, ha, ev, -⟩
      · obtain ⟨l1, l2, l3, l4, l5, l6, l7, l8, l9, l10, l11, l12, l13, l14, l15⟩ := G'
        have ee2 : e2' = e2 := by
          rw [g4] at l4
          exact ((nI_eq (by omega) (by omega)).mp l4).symm
        subst ee2
        obtain ⟨-, -, y1, y2, y3, y4⟩ := rf'
        have w17 : w1 (z + 27) 17 = nI nt := by rw [y2 17 (by decide), uq (z + 27) (by omega) (by omega) (by omega) (by omega) (by omega)]; exact n17
        let w : th_M := th_w (th_w (th_w w1 (z + 27) 15 0) (z + 37) (4 * nt + 3) (nI e2')) (z + 27) 17 (nI (nt + 1))
        have w36 : w (z + 36) = w1 (z + 36) := by
          show th_w (th_w (th_w w1 (z + 27) 15 0) (z + 37) (4 * nt + 3) (nI e2')) (z + 27) 17 (nI (nt + 1)) (z + 36) = _
          rw [th_w_ne _ _ (by omega), th_w_ne _ _ (by omega), th_w_ne _ _ (by omega)]
        have w37 : ∀ j, w (z + 37) j = if j = 4 * nt + 3 then nI e2' else w1 (z + 37) j := fun j => by
          show th_w (th_w (th_w w1 (z + 27) 15 0) (z + 37) (4 * nt + 3) (nI e2')) (z + 27) 17 (nI (nt + 1)) (z + 37) j = _
          rw [th_w_ne _ _ (show z + 37 ≠ z + 27 by omega), th_w_hit, th_w_ne _ _ (show z + 37 ≠ z + 27 by omega)]
        have w27 : ∀ j, w (z + 27) j = if j = 17 then nI (nt + 1) else if j = 15 then 0 else w1 (z + 27) j := fun j => by
          show th_w (th_w (th_w w1 (z + 27) 15 0) (z + 37) (4 * nt + 3) (nI e2')) (z + 27) 17 (nI (nt + 1)) (z + 27) j = _
          rw [th_w_hit, th_w_ne _ _ (show z + 27 ≠ z + 37 by omega), th_w_hit]
        have wq : ∀ q, q ≠ z + 27 → q ≠ z + 36 → q ≠ z + 37 → w q = u q := fun q h1 h2 h3 => by
          show th_w (th_w (th_w w1 (z + 27) 15 0) (z + 37) (4 * nt + 3) (nI e2')) (z + 27) 17 (nI (nt + 1)) q = _
          rw [th_w_ne _ _ h1, th_w_ne _ _ h3, th_w_ne _ _ h1, y1 q h1 h2 h3]
        have hMt : f_X11_text (th_wR σ1 (z + 8) nt σ.2.2.2) u (z + 27) = some (nI nt, w) := by
          rw [r2', if_pos rfl]
          unfold f_X11_text_b73
          rw [p_27 hU1, Option.bind_some, if_neg n10, r_27_20 hU1, Option.bind_some, i_27 hU1, Option.bind_some, i_27 hU1, Option.bind_some, th_w_hit, if_neg (by decide), w17, th_w_hit, if_neg (by decide), l8, show (4 : Int32) * nI nt + 3 = nI (4 * nt + 3) by rw [show (4 : Int32) = nI 4 from rfl, nI_mul]; exact nI_add _ 3, s_37 hU1 (by omega), Option.bind_some, i_27 hU1, Option.bind_some, th_w_ne _ _ (show z + 27 ≠ z + 37 by omega), th_w_hit, if_neg (by decide), w17, nI_1, p_27 hU1, Option.bind_some]
        have mm := m.txt (u := u) (w := w) (fun p hp => uq _ (by omega) (by omega) (by omega) (by omega) (by omega)) wq (fun k k1 k2 ks => by
          rw [w27, if_neg k2, if_neg k1]
          unfold scr at ks
          exact y2 k (by omega))
        -- the class's side
        let A1 : th_M := fun q k => if q = 9 then w (z + 36) k else if q = 10 then w (z + 37) k else A q k
        have a1n : ∀ p, p ≠ 9 → p ≠ 10 → A1 p = A p := fun p h1 h2 => by
          funext k
          show (if p = 9 then _ else if p = 10 then _ else A p k) = _
          rw [if_neg h1, if_neg h2]
        have a19 : ∀ k, A1 9 k = w1 (z + 36) k := fun k => by
          show (if 9 = 9 then w (z + 36) k else _) = _
          rw [if_pos rfl, w36]
        have a110 : ∀ k, A1 10 k = w (z + 37) k := fun k => by
          show (if 10 = 9 then _ else if 10 = 10 then w (z + 37) k else _) = _
          rw [if_neg (by decide), if_pos rfl]
        have h1 : JX z σ Z B U ω n nt u0' A1 := sc0.acd a1n (fun j hj => by rw [a19, y3 j (by omega), uq (z + 36) (by omega) (by omega) (by omega) (by omega) (by omega), jm_9 m]) (fun j hj => by rw [a110, w37, if_neg (by omega), y4 j (by omega), uq (z + 37) (by omega) (by omega) (by omega) (by omega) (by omega), jm_10 m])
        have c9 : C9 z nt w1 = fun i => A1 9 (170 * nt + i) := by
          funext i
          rw [a19]; rfl
        rw [c9] at l13 l14 l15
        have h2 := h1.newT (A' := th_w A1 0 17 (nI (nt + 1))) c6 g3 F1 k1 k2 k3 k4 k5 k6 (th_w_self _ _ _ _) (fun j hj => by rw [th_w_hit, if_neg hj]) (fun p hp => th_w_ne _ _ hp) ⟨e0', e1', l1, l2, by rw [k8]; exact l5, by rw [k8]; exact l6, by rw [k8]; exact l7, by rw [a110, w37, if_neg (by omega)]; exact l9, by rw [a110, w37, if_neg (by omega)]; exact l10, by rw [a110, w37, if_neg (by omega)]; exact l11, by rw [a110, w37, if_pos rfl], fun i hi => by rw [k7, l12 i hi, c9], hq_hg _ _ _ l13, hq_hg _ _ _ l14, hq_hg _ _ _ l15⟩
        have h3 := h2.tp0
        have eA : th_w (th_w A1 0 17 (nI (nt + 1))) 0 15 0 = txA z w A := by
          funext q k
          unfold txA
          by_cases c0 : q = 0
          · subst c0
            have v15 : w (z + 27) 15 = 0 := by rw [w27, if_neg (by decide), if_pos rfl]
            have v17 : w (z + 27) 17 = nI (nt + 1) := by rw [w27, if_pos rfl]
            rw [if_pos rfl, v15, v17, th_w_hit, th_w_hit, a1n 0 (by decide) (by decide)]
          · rw [if_neg c0, th_w_ne _ _ c0, th_w_ne _ _ c0]
        rw [eA] at h3
        refine ⟨nI nt, _, u, w, hX, hMt, GI.mk h3 mm (fun q hq => wq q (by omega) (by omega) (by omega)) ?_⟩
        rw [wq _ (by omega) (by omega) (by omega), wq _ (by omega) (by omega) (by omega), uq _ (by omega) (by omega) (by omega) (by omega) (by omega), uq _ (by omega) (by omega) (by omega) (by omega) (by omega)]
        exact o
      · exact absurd (by rw [← ev]; decide) (nI_pos (n := a) (by omega))
    · have nv : ¬ v = -1 := fun q => by rw [ev] at q; have := nI_pos (n := a) (by omega); rw [q] at this; exact this (by decide)
      let u : th_M := th_w u0 (z + 4) 1 0
      have uq : ∀ q, q ≠ z + 4 → q ≠ z + 6 → q ≠ z + 7 → u q = μ q := fun q h2 h3 h4 => by
        show th_w u0 (z + 4) 1 0 q = _
        rw [th_w_ne _ _ h2, f1 q h2 h3 h4]
      have hX : f_X10_text σ μ z = some ((-100) - v, σ, u) := by
        unfold f_X10_text
        rw [i_0 hU, Option.bind_some, h.xt, if_pos (show nI nt < 6 from (nI_lt c6 (by decide) : nI nt < nI 6)), r_0_5 hU, Option.bind_some, c_4 hU, hX0, if_neg nv]
        unfold f_X10_text_b51 f_X8_empty
        rw [r_0_5 hU, Option.bind_some, c_4 hU, p_4 hU, Option.bind_some, Option.bind_some, if_neg nv]
      have F' : ME z mt (A 8) u := F.fr (uq _ (by omega) (by omega) (by omega)) (by rw [uq (z + 27) (by omega) (by omega) (by omega)])
      obtain ⟨v', u0', w1, r1', r2', rf', rr'⟩ := parse_lock (nt := nt) hU.xT hU E F' (by omega) (by rw [uq (z + 27) (by omega) (by omega) (by omega)]; exact n17)
      rw [r1] at r1'
      have ee := Option.some.inj r1'
      have ev' : v' = v := (congrArg Prod.fst ee).symm
      subst ev'
      obtain ⟨-, -, y1, y2, y3, y4⟩ := rf'
      rcases rr' with ⟨q, -⟩ | ⟨a', ha', ev2, w23⟩
      · exact absurd q nv
      · let w : th_M := th_w w1 (z + 27) 15 0
        have wq : ∀ q, q ≠ z + 27 → q ≠ z + 36 → q ≠ z + 37 → w q = u q := fun q h1 h2 h3 => by
          show th_w w1 (z + 27) 15 0 q = _
          rw [th_w_ne _ _ h1, y1 q h1 h2 h3]
        have w36 : w (z + 36) = w1 (z + 36) := th_w_ne _ _ (by omega)
        have w37 : w (z + 37) = w1 (z + 37) := th_w_ne _ _ (by omega)
        have w27 : ∀ j, w (z + 27) j = if j = 15 then 0 else w1 (z + 27) j := fun j => th_w_hit _ _ _ _ _
        have hMt : f_X11_text σ u (z + 27) = some ((-100) - v', w) := by
          rw [r2', if_neg nv]
          unfold f_X11_text_b73
          rw [p_27 hU, Option.bind_some, if_pos rfl, i_27 hU, Option.bind_some, th_w_hit, if_neg (by decide), w23, ev2]
        have mm := m.txt (u := u) (w := w) (fun p hp => uq _ (by omega) (by omega) (by omega)) wq (fun k k1 k2 ks => by
          rw [w27, if_neg k1]
          unfold scr at ks
          exact y2 k (by omega))
        have h2 := sc0.tp0
        have w17 : w (z + 27) 17 = A 0 17 := by rw [w27, if_neg (by decide), y2 17 (by decide), uq _ (by omega) (by omega) (by omega), jm_0_17 m]
        have h3 : JX z σ Z B U ω n nt u (txA z w A) := by
          refine JX.acd h2 (fun p h9 h10 => ?_) (fun j hj => ?_) (fun j hj => ?_)
          · funext k
            unfold txA
            by_cases c0 : p = 0
            · subst c0
              rw [if_pos rfl, th_w_hit, w27, if_pos rfl]
              by_cases c1 : k = 15
              · rw [if_pos c1, if_pos c1]
              · rw [if_neg c1, if_neg c1]
                by_cases c2 : k = 17
                · rw [if_pos c2, c2]; exact w17
                · rw [if_neg c2]
            · rw [if_neg c0, if_neg h9, if_neg h10, th_w_ne _ _ c0]
          · unfold txA
            rw [if_neg (by decide), if_pos rfl, w36, y3 j (by omega), uq _ (by omega) (by omega) (by omega), jm_9 m, th_w_ne _ _ (by decide)]
          · unfold txA
            rw [if_neg (by decide), if_neg (by decide), if_pos rfl, w37, y4 j (by omega), uq _ (by omega) (by omega) (by omega), jm_10 m, th_w_ne _ _ (by decide)]
        refine ⟨(-100) - v', σ, u, w, hX, hMt, GI.mk h3 mm (fun q hq => wq q (by omega) (by omega) (by omega)) ?_⟩
        rw [wq _ (by omega) (by omega) (by omega), wq _ (by omega) (by omega) (by omega), uq _ (by omega) (by omega) (by omega), uq _ (by omega) (by omega) (by omega)]
        exact o
  · have e6 : nt = 6 := by omega
    refine ⟨-4, σ, μ, μ, ?_, ?_, A, B, U, ω, n, nt, Z, Y, h, m, o⟩
    · unfold f_X10_text
      rw [i_0 hU, Option.bind_some, h.xt, if_neg (show ¬ nI nt < 6 from (nI_nlt (by omega) (by omega) : ¬ nI nt < nI 6))]
    · unfold f_X11_text
      rw [i_27 hU, Option.bind_some, jm_0_17 m, h.at, if_pos (by rw [e6]; rfl)]
end TL
