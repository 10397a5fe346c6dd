section SG
variable {z : Nat} {σ : th_S} {Z Y : th_M} {B U ω : Nat → Nat} {n nt b t : Nat} {μ μ' μX μM A A' A2 : th_M}
theorem span_ok {x k : Int32} {l : Nat} (hl : l ≤ 40) : (0 ≤ x.toInt64 ∧ 0 ≤ k ∧ x.toInt64 + k.toInt64 ≤ (nI l).toInt64) ↔ (∃ a c, a + c ≤ l ∧ x = nI a ∧ k = nI c) := by
  have a2 : ((nI l).toInt64).toInt = l := by rw [Int32.toInt_toInt64, nI_toInt (by omega)]
  have b1 := x.le_toInt
  have b2 := x.toInt_lt
  have b3 := k.le_toInt
  have b4 := k.toInt_lt
  rw [Int64.le_iff_toInt_le, Int64.le_iff_toInt_le, Int64.toInt_add, a2, Int32.toInt_toInt64, Int32.toInt_toInt64, Int64.toInt_zero, Int.bmod_eq_of_le (by omega) (by omega), Int32.le_iff_toInt_le, Int32.toInt_zero]
  constructor
  · rintro ⟨h1, h2, h3⟩
    exact ⟨x.toInt.toNat, k.toInt.toNat, by omega, nI_asI h1, nI_asI h2⟩
  · rintro ⟨a, c, hac, rfl, rfl⟩
    rw [nI_toInt (by omega), nI_toInt (by omega)]
    exact ⟨by omega, by omega, by omega⟩
theorem span_m {x k : Int32} {l : Nat} (hl : l ≤ 40) : (0 ≤ x ∧ 0 ≤ k ∧ x.toInt64 + k.toInt64 ≤ (nI l).toInt64) ↔ (∃ a c, a + c ≤ l ∧ x = nI a ∧ k = nI c) := by
  have e : (0 : Int32) ≤ x ↔ 0 ≤ x.toInt64 := by rw [Int32.le_iff_toInt_le, Int64.le_iff_toInt_le, Int32.toInt_toInt64, Int64.toInt_zero, Int32.toInt_zero]
  rw [← span_ok hl, e]
theorem copy_in (hU : SX σ z) {i i' a d c : Nat} (hi : i < 4) (ha : a + c ≤ 40) (x3 x4 : Int32) : ∀ k j f μ, j + k = c → k < f → ∃ μ', f_X11_copy_b117 f σ μ (z + 27) (nI i) (nI a) x3 x4 (nI c) (nI j) = f_X11_copy_b154 fu σ μ' (z + 27) x3 x4 (nI c) 0 ∧ (∀ q, q ≠ z + 47 → μ' q = μ q) ∧ (∀ l, j ≤ l → l < c → μ' (z + 47) l = μ (z + 46) (40 * i + a + l)) ∧ (∀ l, l < j → μ' (z + 47) l = μ (z + 47) l) := by
  intro k
  induction k with
  | zero =>
    intro j f μ hj hf
    obtain ⟨f, rfl⟩ : ∃ f', f = f' + 1 := ⟨f - 1, by omega⟩
    refine ⟨μ, ?_, fun _ _ => rfl, fun l h1 h2 => by omega, fun _ _ => rfl⟩
    show (if nI c ≤ nI j then _ else _) = _
    rw [if_pos (nI_le (by omega) (by omega))]
  | succ k ih =>
    intro j f μ hj hf
    obtain ⟨f, rfl⟩ : ∃ f', f = f' + 1 := ⟨f - 1, by omega⟩
    obtain ⟨μ', p1, p2, p3, p4⟩ := ih (j + 1) f (th_w μ (z + 47) j (μ (z + 46) (40 * i + a + j))) (by omega) (by omega)
    refine ⟨μ', ?_, fun q hq => by rw [p2 q hq, th_w_ne _ _ hq], fun l h1 h2 => ?_, fun l hl => by rw [p4 l (by omega), th_w_hit, if_neg (by omega)]⟩
    · show (if nI c ≤ nI j then _ else _) = _
      rw [if_neg (nI_ge (by omega) (by omega)), r_27_39 hU, Option.bind_some, r_27_38 hU, Option.bind_some, show ((40 : Int32) * nI i + nI a) + nI j = nI (40 * i + a + j) by rw [show (40 : Int32) = nI 40 from rfl, nI_mul, nI_add, nI_add], a_46 hU (by omega), Option.bind_some, s_47 hU (by omega), Option.bind_some, nI_1]
      exact p1
    · by_cases e : l = j
      · subst e; rw [p4 _ (by omega), th_w_self]
      · rw [p3 l (by omega) h2, th_w_ne _ _ (by omega)]
theorem copy_out (hU : SX σ z) {i d c : Nat} (hi : i < 4) (hd : d + c ≤ 40) : ∀ k j f μ, j + k = c → k < f → ∃ μ', f_X11_copy_b154 f σ μ (z + 27) (nI i) (nI d) (nI c) (nI j) = some (nI c, μ') ∧ (∀ q, q ≠ z + 46 → μ' q = μ q) ∧ (∀ l, j ≤ l → l < c → μ' (z + 46) (40 * i + d + l) = μ (z + 47) l) ∧ (∀ l, (l < 40 * i + d + j ∨ 40 * i + d + c ≤ l) → μ' (z + 46) l = μ (z + 46) l) := by
  intro k
  induction k with
  | zero =>
    intro j f μ hj hf
    obtain ⟨f, rfl⟩ : ∃ f', f = f' + 1 := ⟨f - 1, by omega⟩
    refine ⟨μ, ?_, fun _ _ => rfl, fun l h1 h2 => by omega, fun _ _ => rfl⟩
    show (if nI c ≤ nI j then _ else _) = _
    rw [if_pos (nI_le (by omega) (by omega))]
  | succ k ih =>
    intro j f μ hj hf
    obtain ⟨f, rfl⟩ : ∃ f', f = f' + 1 := ⟨f - 1, by omega⟩
    obtain ⟨μ', p1, p2, p3, p4⟩ := ih (j + 1) f (th_w μ (z + 46) (40 * i + d + j) (μ (z + 47) j)) (by omega) (by omega)
    refine ⟨μ', ?_, fun q hq => by rw [p2 q hq, th_w_ne _ _ hq], fun l h1 h2 => ?_, fun l hl => by rw [p4 l (by omega), th_w_hit, if_neg (by omega)]⟩
    · show (if nI c ≤ nI j then _ else _) = _
      rw [if_neg (nI_ge (by omega) (by omega)), r_27_38 hU, Option.bind_some, r_27_39 hU, Option.bind_some, a_47 hU (by omega), Option.bind_some, show ((40 : Int32) * nI i + nI d) + nI j = nI (40 * i + d + j) by rw [show (40 : Int32) = nI 40 from rfl, nI_mul, nI_add, nI_add], s_46 hU (by omega), Option.bind_some, nI_1]
      exact p1
    · by_cases e : l = j
      · subst e; rw [p4 _ (by omega), th_w_self]
      · rw [p3 l (by omega) h2, th_w_ne _ _ (by omega)]
theorem copy_lock (h : JX z σ Z B U ω n nt μX A) (m : JM z Y μM A) (x1 x2 x3 x4 x5 : Int32) : LK z σ Z Y B U ω n nt (f_X10_copy σ μX z x1 x2 x3 x4 x5) (f_X11_copy σ μM (z + 27) x1 x2 x3 x4 x5) := by
  have S := h.sh
  have hU := S.sx
  unfold f_X10_copy f_X11_copy
  rcases s_cases x1 with ⟨i, hi, rfl, e1, e2⟩ | ⟨e1, e2⟩
  · rw [e1, e2, Option.bind_some, Option.bind_some, if_neg n10, if_neg n10]
    rcases s_cases x3 with ⟨j, hj, rfl, e3, e4⟩ | ⟨e3, e4⟩
    · obtain ⟨s1, s2⟩ := h.st i hi
      obtain ⟨t1, t2⟩ := h.st j hj
      rw [e3, e4, Option.bind_some, Option.bind_some, if_neg n10, if_neg n10]
      simp only [r_0_11 hU, Option.bind_some, sh_q hU hi, sh_q hU hj, sh_c hU hi, sh_c hU hj, x_miss h hi, x_miss h hj, sh_i hU hi, sh_i hU hj, s1, t1, r_27_36 hU, a_44 hU hi, a_44 hU hj, r_27_37 hU, a_45 hU hi, a_45 hU hj, jm_17 m, jm_18 m]
      by_cases c : A 17 i = -1
      · rw [if_pos c, if_neg n10, if_pos c]
        exact (LA.mk h m _).k
      · rw [if_neg c, if_pos (show (0 : Int32) = 0 from rfl), if_neg c]
        by_cases d : A 17 j = -1
        · rw [if_pos d, if_neg n10, if_pos d]
          exact (LA.mk h m _).k
        · rw [if_neg d, if_pos (show (0 : Int32) = 0 from rfl), if_neg d]
          by_cases e : A 17 i = A 17 j
          · rw [if_pos e, if_pos e]
            obtain ⟨g1, l, hl, g2, g3, g4⟩ := s2.resolve_left c
            obtain ⟨k1, l2, hl2, k2, k3, k4⟩ := t2.resolve_left d
            rw [x_has hU hi, x_has hU hj, Option.bind_some, Option.bind_some, g3, k3, g2, k2]
            simp only [(lg_lt _ _).2.1, (lg_lt _ _).2.2]
            by_cases P : ∃ a c, a + c ≤ l ∧ x2 = nI a ∧ x5 = nI c
            · by_cases Q : ∃ a c, a + c ≤ l2 ∧ x4 = nI a ∧ x5 = nI c
              · have pm := (span_m hl).mpr P
                have qm := (span_m hl2).mpr Q
                rw [if_pos ((span_ok hl).mpr P), if_neg n10, if_pos ((span_ok hl2).mpr Q), if_neg n10, if_neg (Int32.not_lt.mpr pm.1), if_neg (Int32.not_lt.mpr qm.1), if_neg (Int32.not_lt.mpr pm.2.1), if_neg (Int64.not_lt.mpr pm.2.2), if_pos qm.2.2]
                obtain ⟨a, c', hac, rfl, rfl⟩ := P
                obtain ⟨d', c'', hdc, rfl, ec⟩ := Q
                have ec : c'' = c' := by
                  have := (nI_eq (a := c') (b := c'') (by omega) (by omega)).mp ec
                  omega
                subst ec
                obtain ⟨u1, p1, p2, p3, p4⟩ := copy_in hU (i' := j) (d := d') (a := a) (c := c'') hi (by omega) (nI j) (nI d') c'' 0 fu μM (by omega) (by unfold fu; omega)
                obtain ⟨u2, q1, q2, q3, q4⟩ := copy_out hU (d := d') (c := c'') hj (by omega) c'' 0 fu u1 (by omega) (by unfold fu; omega)
                have p1' : f_X11_copy_b117 fu σ μM (z + 27) (nI i) (nI a) (nI j) (nI d') (nI c'') 0 = f_X11_copy_b154 fu σ u1 (z + 27) (nI j) (nI d') (nI c'') 0 := p1
                have q1' : f_X11_copy_b154 fu σ u1 (z + 27) (nI j) (nI d') (nI c'') 0 = some (nI c'', u2) := q1
                rw [p1', q1', sh_r hU hi, Option.bind_some, sh_r hU hj, Option.bind_some]
                have m1 : JM z Y u1 A := m.sc (fun q _ _ _ _ _ q6 => p2 q q6)
                have m2 := m1.row (μ' := u2) (p := 19) (by decide) q2
                have i19 : u1 (z + 46) = A 19 := by funext k; rw [jm_19 m1]
                have hx : oX σ μX (z + (16 + 2 * i)) (nI a) (z + (16 + 2 * j)) (nI d') (nI c'') = some (va_up μX (z + (16 + 2 * j)) (va_cpy (μX (z + (16 + 2 * i))) (μX (z + (16 + 2 * j))) a d' c'')) := by
                  unfold oX
                  rw [nI_clamp (by omega), nI_clamp (by omega), nI_clamp (by omega), if_pos ⟨(sh_w hU hi).1, (sh_w hU hj).1, nI_pos (by omega), nI_pos (by omega), nI_pos (by omega), by rw [(sh_w hU hi).2]; omega, by rw [(sh_w hU hj).2]; omega⟩]
                rw [hx, Option.bind_some]
                refine ⟨_, nI c'', _, _, rfl, rfl, ?_, m2⟩
                have vn : ∀ q, q ≠ z + (16 + 2 * j) → va_up μX (z + (16 + 2 * j)) (va_cpy (μX (z + (16 + 2 * i))) (μX (z + (16 + 2 * j))) a d' c'') q = μX q := fun q hq => by unfold va_up; rw [if_neg hq]
                have vs : va_up μX (z + (16 + 2 * j)) (va_cpy (μX (z + (16 + 2 * i))) (μX (z + (16 + 2 * j))) a d' c'') (z + (16 + 2 * j)) = va_cpy (μX (z + (16 + 2 * i))) (μX (z + (16 + 2 * j))) a d' c'' := by unfold va_up; rw [if_pos rfl]
                refine h.shs hj (fun q _ q2 => vn q (h.sq (i := j) (by omega) (by omega) q2)) (fun p h1 h2 h3 => rowA_ne _ _ h3) (fun i' h1 h2 => ⟨by rw [rowA_ne _ _ (by decide)], by rw [rowA_ne _ _ (by decide)], fun k hk => by rw [rowA_eq, q4 _ (by omega), i19]⟩) ⟨by rw [vn _ (by omega), t1, rowA_ne _ _ (by decide)], Or.inr ⟨by rw [rowA_ne _ _ (by decide)]; exact k1, l2, hl2, by rw [rowA_ne _ _ (by decide)]; exact k2, by rw [vn _ (by omega)]; exact k3, fun k hk => ?_⟩⟩
                rw [vs, rowA_eq]
                unfold va_cpy
                by_cases r : d' ≤ k ∧ k < d' + c''
                · rw [if_pos r, g4 _ (by omega), show 40 * j + k = 40 * j + d' + (k - d') by omega, q3 (k - d') (by omega) (by omega), p3 (k - d') (by omega) (by omega), jm_19 m]
                  congr 1
                  omega
                · rw [if_neg r, k4 k hk, q4 _ (by omega), i19]
              · have qn : ¬ (0 ≤ x4.toInt64 ∧ 0 ≤ x5 ∧ x4.toInt64 + x5.toInt64 ≤ (nI l2).toInt64) := fun q => Q ((span_ok hl2).mp q)
                have pm := (span_m hl).mpr P
                rw [if_pos ((span_ok hl).mpr P), if_neg n10, if_neg qn, if_pos (show (0 : Int32) = 0 from rfl), if_neg (Int32.not_lt.mpr pm.1)]
                by_cases v : x4 < 0
                · rw [if_pos v]; exact (LA.mk h m _).k
                · rw [if_neg v, if_neg (Int32.not_lt.mpr pm.2.1), if_neg (Int64.not_lt.mpr pm.2.2), if_neg (fun w => Q ((span_m hl2).mp ⟨Int32.not_lt.mp v, pm.2.1, w⟩))]
                  exact (LA.mk h m _).k
            · have pn : ¬ (0 ≤ x2.toInt64 ∧ 0 ≤ x5 ∧ x2.toInt64 + x5.toInt64 ≤ (nI l).toInt64) := fun q => P ((span_ok hl).mp q)
              rw [if_neg pn, if_pos (show (0 : Int32) = 0 from rfl)]
              by_cases v : x2 < 0
              · rw [if_pos v]; exact (LA.mk h m _).k
              · rw [if_neg v]
                by_cases v2 : x4 < 0
                · rw [if_pos v2]; exact (LA.mk h m _).k
                · rw [if_neg v2]
                  by_cases v3 : x5 < 0
                  · rw [if_pos v3]; exact (LA.mk h m _).k
                  · rw [if_neg v3, if_pos (Int64.not_le.mp (fun w => P ((span_m hl).mp ⟨Int32.not_lt.mp v, Int32.not_lt.mp v3, w⟩)))]
                    exact (LA.mk h m _).k
          · rw [if_neg e, if_neg e]
            exact (LA.mk h m _).k
    · rw [e3, e4, Option.bind_some, Option.bind_some, if_pos (show (0 : Int32) = 0 from rfl), if_pos (show (0 : Int32) = 0 from rfl)]
      exact (LA.mk h m _).k
  · rw [e1, e2, Option.bind_some, Option.bind_some, if_pos (show (0 : Int32) = 0 from rfl), if_pos (show (0 : Int32) = 0 from rfl)]
    exact (LA.mk h m _).k
end SG
