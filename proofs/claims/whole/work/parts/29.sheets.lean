section SF
variable {z : Nat} {σ : th_S} {Z Y : th_M} {B U ω : Nat → Nat} {n nt b t : Nat} {μ μ' μX μM A A' A2 : th_M}
theorem s_cases (x : Int32) : (∃ i, i < 4 ∧ x = nI i ∧ f_X10_isSheet x = some 1 ∧ f_X11_within x 0 3 = some 1) ∨ (f_X10_isSheet x = some 0 ∧ f_X11_within x 0 3 = some 0) := by
  rw [x_isS, m_within]
  by_cases c : 0 ≤ x ∧ x ≤ 3
  · rw [if_pos c]
    obtain ⟨i, hi, e⟩ : rg x 3 := rg_in c (by decide) (by decide)
    exact Or.inl ⟨i, by omega, e, rfl, rfl⟩
  · rw [if_neg c]; exact Or.inr ⟨rfl, rfl⟩
theorem JX.sq (h : JX z σ Z B U ω n nt μ A) {i q k : Nat} (hk : k < 48) (hk2 : k < 23 ∨ 27 ≤ k) (e : ω q ≠ k) : q ≠ z + k := fun c => e (by rw [c, h.sh.wz k hk hk2])
theorem x_miss (h : JX z σ Z B U ω n nt μX A) {i : Nat} (hi : i < 4) : f_X6_isMissing σ μX (z + (15 + 2 * i)) = some (if A 17 i = -1 then 1 else 0) := by
  unfold f_X6_isMissing
  rw [sh_i h.sh.sx hi, Option.bind_some, (h.st i hi).1]
  by_cases c : A 17 i = -1
  · rw [if_pos c, if_pos c]
  · rw [if_neg c, if_neg c]
theorem sheet_lock (h : JX z σ Z B U ω n nt μX A) (m : JM z Y μM A) (x s k : Int32) : LK z σ Z Y B U ω n nt (f_X10_sheet σ μX z x s k) (f_X11_sheet σ μM (z + 27) x s k) := by
  have S := h.sh
  have hU := S.sx
  unfold f_X10_sheet f_X11_sheet
  rcases s_cases x with ⟨i, hi, rfl, e1, e2⟩ | ⟨e1, e2⟩
  · rw [e1, e2, Option.bind_some, Option.bind_some, if_neg n10, if_neg n10, m_within, Option.bind_some]
    by_cases c : -1 ≤ s ∧ s ≤ 2
    · rw [if_pos c, if_neg n10, if_neg (Int32.not_lt.mpr c.1), if_pos c.2, r_0_11 hU, Option.bind_some, sh_q hU hi, Option.bind_some, sh_c hU hi]
      by_cases d : s = -1
      · rw [if_pos d, if_pos d]
        obtain ⟨μ', p1, p2, p3, p4, p5⟩ := x_become (μ := μX) hU hi s 0
        rw [p1, Option.bind_some, r_27_36 hU, Option.bind_some, s_44 hU hi, Option.bind_some]
        refine ⟨th_w A 17 i (-1), 1, _, _, rfl, rfl, ?_, m.w (p := 17) (by decide)⟩
        refine h.shs hi (fun q q1 q2 => p2 q (h.sq (i := i) (by omega) (by omega) q1) (h.sq (i := i) (by omega) (by omega) q2)) (fun p h1 h2 h3 => th_w_ne _ _ h1) (fun i' h1 h2 => ⟨by rw [th_w_hit, if_neg h2], by rw [th_w_ne _ _ (by decide)], fun _ _ => by rw [th_w_ne _ _ (by decide)]⟩) ⟨by rw [p3, th_w_self, d], Or.inl (th_w_self _ _ _ _)⟩
      · rw [if_neg d, if_neg d]
        by_cases e : k ≤ 40
        · rw [if_pos e, if_pos e]
          by_cases g : 0 ≤ k
          · rw [if_pos g, if_pos g]
            obtain ⟨μ', p1, p2, p3, p4, p5⟩ := x_become (μ := μX) hU hi s k
            rw [Option.bind_some, sh_q hU hi, Option.bind_some, sh_c hU hi, p1, Option.bind_some, r_27_36 hU, Option.bind_some, s_44 hU hi, Option.bind_some, r_27_37 hU, Option.bind_some, s_45 hU hi, Option.bind_some]
            obtain ⟨μ2, q1, q2, q3, q4⟩ := m_sheet_loop hU hi 40 0 fu (th_w (th_w μM (z + 44) i s) (z + 45) i k) (by omega) (by unfold fu; omega)
            have m2 : JM z Y (th_w (th_w μM (z + 44) i s) (z + 45) i k) (th_w (th_w A 17 i s) 18 i k) := (m.w (p := 17) (by decide)).w (p := 18) (by decide)
            have m3 := m2.row (μ' := μ2) (p := 19) (by decide) q2
            have eo : (th_w (th_w μM (z + 44) i s) (z + 45) i k) (z + 46) = A 19 := by
              funext j
              rw [th_w_ne _ _ (by omega), th_w_ne _ _ (by omega), jm_19 m]
            have hs2 : rg s 2 := by
              have c1 := c.1
              have c2 := c.2
              have d' : s.toInt ≠ -1 := fun q => d (Int32.toInt_inj.mp (by rw [q]; decide))
              rw [Int32.le_iff_toInt_le, show (-1 : Int32).toInt = -1 from by decide] at c1
              rw [Int32.le_iff_toInt_le, show (2 : Int32).toInt = 2 from by decide] at c2
              exact rg_of (by omega) (by omega) (by decide)
            obtain ⟨l, hl, el⟩ : rg k 40 := rg_in (lo := 0) ⟨g, e⟩ (by decide) (by decide)
            have q1' : f_X11_sheet_b68 fu σ (th_w (th_w μM (z + 44) i s) (z + 45) i k) (z + 27) (nI i) 0 = some (1, μ2) := q1
            rw [q1']
            refine ⟨_, 1, _, _, rfl, rfl, ?_, m3⟩
            refine h.shs hi (fun q q1 q2 => p2 q (h.sq (i := i) (by omega) (by omega) q1) (h.sq (i := i) (by omega) (by omega) q2)) (fun p h1 h2 h3 => by rw [rowA_ne _ _ h3, th_w_ne _ _ h2, th_w_ne _ _ h1]) (fun i' h1 h2 => ⟨by rw [rowA_ne _ _ (by decide), th_w_ne _ _ (by decide), th_w_hit, if_neg h2], by rw [rowA_ne _ _ (by decide), th_w_hit, if_neg h2, th_w_ne _ _ (by decide)], fun j hj => by rw [rowA_eq, q4 _ (by omega), eo]⟩) ⟨by rw [p3, rowA_ne _ _ (by decide), th_w_ne _ _ (by decide), th_w_self], Or.inr ⟨by rw [rowA_ne _ _ (by decide), th_w_ne _ _ (by decide), th_w_self]; exact hs2, l, hl, by rw [rowA_ne _ _ (by decide), th_w_self, el], by rw [p4, el], fun j hj => by rw [p5 j (by omega), rowA_eq, q3 j (by omega) (by omega)]⟩⟩
          · rw [if_neg g, if_neg g]
            exact (LA.mk h m _).k
        · rw [if_neg e, if_neg e]
          exact (LA.mk h m _).k
    · rw [if_neg c, if_pos (show (0 : Int32) = 0 from rfl)]
      by_cases d : s < -1
      · rw [if_pos d]; exact (LA.mk h m _).k
      · rw [if_neg d, if_neg (fun q => c ⟨Int32.not_lt.mp d, q⟩)]; exact (LA.mk h m _).k
  · rw [e1, e2, Option.bind_some, Option.bind_some, if_pos rfl, if_pos rfl]
    exact (LA.mk h m _).k
/-- a place in a row of so many -/
theorem in_row {x : Int32} {l : Nat} (hl : l ≤ 40) : (0 ≤ x.toInt64 ∧ (0 : Int32) ≤ 1 ∧ x.toInt64 + (1 : Int32).toInt64 ≤ (nI l).toInt64) ↔ (∃ j, j < l ∧ x = nI j) := by
  have a1 : ((1 : Int32).toInt64).toInt = 1 := by decide
  have a2 : ((nI l).toInt64).toInt = l := by rw [Int32.toInt_toInt64, nI_toInt (by omega)]
  have b1 := x.le_toInt
  have b2 := x.toInt_lt
  rw [Int64.le_iff_toInt_le, Int64.le_iff_toInt_le, Int64.toInt_add, a1, a2, Int32.toInt_toInt64, Int64.toInt_zero, Int.bmod_eq_of_le (by omega) (by omega)]
  constructor
  · rintro ⟨h1, -, h3⟩
    exact ⟨x.toInt.toNat, by omega, nI_asI h1⟩
  · rintro ⟨j, hj, rfl⟩
    rw [nI_toInt (by omega)]
    exact ⟨by omega, by decide, by omega⟩
theorem in_m {x : Int32} {l : Nat} (hl : l ≤ 40) : (0 ≤ x ∧ x ≤ nI l - 1) ↔ (∃ j, j < l ∧ x = nI j) := by
  have a2 : (nI l - 1).toInt = (l : Int) - 1 := by
    rw [Int32.toInt_sub, nI_toInt (by omega), show (1 : Int32).toInt = 1 from by decide, Int.bmod_eq_of_le (by omega) (by omega)]
  rw [Int32.le_iff_toInt_le, Int32.le_iff_toInt_le, a2, Int32.toInt_zero]
  constructor
  · rintro ⟨h1, h3⟩
    exact ⟨x.toInt.toNat, by omega, nI_asI h1⟩
  · rintro ⟨j, hj, rfl⟩
    rw [nI_toInt (by omega)]
    exact ⟨by omega, by omega⟩
theorem cell_lock (h : JX z σ Z B U ω n nt μX A) (m : JM z Y μM A) (x y v : Int32) : LK z σ Z Y B U ω n nt (f_X10_cell σ μX z x y v) (f_X11_cell σ μM (z + 27) x y v) := by
  have S := h.sh
  have hU := S.sx
  unfold f_X10_cell f_X11_cell
  rcases s_cases x with ⟨i, hi, rfl, e1, e2⟩ | ⟨e1, e2⟩
  · obtain ⟨s1, s2⟩ := h.st i hi
    rw [e1, e2, Option.bind_some, Option.bind_some, if_neg n10, if_neg n10]
    simp only [r_0_11 hU, Option.bind_some, sh_q hU hi, sh_c hU hi, x_miss h hi, r_27_36 hU, a_44 hU hi, r_27_37 hU, a_45 hU hi, r_27_38 hU, jm_17 m, jm_18 m, m_within]
    by_cases c : A 17 i = -1
    · rw [if_pos c, if_neg n10, if_pos c]
      exact (LA.mk h m _).k
    · rw [if_neg c, if_pos (show (0 : Int32) = 0 from rfl), if_neg c]
      obtain ⟨g1, l, hl, g2, g3, g4⟩ := s2.resolve_left c
      rw [x_has hU hi, Option.bind_some, g3, g2]
      by_cases d : ∃ j, j < l ∧ y = nI j
      · rw [if_pos ((in_row hl).mpr d), if_neg n10, if_pos ((in_m hl).mpr d), if_neg n10]
        obtain ⟨j, hj, rfl⟩ := d
        have wr : ∀ w : Int32, LK z σ Z Y B U ω n nt (some (1, th_w μX (z + (16 + 2 * i)) j w)) (some (1, th_w μM (z + 46) (40 * i + j) w)) := by
          intro w
          refine ⟨th_w A 19 (40 * i + j) w, 1, _, _, rfl, rfl, ?_, m.w (p := 19) (by decide)⟩
          refine h.shs hi (fun q _ q2 => th_w_ne _ _ (h.sq (i := i) (by omega) (by omega) q2)) (fun p h1 h2 h3 => th_w_ne _ _ h3) (fun i' h1 h2 => ⟨by rw [th_w_ne _ _ (by decide)], by rw [th_w_ne _ _ (by decide)], fun k hk => by rw [th_w_hit, if_neg (by omega)]⟩) ⟨by rw [th_w_ne _ _ (by omega), s1, th_w_ne _ _ (by decide)], Or.inr ⟨by rw [th_w_ne _ _ (by decide)]; exact g1, l, hl, by rw [th_w_ne _ _ (by decide)]; exact g2, by rw [th_w_ne _ _ (by omega)]; exact g3, fun k hk => ?_⟩⟩
          rw [th_w_hit, th_w_hit]
          by_cases e : k = j
          · rw [if_pos e, if_pos (by omega)]
          · rw [if_neg e, if_neg (by omega)]; exact g4 k hk
        have o : ∀ w : Int32, oS σ μX (z + (16 + 2 * i)) (nI j) w = some (th_w μX (z + (16 + 2 * i)) j w) := fun w => oS_nI (sh_w hU hi).1 (sh_w hU hi).2 (by decide) (by omega)
        have o2 : ∀ w : Int32, oS σ μM (z + 46) (40 * nI i + nI j) w = some (th_w μM (z + 46) (40 * i + j) w) := fun w => by
          rw [show (40 : Int32) * nI i + nI j = nI (40 * i + j) by rw [show (40 : Int32) = nI 40 from rfl, nI_mul, nI_add]]
          exact s_46 hU (by omega)
        have hx : f_X6_put σ μX (z + (15 + 2 * i)) (nI j) v = if A 17 i = 0 then some (th_w μX (z + (16 + 2 * i)) j v.toInt8.toInt32) else if A 17 i = 1 then some (th_w μX (z + (16 + 2 * i)) j v.toInt16.toInt32) else some (th_w μX (z + (16 + 2 * i)) j v) := by
          unfold f_X6_put
          rw [sh_c hU hi, x_has hU hi, Option.bind_some, g3, if_pos ((in_row hl).mpr ⟨j, hj, rfl⟩), if_neg n10]
          simp only [sh_i hU hi, Option.bind_some, s1, sh_r hU hi, o]
        rw [hx]
        simp only [o2, Option.bind_some]
        by_cases q0 : A 17 i = 0
        · rw [if_pos q0, if_pos q0]; exact wr _
        · rw [if_neg q0, if_neg q0]
          by_cases q1 : A 17 i = 1
          · rw [if_pos q1, if_pos q1]; exact wr _
          · rw [if_neg q1, if_neg q1]; exact wr _
      · rw [if_neg (fun q => d ((in_row hl).mp q)), if_pos (show (0 : Int32) = 0 from rfl), if_neg (fun q => d ((in_m hl).mp q)), if_pos (show (0 : Int32) = 0 from rfl)]
        exact (LA.mk h m _).k
  · rw [e1, e2, Option.bind_some, Option.bind_some, if_pos rfl, if_pos rfl]
    exact (LA.mk h m _).k
end SF
