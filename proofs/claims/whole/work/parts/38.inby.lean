section IB
variable {z : Nat} {σ : th_S} {Z Y : th_M} {B U ω : Nat → Nat} {n nt b t : Nat} {μ μ' μX μM A A' A2 : th_M} {K : Nat → Int32}
theorem inby_loop (x a : Int32) (ha : a = nI (bts (isW A 2) n)) : ∀ k i r f g μX μM, i + k = n → k < f → k < g → JX z σ Z B U ω n nt μX A → JM z Y μM A → LA z σ Z Y B U ω n nt A (f_X10_inBy_b8 f σ μX z (A 0 10 + x) (a ||| r) (nI i)) (f_X11_thunder_b32 g σ μM (z + 27) x (nI (bts (isW A 2) i) ||| r) (nI i)) := by
  intro k
  induction k with
  | zero =>
    intro i r f g μX μM hi hf hg h m
    obtain ⟨f, rfl⟩ : ∃ f', f = f' + 1 := ⟨f - 1, by omega⟩
    obtain ⟨g, rfl⟩ : ∃ g', g = g' + 1 := ⟨g - 1, by omega⟩
    have hU := h.sh.sx
    have e : i = n := by omega
    subst e
    have hX : f_X10_inBy_b8 (f + 1) σ μX z (A 0 10 + x) (a ||| r) (nI i) = some (a ||| r, μX) := by
      show (oI σ μX 10 z 1).bind _ = _
      rw [i_0 hU, Option.bind_some, h.xn, if_pos (Int32.le_refl _)]
    have hM : f_X11_thunder_b32 (g + 1) σ μM (z + 27) x (nI (bts (isW A 2) i) ||| r) (nI i) = some (a ||| r, μM) := by
      show (oI σ μM 11 (z + 27) 0).bind _ = _
      rw [i_27 hU, Option.bind_some, jm_0_0 m, h.nn, if_pos (Int32.le_refl _), ha]
    rw [hX, hM]
    exact LA.mk h m _
  | succ k ih =>
    intro i r f g μX μM hi hf hg h m
    obtain ⟨f, rfl⟩ : ∃ f', f = f' + 1 := ⟨f - 1, by omega⟩
    obtain ⟨g, rfl⟩ : ∃ g', g = g' + 1 := ⟨g - 1, by omega⟩
    have S := h.sh
    have hU := S.sx
    have n7 := S.n7
    have hin : i < n := by omega
    have i7 : i < 7 := by omega
    have nl : ¬ nI n ≤ nI i := nI_ge hin (by omega)
    obtain ⟨v, u, w, a1, a2, a3, a4, a5⟩ := coming_lock h m hin
    have hX : f_X10_inBy_b8 (f + 1) σ μX z (A 0 10 + x) (a ||| r) (nI i) = if v = -1 then f_X10_inBy_b8 f σ u z (A 0 10 + x) (a ||| r) (nI (i + 1)) else if A 0 10 + x < v then f_X10_inBy_b8 f σ u z (A 0 10 + x) (a ||| r) (nI (i + 1)) else f_X10_inBy_b8 f σ u z (A 0 10 + x) (a ||| (r ||| jshl 1 (nI i))) (nI (i + 1)) := by
      show (oI σ μX 10 z 1).bind _ = _
      rw [i_0 hU, Option.bind_some, h.xn, if_neg nl, c_0 hU, a1, b2s, nI_1, Int32.or_assoc]
    have hM : f_X11_thunder_b32 (g + 1) σ μM (z + 27) x (nI (bts (isW A 2) i) ||| r) (nI i) = if A 6 i = 2 then f_X11_thunder_b32 g σ w (z + 27) x ((nI (bts (isW A 2) i) ||| jshl 1 (nI i)) ||| r) (nI (i + 1)) else if v < 0 then f_X11_thunder_b32 g σ w (z + 27) x (nI (bts (isW A 2) i) ||| r) (nI (i + 1)) else if A 0 10 + x < v then f_X11_thunder_b32 g σ w (z + 27) x (nI (bts (isW A 2) i) ||| r) (nI (i + 1)) else f_X11_thunder_b32 g σ w (z + 27) x (nI (bts (isW A 2) i) ||| (r ||| jshl 1 (nI i))) (nI (i + 1)) := by
      show (oI σ μM 11 (z + 27) 0).bind _ = _
      rw [i_27 hU, Option.bind_some, jm_0_0 m, h.nn, if_neg nl, c_27 hU, a2, b2s, r_27_6 hU, Option.bind_some, a_33 hU i7, Option.bind_some, jm_6 a5, i_27 hU, Option.bind_some, jm_0_10 a5, nI_1, Int32.or_assoc, Int32.or_assoc, Int32.or_comm r]
    rw [hX, hM]
    by_cases c : A 6 i = 2
    · have q : v = -1 := by
        rcases a3 with q | ⟨-, q⟩
        · exact q
        · exact absurd c q
      rw [if_pos q, if_pos c, bts_or (P := isW A 2) i7 (by unfold isW; exact decide_eq_true c)]
      exact ih (i + 1) r f g u w (by omega) (by omega) (by omega) a4 a5
    · rw [if_neg c, ← bts_no (P := isW A 2) (i := i) (by unfold isW; rw [decide_eq_true_iff]; exact c)]
      rcases a3 with q | ⟨q, -⟩
      · rw [if_pos q, if_pos (by rw [q]; decide)]
        exact ih (i + 1) r f g u w (by omega) (by omega) (by omega) a4 a5
      · have hv := (rg_lt q (by decide)).1
        have nv : ¬ v = -1 := fun c => by rw [c] at hv; exact absurd hv (by decide)
        rw [if_neg nv, if_neg (Int32.not_lt.mpr hv)]
        by_cases d : A 0 10 + x < v
        · rw [if_pos d, if_pos d]
          exact ih (i + 1) r f g u w (by omega) (by omega) (by omega) a4 a5
        · rw [if_neg d, if_neg d]
          exact ih (i + 1) _ f g u w (by omega) (by omega) (by omega) a4 a5
theorem or0 (x : Int32) : x ||| 0 = x := by simp
theorem inby_lock (h : JX z σ Z B U ω n nt μX A) (m : JM z Y μM A) (x : Int32) : LA z σ Z Y B U ω n nt A (f_X10_inBy σ μX z (A 0 10 + x)) (f_X11_thunder_b32 fu σ μM (z + 27) x 0 0) := by
  have n7 := h.sh.n7
  have hU := h.sh.sx
  unfold f_X10_inBy
  rw [c_0 hU, x_those h, Option.bind_some]
  have := inby_loop x _ rfl n 0 0 fu fu μX μM (Nat.zero_add _) (by unfold fu; omega) (by unfold fu; omega) h m
  rw [or0, or0] at this
  exact this
end IB
