section ST
variable {z : Nat} {σ : th_S} {Z Y : th_M} {B U ω : Nat → Nat} {n nt b t : Nat} {μ μ' μX μM A A' A2 : th_M}
theorem rg_in {v lo : Int32} {hi : Nat} (h : lo ≤ v ∧ v ≤ nI hi) (h0 : 0 ≤ lo) (hh : hi < 2 ^ 31) : rg v hi := by
  obtain ⟨h1, h2⟩ := h
  rw [Int32.le_iff_toInt_le] at h1 h2 h0
  rw [show (0 : Int32).toInt = 0 from by decide] at h0
  rw [nI_toInt hh] at h2
  exact rg_of (by omega) h2 hh
theorem fit_0 (v : Int32) : f_X10_fits σ μ 0 v = some (if 0 ≤ v ∧ v ≤ 47 then 1 else 0) := by
  unfold f_X10_fits
  rw [show oZ th_least 0 = some 0 from by decide +kernel, show oZ th_most 0 = some 47 from by decide +kernel, Option.bind_some, Option.bind_some]
  exact m_within v 0 47
theorem ms_0 (y v : Int32) : f_X11_set σ μ t 0 y v = oC σ 11 t ((f_X11_isBoat σ μ t y).bind fun v2 => if v2 = 0 then some (-2, μ) else f_X11_set_b113 σ μ t 0 y v 0 47) := by
  simp [f_X11_set, f_X11_set_b26, f_X11_set_b88, m_within]
theorem fit_1 (v : Int32) : f_X10_fits σ μ 1 v = some (if 0 ≤ v ∧ v ≤ 999 then 1 else 0) := by
  unfold f_X10_fits
  rw [show oZ th_least 1 = some 0 from by decide +kernel, show oZ th_most 1 = some 999 from by decide +kernel, Option.bind_some, Option.bind_some]
  exact m_within v 0 999
theorem ms_1 (y v : Int32) : f_X11_set σ μ t 1 y v = oC σ 11 t ((f_X11_isBoat σ μ t y).bind fun v2 => if v2 = 0 then some (-2, μ) else f_X11_set_b113 σ μ t 1 y v 0 999) := by
  simp [f_X11_set, f_X11_set_b26, f_X11_set_b88, m_within]
theorem fit_2 (v : Int32) : f_X10_fits σ μ 2 v = some (if 5 ≤ v ∧ v ≤ 240 then 1 else 0) := by
  unfold f_X10_fits
  rw [show oZ th_least 2 = some 5 from by decide +kernel, show oZ th_most 2 = some 240 from by decide +kernel, Option.bind_some, Option.bind_some]
  exact m_within v 5 240
theorem ms_2 (y v : Int32) : f_X11_set σ μ t 2 y v = oC σ 11 t ((f_X11_isBoat σ μ t y).bind fun v2 => if v2 = 0 then some (-2, μ) else f_X11_set_b113 σ μ t 2 y v 5 240) := by
  simp [f_X11_set, f_X11_set_b26, f_X11_set_b88, m_within]
theorem fit_3 (v : Int32) : f_X10_fits σ μ 3 v = some (if 0 ≤ v ∧ v ≤ 9 then 1 else 0) := by
  unfold f_X10_fits
  rw [show oZ th_least 3 = some 0 from by decide +kernel, show oZ th_most 3 = some 9 from by decide +kernel, Option.bind_some, Option.bind_some]
  exact m_within v 0 9
theorem ms_3 (y v : Int32) : f_X11_set σ μ t 3 y v = oC σ 11 t ((f_X11_isBoat σ μ t y).bind fun v2 => if v2 = 0 then some (-2, μ) else f_X11_set_b113 σ μ t 3 y v 0 9) := by
  simp [f_X11_set, f_X11_set_b26, f_X11_set_b88, m_within]
theorem fit_4 (v : Int32) : f_X10_fits σ μ 4 v = some (if 0 ≤ v ∧ v ≤ 47 then 1 else 0) := by
  unfold f_X10_fits
  rw [show oZ th_least 4 = some 0 from by decide +kernel, show oZ th_most 4 = some 47 from by decide +kernel, Option.bind_some, Option.bind_some]
  exact m_within v 0 47
theorem ms_4 (y v : Int32) : f_X11_set σ μ t 4 y v = f_X11_set_b113 σ μ t 4 y v 0 47 := by
  simp [f_X11_set, f_X11_set_b26, f_X11_set_b88, m_within]
theorem fit_5 (v : Int32) : f_X10_fits σ μ 5 v = some (if 0 ≤ v ∧ v ≤ 9 then 1 else 0) := by
  unfold f_X10_fits
  rw [show oZ th_least 5 = some 0 from by decide +kernel, show oZ th_most 5 = some 9 from by decide +kernel, Option.bind_some, Option.bind_some]
  exact m_within v 0 9
theorem ms_5 (y v : Int32) : f_X11_set σ μ t 5 y v = f_X11_set_b113 σ μ t 5 y v 0 9 := by
  simp [f_X11_set, f_X11_set_b26, f_X11_set_b88, m_within]
theorem fit_6 (v : Int32) : f_X10_fits σ μ 6 v = some (if 1 ≤ v ∧ v ≤ 6 then 1 else 0) := by
  unfold f_X10_fits
  rw [show oZ th_least 6 = some 1 from by decide +kernel, show oZ th_most 6 = some 6 from by decide +kernel, Option.bind_some, Option.bind_some]
  exact m_within v 1 6
theorem ms_6 (y v : Int32) : f_X11_set σ μ t 6 y v = f_X11_set_b113 σ μ t 6 y v 1 6 := by
  simp [f_X11_set, f_X11_set_b26, f_X11_set_b88, m_within]
theorem fit_7 (v : Int32) : f_X10_fits σ μ 7 v = some (if 1 ≤ v ∧ v ≤ 9 then 1 else 0) := by
  unfold f_X10_fits
  rw [show oZ th_least 7 = some 1 from by decide +kernel, show oZ th_most 7 = some 9 from by decide +kernel, Option.bind_some, Option.bind_some]
  exact m_within v 1 9
theorem ms_7 (y v : Int32) : f_X11_set σ μ t 7 y v = f_X11_set_b113 σ μ t 7 y v 1 9 := by
  simp [f_X11_set, f_X11_set_b26, f_X11_set_b88, m_within]
theorem fit_8 (v : Int32) : f_X10_fits σ μ 8 v = some (if 0 ≤ v ∧ v ≤ 20 then 1 else 0) := by
  unfold f_X10_fits
  rw [show oZ th_least 8 = some 0 from by decide +kernel, show oZ th_most 8 = some 20 from by decide +kernel, Option.bind_some, Option.bind_some]
  exact m_within v 0 20
theorem ms_8 (y v : Int32) : f_X11_set σ μ t 8 y v = f_X11_set_b113 σ μ t 8 y v 0 20 := by
  simp [f_X11_set, f_X11_set_b26, f_X11_set_b88, m_within]
theorem mb_0 (hU : SX σ z) {y : Nat} (hy : y < 7) {v : Int32} (c : 0 ≤ v ∧ v ≤ 47) : f_X11_set_b113 σ μ (z + 27) 0 (nI y) v 0 47 = some (μ (z + 30) y, th_w μ (z + 30) y v) := by
  unfold f_X11_set_b113
  rw [m_within, Option.bind_some, if_pos c, if_neg n10]
  simp [r_27_3 hU, a_30 hU hy, s_30 hU hy]
theorem mn_0 {y v : Int32} (c : ¬ (0 ≤ v ∧ v ≤ 47)) : f_X11_set_b113 σ μ t 0 y v 0 47 = some (-2, μ) := by
  unfold f_X11_set_b113
  rw [m_within, Option.bind_some, if_neg c, if_pos rfl]
theorem mb_1 (hU : SX σ z) {y : Nat} (hy : y < 7) {v : Int32} (c : 0 ≤ v ∧ v ≤ 999) : f_X11_set_b113 σ μ (z + 27) 1 (nI y) v 0 999 = some (μ (z + 31) y, th_w μ (z + 31) y v) := by
  unfold f_X11_set_b113
  rw [m_within, Option.bind_some, if_pos c, if_neg n10]
  simp [r_27_4 hU, a_31 hU hy, s_31 hU hy]
theorem mn_1 {y v : Int32} (c : ¬ (0 ≤ v ∧ v ≤ 999)) : f_X11_set_b113 σ μ t 1 y v 0 999 = some (-2, μ) := by
  unfold f_X11_set_b113
  rw [m_within, Option.bind_some, if_neg c, if_pos rfl]
theorem mb_2 (hU : SX σ z) {y : Nat} (hy : y < 7) {v : Int32} (c : 5 ≤ v ∧ v ≤ 240) : f_X11_set_b113 σ μ (z + 27) 2 (nI y) v 5 240 = some (μ (z + 32) y, th_w μ (z + 32) y v) := by
  unfold f_X11_set_b113
  rw [m_within, Option.bind_some, if_pos c, if_neg n10]
  simp [r_27_5 hU, a_32 hU hy, s_32 hU hy]
theorem mn_2 {y v : Int32} (c : ¬ (5 ≤ v ∧ v ≤ 240)) : f_X11_set_b113 σ μ t 2 y v 5 240 = some (-2, μ) := by
  unfold f_X11_set_b113
  rw [m_within, Option.bind_some, if_neg c, if_pos rfl]
theorem mb_3 (hU : SX σ z) {y : Nat} (hy : y < 7) {v : Int32} (c : 0 ≤ v ∧ v ≤ 9) : f_X11_set_b113 σ μ (z + 27) 3 (nI y) v 0 9 = some (μ (z + 29) y, th_w μ (z + 29) y v) := by
  unfold f_X11_set_b113
  rw [m_within, Option.bind_some, if_pos c, if_neg n10]
  simp [r_27_2 hU, a_29 hU hy, s_29 hU hy]
theorem mn_3 {y v : Int32} (c : ¬ (0 ≤ v ∧ v ≤ 9)) : f_X11_set_b113 σ μ t 3 y v 0 9 = some (-2, μ) := by
  unfold f_X11_set_b113
  rw [m_within, Option.bind_some, if_neg c, if_pos rfl]
theorem mb_4 (hU : SX σ z) {y v : Int32} (c : 0 ≤ v ∧ v ≤ 47) : f_X11_set_b113 σ μ (z + 27) 4 y v 0 47 = some (μ (z + 27) 8, th_w μ (z + 27) 8 v) := by
  unfold f_X11_set_b113
  rw [m_within, Option.bind_some, if_pos c, if_neg n10]
  simp [i_27 hU, p_27 hU]
theorem mn_4 {y v : Int32} (c : ¬ (0 ≤ v ∧ v ≤ 47)) : f_X11_set_b113 σ μ t 4 y v 0 47 = some (-2, μ) := by
  unfold f_X11_set_b113
  rw [m_within, Option.bind_some, if_neg c, if_pos rfl]
theorem mb_5 (hU : SX σ z) {y v : Int32} (c : 0 ≤ v ∧ v ≤ 9) : f_X11_set_b113 σ μ (z + 27) 5 y v 0 9 = some (μ (z + 27) 9, th_w μ (z + 27) 9 v) := by
  unfold f_X11_set_b113
  rw [m_within, Option.bind_some, if_pos c, if_neg n10]
  simp [i_27 hU, p_27 hU]
theorem mn_5 {y v : Int32} (c : ¬ (0 ≤ v ∧ v ≤ 9)) : f_X11_set_b113 σ μ t 5 y v 0 9 = some (-2, μ) := by
  unfold f_X11_set_b113
  rw [m_within, Option.bind_some, if_neg c, if_pos rfl]
theorem mb_6 (hU : SX σ z) {y v : Int32} (c : 1 ≤ v ∧ v ≤ 6) : f_X11_set_b113 σ μ (z + 27) 6 y v 1 6 = some (μ (z + 27) 11, th_w μ (z + 27) 11 v) := by
  unfold f_X11_set_b113
  rw [m_within, Option.bind_some, if_pos c, if_neg n10]
  simp [i_27 hU, p_27 hU]
theorem mn_6 {y v : Int32} (c : ¬ (1 ≤ v ∧ v ≤ 6)) : f_X11_set_b113 σ μ t 6 y v 1 6 = some (-2, μ) := by
  unfold f_X11_set_b113
  rw [m_within, Option.bind_some, if_neg c, if_pos rfl]
theorem mb_7 (hU : SX σ z) {y v : Int32} (c : 1 ≤ v ∧ v ≤ 9) : f_X11_set_b113 σ μ (z + 27) 7 y v 1 9 = some (μ (z + 27) 12, th_w μ (z + 27) 12 v) := by
  unfold f_X11_set_b113
  rw [m_within, Option.bind_some, if_pos c, if_neg n10]
  simp [i_27 hU, p_27 hU]
theorem mn_7 {y v : Int32} (c : ¬ (1 ≤ v ∧ v ≤ 9)) : f_X11_set_b113 σ μ t 7 y v 1 9 = some (-2, μ) := by
  unfold f_X11_set_b113
  rw [m_within, Option.bind_some, if_neg c, if_pos rfl]
theorem mb_8 (hU : SX σ z) {y v : Int32} (c : 0 ≤ v ∧ v ≤ 20) : f_X11_set_b113 σ μ (z + 27) 8 y v 0 20 = some (μ (z + 27) 13, th_w μ (z + 27) 13 v) := by
  unfold f_X11_set_b113
  rw [m_within, Option.bind_some, if_pos c, if_neg n10]
  simp [i_27 hU, p_27 hU]
theorem mn_8 {y v : Int32} (c : ¬ (0 ≤ v ∧ v ≤ 20)) : f_X11_set_b113 σ μ t 8 y v 0 20 = some (-2, μ) := by
  unfold f_X11_set_b113
  rw [m_within, Option.bind_some, if_neg c, if_pos rfl]
theorem set_0 (h : JX z σ Z B U ω n nt μX A) (m : JM z Y μM A) (y v : Int32) : LK z σ Z Y B U ω n nt (f_X10_set σ μX z 0 y v) (f_X11_set σ μM (z + 27) 0 y v) := by
  have S := h.sh
  have hU := S.sx
  have n7 := S.n7
  unfold f_X10_set
  rw [if_neg (show ¬ (0 : Int32) < 0 from by decide), if_neg (show ¬ (8 : Int32) < 0 from by decide), fit_0, Option.bind_some, if_neg (show ¬ (3 : Int32) < 0 from by decide), c_0 hU, ms_0, c_27 hU]
  by_cases c : 0 ≤ v ∧ v ≤ 47
  · rw [if_pos c, if_neg n10]
    rcases isb_lock h m y with ⟨b, hb, rfl, e1, e2⟩ | ⟨e1, e2, -⟩
    · have w := h.nw b hb
      rw [e1, e2, Option.bind_some, Option.bind_some, if_neg n10, if_neg n10, mb_0 hU (show b < 7 by omega) c, jm_3 m]
      unfold f_X10_set_b37 f_X10_set_b58
      rw [if_neg (show ¬ (3 : Int32) < 0 from by decide), r_0_0 hU, Option.bind_some, S.oq hb, Option.bind_some, S.b0 hb, Option.bind_some, show (0 : Int32) = nI 0 from rfl, S.ba hb (by decide), Option.bind_some, S.bs hb (by decide), Option.bind_some, w.1]
      have hr : rg v 47 := rg_in (lo := 0) c (by decide) (by decide)
      refine ⟨th_w A 3 b v, A 3 b, _, _, rfl, rfl, h.wnow hb (by omega) ?_, m.w (p := 3) (by decide)⟩
      obtain ⟨c0, c1, c2, c3, c4, c5⟩ := h.rn b hb
      simp only [th_w_at]
      simp [c0, c1, c2, c3, c4, hr]
      exact c5
    · rw [e1, e2, Option.bind_some, Option.bind_some, if_pos (show (0 : Int32) = 0 from rfl), if_pos (show (0 : Int32) = 0 from rfl)]
      exact (LA.mk h m _).k
  · rw [if_neg c, if_pos (show (0 : Int32) = 0 from rfl), mn_0 c]
    rcases isb_lock h m y with ⟨b, hb, rfl, e1, e2⟩ | ⟨e1, e2, -⟩
    · rw [e2, Option.bind_some, if_neg n10]
      exact (LA.mk h m _).k
    · rw [e2, Option.bind_some, if_pos (show (0 : Int32) = 0 from rfl)]
      exact (LA.mk h m _).k
theorem set_1 (h : JX z σ Z B U ω n nt μX A) (m : JM z Y μM A) (y v : Int32) : LK z σ Z Y B U ω n nt (f_X10_set σ μX z 1 y v) (f_X11_set σ μM (z + 27) 1 y v) := by
  have S := h.sh
  have hU := S.sx
  have n7 := S.n7
  unfold f_X10_set
  rw [if_neg (show ¬ (1 : Int32) < 0 from by decide), if_neg (show ¬ (8 : Int32) < 1 from by decide), fit_1, Option.bind_some, if_neg (show ¬ (3 : Int32) < 1 from by decide), c_0 hU, ms_1, c_27 hU]
  by_cases c : 0 ≤ v ∧ v ≤ 999
  · rw [if_pos c, if_neg n10]
    rcases isb_lock h m y with ⟨b, hb, rfl, e1, e2⟩ | ⟨e1, e2, -⟩
    · have w := h.nw b hb
      rw [e1, e2, Option.bind_some, Option.bind_some, if_neg n10, if_neg n10, mb_1 hU (show b < 7 by omega) c, jm_4 m]
      unfold f_X10_set_b37 f_X10_set_b58
      rw [if_neg (show ¬ (3 : Int32) < 1 from by decide), r_0_0 hU, Option.bind_some, S.oq hb, Option.bind_some, S.b0 hb, Option.bind_some, show (1 : Int32) = nI 1 from rfl, S.ba hb (by decide), Option.bind_some, S.bs hb (by decide), Option.bind_some, w.2.1]
      have hr : rg v 999 := rg_in (lo := 0) c (by decide) (by decide)
      refine ⟨th_w A 4 b v, A 4 b, _, _, rfl, rfl, h.wnow hb (by omega) ?_, m.w (p := 4) (by decide)⟩
      obtain ⟨c0, c1, c2, c3, c4, c5⟩ := h.rn b hb
      simp only [th_w_at]
      simp [c0, c1, c2, c3, c4, hr]
      exact c5
    · rw [e1, e2, Option.bind_some, Option.bind_some, if_pos (show (0 : Int32) = 0 from rfl), if_pos (show (0 : Int32) = 0 from rfl)]
      exact (LA.mk h m _).k
  · rw [if_neg c, if_pos (show (0 : Int32) = 0 from rfl), mn_1 c]
    rcases isb_lock h m y with ⟨b, hb, rfl, e1, e2⟩ | ⟨e1, e2, -⟩
    · rw [e2, Option.bind_some, if_neg n10]
      exact (LA.mk h m _).k
    · rw [e2, Option.bind_some, if_pos (show (0 : Int32) = 0 from rfl)]
      exact (LA.mk h m _).k
theorem set_2 (h : JX z σ Z B U ω n nt μX A) (m : JM z Y μM A) (y v : Int32) : LK z σ Z Y B U ω n nt (f_X10_set σ μX z 2 y v) (f_X11_set σ μM (z + 27) 2 y v) := by
  have S := h.sh
  have hU := S.sx
  have n7 := S.n7
  unfold f_X10_set
  rw [if_neg (show ¬ (2 : Int32) < 0 from by decide), if_neg (show ¬ (8 : Int32) < 2 from by decide), fit_2, Option.bind_some, if_neg (show ¬ (3 : Int32) < 2 from by decide), c_0 hU, ms_2, c_27 hU]
  by_cases c : 5 ≤ v ∧ v ≤ 240
  · rw [if_pos c, if_neg n10]
    rcases isb_lock h m y with ⟨b, hb, rfl, e1, e2⟩ | ⟨e1, e2, -⟩
    · have w := h.nw b hb
      rw [e1, e2, Option.bind_some, Option.bind_some, if_neg n10, if_neg n10, mb_2 hU (show b < 7 by omega) c, jm_5 m]
      unfold f_X10_set_b37 f_X10_set_b58
      rw [if_neg (show ¬ (3 : Int32) < 2 from by decide), r_0_0 hU, Option.bind_some, S.oq hb, Option.bind_some, S.b0 hb, Option.bind_some, show (2 : Int32) = nI 2 from rfl, S.ba hb (by decide), Option.bind_some, S.bs hb (by decide), Option.bind_some, w.2.2.1]
      have hr : rg v 240 := rg_in (lo := 5) c (by decide) (by decide)
      refine ⟨th_w A 5 b v, A 5 b, _, _, rfl, rfl, h.wnow hb (by omega) ?_, m.w (p := 5) (by decide)⟩
      obtain ⟨c0, c1, c2, c3, c4, c5⟩ := h.rn b hb
      simp only [th_w_at]
      simp [c0, c1, c2, c3, c4, hr]
      exact c5
    · rw [e1, e2, Option.bind_some, Option.bind_some, if_pos (show (0 : Int32) = 0 from rfl), if_pos (show (0 : Int32) = 0 from rfl)]
      exact (LA.mk h m _).k
  · rw [if_neg c, if_pos (show (0 : Int32) = 0 from rfl), mn_2 c]
    rcases isb_lock h m y with ⟨b, hb, rfl, e1, e2⟩ | ⟨e1, e2, -⟩
    · rw [e2, Option.bind_some, if_neg n10]
      exact (LA.mk h m _).k
    · rw [e2, Option.bind_some, if_pos (show (0 : Int32) = 0 from rfl)]
      exact (LA.mk h m _).k
theorem set_3 (h : JX z σ Z B U ω n nt μX A) (m : JM z Y μM A) (y v : Int32) : LK z σ Z Y B U ω n nt (f_X10_set σ μX z 3 y v) (f_X11_set σ μM (z + 27) 3 y v) := by
  have S := h.sh
  have hU := S.sx
  have n7 := S.n7
  unfold f_X10_set
  rw [if_neg (show ¬ (3 : Int32) < 0 from by decide), if_neg (show ¬ (8 : Int32) < 3 from by decide), fit_3, Option.bind_some, if_neg (show ¬ (3 : Int32) < 3 from by decide), c_0 hU, ms_3, c_27 hU]
  by_cases c : 0 ≤ v ∧ v ≤ 9
  · rw [if_pos c, if_neg n10]
    rcases isb_lock h m y with ⟨b, hb, rfl, e1, e2⟩ | ⟨e1, e2, -⟩
    · have w := h.nw b hb
      rw [e1, e2, Option.bind_some, Option.bind_some, if_neg n10, if_neg n10, mb_3 hU (show b < 7 by omega) c, jm_2 m]
      unfold f_X10_set_b37 f_X10_set_b58
      rw [if_neg (show ¬ (3 : Int32) < 3 from by decide), r_0_0 hU, Option.bind_some, S.oq hb, Option.bind_some, S.b0 hb, Option.bind_some, show (3 : Int32) = nI 3 from rfl, S.ba hb (by decide), Option.bind_some, S.bs hb (by decide), Option.bind_some, w.2.2.2.1]
      have hr : rg v 9 := rg_in (lo := 0) c (by decide) (by decide)
      refine ⟨th_w A 2 b v, A 2 b, _, _, rfl, rfl, h.wnow hb (by omega) ?_, m.w (p := 2) (by decide)⟩
      obtain ⟨c0, c1, c2, c3, c4, c5⟩ := h.rn b hb
      simp only [th_w_at]
      simp [c0, c1, c2, c3, c4, hr]
      exact c5
    · rw [e1, e2, Option.bind_some, Option.bind_some, if_pos (show (0 : Int32) = 0 from rfl), if_pos (show (0 : Int32) = 0 from rfl)]
      exact (LA.mk h m _).k
  · rw [if_neg c, if_pos (show (0 : Int32) = 0 from rfl), mn_3 c]
    rcases isb_lock h m y with ⟨b, hb, rfl, e1, e2⟩ | ⟨e1, e2, -⟩
    · rw [e2, Option.bind_some, if_neg n10]
      exact (LA.mk h m _).k
    · rw [e2, Option.bind_some, if_pos (show (0 : Int32) = 0 from rfl)]
      exact (LA.mk h m _).k
theorem set_4 (h : JX z σ Z B U ω n nt μX A) (m : JM z Y μM A) (y v : Int32) : LK z σ Z Y B U ω n nt (f_X10_set σ μX z 4 y v) (f_X11_set σ μM (z + 27) 4 y v) := by
  have S := h.sh
  have hU := S.sx
  have l := h.lk
  unfold f_X10_set
  rw [if_neg (show ¬ (4 : Int32) < 0 from by decide), if_neg (show ¬ (8 : Int32) < 4 from by decide), fit_4, Option.bind_some, if_pos (show (3 : Int32) < 4 from by decide), ms_4]
  by_cases c : 0 ≤ v ∧ v ≤ 47
  · rw [if_pos c, if_neg n10, mb_4 hU c, jm_0_8 m]
    unfold f_X10_set_b37 f_X10_set_b58
    rw [if_pos (show (3 : Int32) < 4 from by decide), r_0_2 hU, Option.bind_some, show (4 : Int32) = nI 4 from rfl, a_2 hU (by decide), Option.bind_some, s_2 hU (by decide), Option.bind_some, l.1]
    have hr : rg v 47 := rg_in (lo := 0) c (by decide) (by decide)
    have h0 : ¬ (0 : Int32) = 0 → ¬ v = 0 := fun q1 q2 => by
      have c1 := c.1
      rw [q2] at c1
      exact q1 (Int32.le_antisymm c1 (by decide))
    refine ⟨th_w A 0 8 v, A 0 8, _, _, rfl, rfl, h.wlake (by omega) ?_ ?_, m.w (p := 0) (by decide)⟩
    · obtain ⟨l0, l1, l2, l3, l4, l5, l6, l7⟩ := h.rl
      simp only [th_w_at]
      simp [l0, l1, l2, l3, l4, l5, l6, l7, hr]
    · simp only [th_w_at]
      simpa using h.ru
  · rw [if_neg c, if_pos (show (0 : Int32) = 0 from rfl), mn_4 c]
    exact (LA.mk h m _).k
theorem set_5 (h : JX z σ Z B U ω n nt μX A) (m : JM z Y μM A) (y v : Int32) : LK z σ Z Y B U ω n nt (f_X10_set σ μX z 5 y v) (f_X11_set σ μM (z + 27) 5 y v) := by
  have S := h.sh
  have hU := S.sx
  have l := h.lk
  unfold f_X10_set
  rw [if_neg (show ¬ (5 : Int32) < 0 from by decide), if_neg (show ¬ (8 : Int32) < 5 from by decide), fit_5, Option.bind_some, if_pos (show (3 : Int32) < 5 from by decide), ms_5]
  by_cases c : 0 ≤ v ∧ v ≤ 9
  · rw [if_pos c, if_neg n10, mb_5 hU c, jm_0_9 m]
    unfold f_X10_set_b37 f_X10_set_b58
    rw [if_pos (show (3 : Int32) < 5 from by decide), r_0_2 hU, Option.bind_some, show (5 : Int32) = nI 5 from rfl, a_2 hU (by decide), Option.bind_some, s_2 hU (by decide), Option.bind_some, l.2.1]
    have hr : rg v 9 := rg_in (lo := 0) c (by decide) (by decide)
    have h0 : ¬ (0 : Int32) = 0 → ¬ v = 0 := fun q1 q2 => by
      have c1 := c.1
      rw [q2] at c1
      exact q1 (Int32.le_antisymm c1 (by decide))
    refine ⟨th_w A 0 9 v, A 0 9, _, _, rfl, rfl, h.wlake (by omega) ?_ ?_, m.w (p := 0) (by decide)⟩
    · obtain ⟨l0, l1, l2, l3, l4, l5, l6, l7⟩ := h.rl
      simp only [th_w_at]
      simp [l0, l1, l2, l3, l4, l5, l6, l7, hr]
    · simp only [th_w_at]
      simpa using h.ru
  · rw [if_neg c, if_pos (show (0 : Int32) = 0 from rfl), mn_5 c]
    exact (LA.mk h m _).k
theorem set_6 (h : JX z σ Z B U ω n nt μX A) (m : JM z Y μM A) (y v : Int32) : LK z σ Z Y B U ω n nt (f_X10_set σ μX z 6 y v) (f_X11_set σ μM (z + 27) 6 y v) := by
  have S := h.sh
  have hU := S.sx
  have l := h.lk
  unfold f_X10_set
  rw [if_neg (show ¬ (6 : Int32) < 0 from by decide), if_neg (show ¬ (8 : Int32) < 6 from by decide), fit_6, Option.bind_some, if_pos (show (3 : Int32) < 6 from by decide), ms_6]
  by_cases c : 1 ≤ v ∧ v ≤ 6
  · rw [if_pos c, if_neg n10, mb_6 hU c, jm_0_11 m]
    unfold f_X10_set_b37 f_X10_set_b58
    rw [if_pos (show (3 : Int32) < 6 from by decide), r_0_2 hU, Option.bind_some, show (6 : Int32) = nI 6 from rfl, a_2 hU (by decide), Option.bind_some, s_2 hU (by decide), Option.bind_some, l.2.2.1]
    have hr : rg v 6 := rg_in (lo := 1) c (by decide) (by decide)
    have h0 : ¬ (1 : Int32) = 0 → ¬ v = 0 := fun q1 q2 => by
      have c1 := c.1
      rw [q2] at c1
      exact q1 (Int32.le_antisymm c1 (by decide))
    refine ⟨th_w A 0 11 v, A 0 11, _, _, rfl, rfl, h.wlake (by omega) ?_ ?_, m.w (p := 0) (by decide)⟩
    · obtain ⟨l0, l1, l2, l3, l4, l5, l6, l7⟩ := h.rl
      simp only [th_w_at]
      simp [l0, l1, l2, l3, l4, l5, l6, l7, hr, h0 (by decide)]
    · simp only [th_w_at]
      simpa using h.ru
  · rw [if_neg c, if_pos (show (0 : Int32) = 0 from rfl), mn_6 c]
    exact (LA.mk h m _).k
theorem set_7 (h : JX z σ Z B U ω n nt μX A) (m : JM z Y μM A) (y v : Int32) : LK z σ Z Y B U ω n nt (f_X10_set σ μX z 7 y v) (f_X11_set σ μM (z + 27) 7 y v) := by
  have S := h.sh
  have hU := S.sx
  have l := h.lk
  unfold f_X10_set
  rw [if_neg (show ¬ (7 : Int32) < 0 from by decide), if_neg (show ¬ (8 : Int32) < 7 from by decide), fit_7, Option.bind_some, if_pos (show (3 : Int32) < 7 from by decide), ms_7]
  by_cases c : 1 ≤ v ∧ v ≤ 9
  · rw [if_pos c, if_neg n10, mb_7 hU c, jm_0_12 m]
    unfold f_X10_set_b37 f_X10_set_b58
    rw [if_pos (show (3 : Int32) < 7 from by decide), r_0_2 hU, Option.bind_some, show (7 : Int32) = nI 7 from rfl, a_2 hU (by decide), Option.bind_some, s_2 hU (by decide), Option.bind_some, l.2.2.2.1]
    have hr : rg v 9 := rg_in (lo := 1) c (by decide) (by decide)
    have h0 : ¬ (1 : Int32) = 0 → ¬ v = 0 := fun q1 q2 => by
      have c1 := c.1
      rw [q2] at c1
      exact q1 (Int32.le_antisymm c1 (by decide))
    refine ⟨th_w A 0 12 v, A 0 12, _, _, rfl, rfl, h.wlake (by omega) ?_ ?_, m.w (p := 0) (by decide)⟩
    · obtain ⟨l0, l1, l2, l3, l4, l5, l6, l7⟩ := h.rl
      simp only [th_w_at]
      simp [l0, l1, l2, l3, l4, l5, l6, l7, hr, h0 (by decide)]
    · simp only [th_w_at]
      simpa using h.ru
  · rw [if_neg c, if_pos (show (0 : Int32) = 0 from rfl), mn_7 c]
    exact (LA.mk h m _).k
theorem set_8 (h : JX z σ Z B U ω n nt μX A) (m : JM z Y μM A) (y v : Int32) : LK z σ Z Y B U ω n nt (f_X10_set σ μX z 8 y v) (f_X11_set σ μM (z + 27) 8 y v) := by
  have S := h.sh
  have hU := S.sx
  have l := h.lk
  unfold f_X10_set
  rw [if_neg (show ¬ (8 : Int32) < 0 from by decide), if_neg (show ¬ (8 : Int32) < 8 from by decide), fit_8, Option.bind_some, if_pos (show (3 : Int32) < 8 from by decide), ms_8]
  by_cases c : 0 ≤ v ∧ v ≤ 20
  · rw [if_pos c, if_neg n10, mb_8 hU c, jm_0_13 m]
    unfold f_X10_set_b37 f_X10_set_b58
    rw [if_pos (show (3 : Int32) < 8 from by decide), r_0_2 hU, Option.bind_some, show (8 : Int32) = nI 8 from rfl, a_2 hU (by decide), Option.bind_some, s_2 hU (by decide), Option.bind_some, l.2.2.2.2.1]
    have hr : rg v 20 := rg_in (lo := 0) c (by decide) (by decide)
    have h0 : ¬ (0 : Int32) = 0 → ¬ v = 0 := fun q1 q2 => by
      have c1 := c.1
      rw [q2] at c1
      exact q1 (Int32.le_antisymm c1 (by decide))
    refine ⟨th_w A 0 13 v, A 0 13, _, _, rfl, rfl, h.wlake (by omega) ?_ ?_, m.w (p := 0) (by decide)⟩
    · obtain ⟨l0, l1, l2, l3, l4, l5, l6, l7⟩ := h.rl
      simp only [th_w_at]
      simp [l0, l1, l2, l3, l4, l5, l6, l7, hr]
    · simp only [th_w_at]
      simpa using h.ru
  · rw [if_neg c, if_pos (show (0 : Int32) = 0 from rfl), mn_8 c]
    exact (LA.mk h m _).k
theorem set_lock (h : JX z σ Z B U ω n nt μX A) (m : JM z Y μM A) (x y v : Int32) : LK z σ Z Y B U ω n nt (f_X10_set σ μX z x y v) (f_X11_set σ μM (z + 27) x y v) := by
  by_cases c : 0 ≤ x ∧ x ≤ 8
  · obtain ⟨k, hk, rfl⟩ : rg x 8 := rg_in c (by decide) (by decide)
    rcases (by omega : k = 0 ∨ k = 1 ∨ k = 2 ∨ k = 3 ∨ k = 4 ∨ k = 5 ∨ k = 6 ∨ k = 7 ∨ k = 8) with q | q | q | q | q | q | q | q | q <;> subst q
    · exact set_0 h m y v
    · exact set_1 h m y v
    · exact set_2 h m y v
    · exact set_3 h m y v
    · exact set_4 h m y v
    · exact set_5 h m y v
    · exact set_6 h m y v
    · exact set_7 h m y v
    · exact set_8 h m y v
  · have hM : f_X11_set σ μM (z + 27) x y v = some (-2, μM) := by
      have g : ∀ a b, f_X11_set_b88 σ μM (z + 27) x y v a b = some (-2, μM) := fun a b => by
        unfold f_X11_set_b88
        rw [m_within, Option.bind_some, if_neg c, if_pos rfl]
      unfold f_X11_set f_X11_set_b26
      simp only [g, ite_self]
    have hX : f_X10_set σ μX z x y v = some (-2, μX) := by
      unfold f_X10_set
      by_cases d : x < 0
      · rw [if_pos d]
      · rw [if_neg d, if_pos (Int32.not_le.mp (fun q => c ⟨Int32.not_lt.mp d, q⟩))]
    rw [hX, hM]
    exact (LA.mk h m _).k
theorem force_lock (h : JX z σ Z B U ω n nt μX A) (m : JM z Y μM A) (x : Int32) : LK z σ Z Y B U ω n nt (f_X10_force σ μX z x) (f_X11_force σ μM (z + 27) x) := by
  have S := h.sh
  have hU := S.sx
  have l := h.lk
  have t6 := S.t6
  obtain ⟨nt', rfl⟩ : ∃ q, nt = q + 1 := ⟨nt - 1, by omega⟩
  unfold f_X10_force f_X11_force
  rw [i_27 hU, Option.bind_some, jm_0_17 m, h.at, m_within, Option.bind_some, i_0 hU, Option.bind_some, h.xt, nI_pred]
  by_cases c : 0 ≤ x ∧ x ≤ nI nt'
  · obtain ⟨k, hk, rfl⟩ : rg x nt' := rg_in c (by decide) (by omega)
    rw [if_neg (nI_pos (by omega)), if_pos (nI_lt (by omega) (by omega)), if_pos c, if_neg n10, r_0_2 hU, Option.bind_some, an_2 hU (by decide), Option.bind_some, Option.bind_some, sn_2 hU (by decide), Option.bind_some, l.2.2.2.2.2.2.2, i_27 hU, Option.bind_some, p_27 hU, Option.bind_some, jm_0_18 m]
    refine ⟨th_w A 0 18 (nI k), A 0 18, _, _, rfl, rfl, h.wlake (by omega) ?_ ⟨k, by omega, th_w_self _ _ _ _⟩, m.w (p := 0) (by decide)⟩
    obtain ⟨l0, l1, l2, l3, l4, l5, l6, l7⟩ := h.rl
    simp only [th_w_at]
    simp [l0, l1, l2, l3, l4, l5, l6, l7]
  · rw [if_neg c, if_pos (show (0 : Int32) = 0 from rfl)]
    by_cases d : x < 0
    · rw [if_pos d]; exact (LA.mk h m _).k
    · rw [if_neg d, if_neg]
      · exact (LA.mk h m _).k
      · intro q
        refine c ⟨Int32.not_lt.mp d, ?_⟩
        rw [Int32.lt_iff_toInt_lt, nI_toInt (by omega)] at q
        rw [Int32.le_iff_toInt_le, nI_toInt (by omega)]
        omega
end ST
