/-! VALUES OF ONE BOAT: far, rows, hears, due, owes; the checks of numbers -/
theorem rg_lt {v : Int32} {m : Nat} (h : rg v m) (hm : m < 2 ^ 31) : 0 ≤ v ∧ v.toInt ≤ m := by
  obtain ⟨k, hk, e⟩ := h
  subst e
  exact ⟨nI_pos' (by omega), by rw [nI_toInt (by omega)]; omega⟩
theorem rg_of {v : Int32} {m : Nat} (h0 : 0 ≤ v.toInt) (h1 : v.toInt ≤ m) (hm : m < 2 ^ 31) : rg v m := by
  refine ⟨v.toInt.toNat, by omega, ?_⟩
  apply Int32.toInt_inj.mp
  rw [nI_toInt (by omega)]
  omega
theorem far_x : ∀ c, c < 48 → f_X10_far 0 (nI c) = some (nI (c / 8 + c % 8)) := by decide +kernel
theorem far_m : ∀ c, c < 48 → f_X11_far (nI c) 0 = some (nI (c / 8 + c % 8)) := by decide +kernel
theorem far_12 : ∀ c, c < 48 → c / 8 + c % 8 ≤ 12 := by decide +kernel
theorem far_eq {v : Int32} (h : rg v 47) : ∃ f, f ≤ 12 ∧ f_X10_far 0 v = some (nI f) ∧ f_X11_far v 0 = some (nI f) := by
  obtain ⟨c, hc, e⟩ := h
  subst e
  exact ⟨_, far_12 c (by omega), far_x c (by omega), far_m c (by omega)⟩
def sRows (k w num : Int32) : Int32 := if k = 1 then (2 + (w / 2)) - 1 else if k = 2 then (2 + (w / 2)) + w else if k = 3 then ((2 + (w / 2)) - 1) + num else if k = 4 then (2 + (w / 2)) + w else if k = 5 then 2 * (2 + (w / 2)) else 2 + (w / 2)
def sHear (k w num : Int32) : Int32 := if k = 1 then (12 - w) + num else if k = 2 then jmax 0 ((12 - w) - 3) else if k = 3 then (12 - w) + num else if k = 4 then jmax 0 (((12 - w) - 3) / 2) else if k = 5 then (if (jrem num 2) = 1 then 0 else 12 - w) else 12 - w
def sOwe (k late price num : Int32) : Int32 := if k = 2 then (((late + 14) / 15) * price) / 2 else if k = 3 then 0 else if k = 4 then ((((late + 14) / 15) * price) / 2) + 2 else if k = 5 then (if (((late + 14) / 15) * price) ≤ 0 then 0 else (((late + 14) / 15) * price) + num) else ((late + 14) / 15) * price
theorem sRows_r : ∀ k, k < 6 → ∀ w, w < 10 → ∀ m, m < 10 → rg (sRows (nI k) (nI w) (nI m)) 20 ∧ (1 : Int32) ≤ sRows (nI k) (nI w) (nI m) := by
  have h : ∀ k, k < 6 → ∀ w, w < 10 → ∀ m, m < 10 → 1 ≤ (sRows (nI k) (nI w) (nI m)).toInt ∧ (sRows (nI k) (nI w) (nI m)).toInt ≤ 20 := by decide +kernel
  intro k hk w hw m hm
  obtain ⟨h1, h2⟩ := h k hk w hw m hm
  exact ⟨rg_of (by omega) (by omega) (by decide), by rw [Int32.le_iff_toInt_le]; exact h1⟩
theorem sHear_r : ∀ k, k < 6 → ∀ w, w < 10 → ∀ m, m < 10 → rg (sHear (nI k) (nI w) (nI m)) 30 := by
  have h : ∀ k, k < 6 → ∀ w, w < 10 → ∀ m, m < 10 → 0 ≤ (sHear (nI k) (nI w) (nI m)).toInt ∧ (sHear (nI k) (nI w) (nI m)).toInt ≤ 30 := by decide +kernel
  intro k hk w hw m hm
  obtain ⟨h1, h2⟩ := h k hk w hw m hm
  exact rg_of (by omega) (by omega) (by decide)
theorem kr_0 : ∀ w, w < 10 → jmax 1 (2 + (nI w / 2)) = 2 + (nI w / 2) := by decide +kernel
theorem kr_1 : ∀ w, w < 10 → jmax 1 ((2 + (nI w / 2)) - 1) = (2 + (nI w / 2)) - 1 := by decide +kernel
theorem kr_2 : ∀ w, w < 10 → jmax 1 ((2 + (nI w / 2)) + nI w) = (2 + (nI w / 2)) + nI w := by decide +kernel
theorem kr_3 : ∀ w, w < 10 → ∀ m, m < 10 → jmax 1 (((2 + (nI w / 2)) - 1) + nI m) = ((2 + (nI w / 2)) - 1) + nI m := by decide +kernel
theorem kr_5 : ∀ w, w < 10 → jmax 1 (2 * (2 + (nI w / 2))) = 2 * (2 + (nI w / 2)) := by decide +kernel
theorem kh_0 : ∀ w, w < 10 → jmax 0 (12 - nI w) = 12 - nI w := by decide +kernel
theorem kh_1 : ∀ w, w < 10 → ∀ m, m < 10 → jmax 0 ((12 - nI w) + nI m) = (12 - nI w) + nI m := by decide +kernel
theorem kh_5 : ∀ w, w < 10 → ∀ m, m < 10 → (if (jrem (nI m) 2) = 0 then jmax 0 (12 - nI w) else jmax 0 0) = (if (jrem (nI m) 2) = 1 then 0 else 12 - nI w) := by decide +kernel
theorem k_cases {k : Nat} (h : k ≤ 5) : k = 0 ∨ k = 1 ∨ k = 2 ∨ k = 3 ∨ k = 4 ∨ k = 5 := by omega
section VB
variable {z : Nat} {σ : th_S} {B U ω : Nat → Nat} {n nt b : Nat} {K : Nat → Int32} {μ : th_M}
theorem SH.oq (S : SH z σ B U ω n nt K) (hb : b < n) : oQ σ 13 (z + 1) (nI b) = some (B b) := oQ_nI (sk_1 S.sx) (sl_1 S.sx) (by decide) (by have := S.n7; omega) (S.fl b hb)
theorem SH.tb (S : SH z σ B U ω n nt K) (hb : b < n) : th_b (σ.1 (B b)) = true := by
  obtain ⟨k, hk, e⟩ := S.kd b hb
  rw [S.bc b hb, e]
  rcases k_cases hk with q | q | q | q | q | q <;> subst q <;> decide
theorem SH.b0 (S : SH z σ B U ω n nt K) (hb : b < n) : oB σ (B b) 0 = some (B b + 1) := by
  unfold oB
  rw [if_pos (S.tb hb)]
  exact (S.br b hb).1
theorem SH.bk (S : SH z σ B U ω n nt K) (hb : b < n) : oB σ (B b) 1 = some (B b + 2) := by
  unfold oB
  rw [if_pos (S.tb hb)]
  exact (S.br b hb).2
theorem SH.ban (S : SH z σ B U ω n nt K) (hb : b < n) {k : Nat} (hk : k < 6) : oAn σ μ (B b + 1) k = some (μ (B b + 1) k) := by
  unfold oAn
  rw [if_pos ⟨(S.b1 b hb).1, by rw [(S.b1 b hb).2]; exact hk⟩]
theorem SH.bsn (S : SH z σ B U ω n nt K) (hb : b < n) {k : Nat} {v : Int32} (hk : k < 6) : oSn σ μ (B b + 1) k v = some (th_w μ (B b + 1) k v) := by
  unfold oSn
  rw [if_pos ⟨(S.b1 b hb).1, by rw [(S.b1 b hb).2]; exact hk⟩]
theorem SH.ba (S : SH z σ B U ω n nt K) (hb : b < n) {k : Nat} (hk : k < 6) : oA σ μ (B b + 1) (nI k) = some (μ (B b + 1) k) := oA_nI (S.b1 b hb).1 (S.b1 b hb).2 (by decide) hk
theorem SH.bs (S : SH z σ B U ω n nt K) (hb : b < n) {k : Nat} {v : Int32} (hk : k < 6) : oS σ μ (B b + 1) (nI k) v = some (th_w μ (B b + 1) k v) := oS_nI (S.b1 b hb).1 (S.b1 b hb).2 (by decide) hk
theorem SH.due (S : SH z σ B U ω n nt K) (hb : b < n) : fD_due σ μ (B b) = some (μ (B b + 1) 1 + μ (B b + 1) 2) := by
  obtain ⟨k, hk, e⟩ := S.kd b hb
  have hc := S.bc b hb
  rw [e] at hc
  have d : f_X0_due σ μ (B b) = some (μ (B b + 1) 1 + μ (B b + 1) 2) := by
    unfold f_X0_due
    rw [S.b0 hb, Option.bind_some, S.ban hb (by decide), Option.bind_some, Option.bind_some, S.ban hb (by decide), Option.bind_some]
  unfold fD_due
  rw [d]
  rcases k_cases hk with q | q | q | q | q | q <;> subst q <;> rw [hc] <;> rfl
theorem SH.kind (S : SH z σ B U ω n nt K) (hb : b < n) : fD_kind σ μ (B b) = some (K b) := by
  obtain ⟨k, hk, e⟩ := S.kd b hb
  have hc := S.bc b hb
  rw [e] at hc
  unfold fD_kind
  rcases k_cases hk with q | q | q | q | q | q <;> subst q <;> rw [hc, e] <;> rfl
theorem SH.rows (S : SH z σ B U ω n nt K) (hb : b < n) {w : Int32} (hw : rg w 9) (hm : rg (μ (B b + 1) 3) 9) : fD_rowsBy σ μ (B b) w = some (sRows (K b) w (μ (B b + 1) 3)) := by
  obtain ⟨k, hk, e⟩ := S.kd b hb
  have hc := S.bc b hb
  have ht := S.tb hb
  have h0 := S.b0 hb
  have h3 := S.ban (μ := μ) hb (k := 3) (by decide)
  obtain ⟨w, hw, ew⟩ := hw
  obtain ⟨m, hm, em⟩ := hm
  rw [e] at hc
  rw [em] at h3
  rw [em, ew, e]
  rcases k_cases hk with q | q | q | q | q | q <;> subst q
  · rw [show kcls (nI 0) = 0 from rfl] at hc
    simp only [fD_rowsBy, f_X0_rowsBy, fD_rows, f_X0_rows, hc, if_true, Option.bind_some, kr_0 w (by omega)]
    rfl
  · rw [show kcls (nI 1) = 7 from rfl] at hc
    simp [fD_rowsBy, f_X0_rowsBy, fD_rows, f_X7_rows, f_X0_rows, hc, oG, ht, th_b, kr_1 w (by omega)]
    rfl
  · rw [show kcls (nI 2) = 4 from rfl] at hc
    simp [fD_rowsBy, f_X0_rowsBy, fD_rows, f_X4_rows, f_X0_rows, hc, oG, ht, th_b, kr_2 w (by omega)]
    rfl
  · rw [show kcls (nI 3) = 2 from rfl] at hc
    simp [fD_rowsBy, f_X0_rowsBy, fD_rows, f_X2_rows, f_X7_rows, f_X0_rows, hc, oG, ht, th_b, h0, h3, kr_3 w (by omega) m (by omega)]
    rfl
  · rw [show kcls (nI 4) = 1 from rfl] at hc
    simp [fD_rowsBy, f_X0_rowsBy, fD_rows, f_X4_rows, f_X0_rows, hc, oG, ht, th_b, kr_2 w (by omega)]
    rfl
  · rw [show kcls (nI 5) = 3 from rfl] at hc
    simp [fD_rowsBy, f_X0_rowsBy, fD_rows, f_X3_rows, f_X0_rows, hc, oG, ht, th_b, kr_5 w (by omega)]
    rfl
theorem SH.hears (S : SH z σ B U ω n nt K) (hb : b < n) {w : Int32} (hw : rg w 9) (hm : rg (μ (B b + 1) 3) 9) : fD_hearsBy σ μ (B b) w = some (sHear (K b) w (μ (B b + 1) 3)) := by
  obtain ⟨k, hk, e⟩ := S.kd b hb
  have hc := S.bc b hb
  have ht := S.tb hb
  have h0 := S.b0 hb
  have h3 := S.ban (μ := μ) hb (k := 3) (by decide)
  obtain ⟨w, hw, ew⟩ := hw
  obtain ⟨m, hm, em⟩ := hm
  rw [e] at hc
  rw [em] at h3
  rw [em, ew, e]
  rcases k_cases hk with q | q | q | q | q | q <;> subst q
  · rw [show kcls (nI 0) = 0 from rfl] at hc
    simp [fD_hearsBy, f_X0_hearsBy, fD_hears, f_X0_hears, hc, kh_0 w (by omega)]
    rfl
  · rw [show kcls (nI 1) = 7 from rfl] at hc
    simp [fD_hearsBy, f_X0_hearsBy, fD_hears, f_X7_hears, f_X0_hears, hc, oG, ht, th_b, h0, h3, kh_1 w (by omega) m (by omega)]
    rfl
  · rw [show kcls (nI 2) = 4 from rfl] at hc
    simp [fD_hearsBy, f_X0_hearsBy, fD_hears, f_X4_hears, f_X0_hears, hc, oG, ht, th_b]
    rfl
  · rw [show kcls (nI 3) = 2 from rfl] at hc
    simp [fD_hearsBy, f_X0_hearsBy, fD_hears, f_X7_hears, f_X0_hears, hc, oG, ht, th_b, h0, h3, kh_1 w (by omega) m (by omega)]
    rfl
  · rw [show kcls (nI 4) = 1 from rfl] at hc
    simp [fD_hearsBy, f_X0_hearsBy, fD_hears, f_X1_hears, f_X4_hears, f_X0_hears, hc, oG, ht, th_b]
    rfl
  · rw [show kcls (nI 5) = 3 from rfl] at hc
    have k5 := kh_5 w (by omega) m (by omega)
    rw [show sHear (nI 5) (nI w) (nI m) = (if (jrem (nI m) 2) = 1 then 0 else 12 - nI w) from rfl, ← k5]
    by_cases c : jrem (nI m) 2 = 0 <;> simp [fD_hearsBy, f_X0_hearsBy, fD_hears, f_X3_hears, f_X0_hears, hc, oG, ht, th_b, h0, h3, c]
end VB
