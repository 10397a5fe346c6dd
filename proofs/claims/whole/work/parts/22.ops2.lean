section O2
variable {z : Nat} {σ : th_S} {Z Y : th_M} {B U ω : Nat → Nat} {n nt b t : Nat} {μ μ' μX μM A A' A2 : th_M}
theorem n10 : ¬ (1 : Int32) = 0 := by decide
theorem m_b01 {v : Int32} (h : v = 0 ∨ v = 1) : (if v = 0 then (0 : Int32) else 1) = v := by
  rcases h with e | e <;> rw [e] <;> decide
theorem told_lock (h : JX z σ Z B U ω n nt μX A) (m : JM z Y μM A) (x y : Int32) : LK z σ Z Y B U ω n nt (f_X10_told σ μX z x y) (f_X11_told σ μM (z + 27) x y) := by
  have S := h.sh
  have hU := S.sx
  have n7 := S.n7
  unfold f_X10_told f_X11_told
  rw [c_0 hU, c_27 hU]
  rcases isb_lock h m x with ⟨b, hb, rfl, e1, e2⟩ | ⟨e1, e2, -⟩
  · rw [e1, e2, Option.bind_some, Option.bind_some, if_neg n10, if_neg n10, m_within, Option.bind_some]
    have b7 : b < 7 := by omega
    obtain ⟨w0, w1, w2, w3, w4, w5⟩ := h.nw b hb
    obtain ⟨r0, r1, r2, r3, r4, r5⟩ := h.rn b hb
    have R := S.rows (μ := μX) hb h.rl.2.1 (by rw [w3]; exact r3)
    have H := S.hears (μ := μX) hb h.rl.2.1 (by rw [w3]; exact r3)
    have l := h.lk
    simp only [r_0_0 hU, Option.bind_some, S.oq hb, S.b0 hb, S.ban hb (show 0 < 6 by decide), S.ban hb (show 1 < 6 by decide), S.ban hb (show 2 < 6 by decide), S.ban hb (show 3 < 6 by decide), S.ban hb (show 4 < 6 by decide), S.ban hb (show 5 < 6 by decide), S.kind hb, r_0_2 hU, an_2 hU (show 5 < 12 by decide), an_2 hU (show 9 < 12 by decide), w0, w1, w2, w3, w4, w5, l.2.1, l.2.2.2.2.2.1, R, H, m_rows m hU b7, m_hearing m hU b7,
      r_27_1 hU, r_27_2 hU, r_27_3 hU, r_27_4 hU, r_27_5 hU, r_27_6 hU, r_27_7 hU, a_28 hU b7, a_29 hU b7, a_30 hU b7, a_31 hU b7, a_32 hU b7, a_33 hU b7, a_34 hU b7, jm_1 m, jm_2 m, jm_3 m, jm_4 m, jm_5 m, jm_6 m, jm_7 m, i_27 hU, jm_0_10 m]
    by_cases k : 0 ≤ y ∧ y ≤ 10
    · rw [if_pos k, if_neg n10]
      by_cases k0 : y = 0
      · rw [if_pos k0, if_pos k0]; exact (LA.mk h m _).k
      rw [if_neg k0, if_neg k0]
      by_cases k1 : y = 1
      · rw [if_pos k1, if_pos k1]; exact (LA.mk h m _).k
      rw [if_neg k1, if_neg k1]
      by_cases k2 : y = 2
      · rw [if_pos k2, if_pos k2]; exact (LA.mk h m _).k
      rw [if_neg k2, if_neg k2]
      by_cases k3 : y = 3
      · rw [if_pos k3, if_pos k3]; exact (LA.mk h m _).k
      rw [if_neg k3, if_neg k3]
      by_cases k4 : y = 4
      · rw [if_pos k4, if_pos k4]; exact (LA.mk h m _).k
      rw [if_neg k4, if_neg k4]
      by_cases k5 : y = 5
      · rw [if_pos k5, if_pos k5]; exact (LA.mk h m _).k
      rw [if_neg k5, if_neg k5]
      by_cases k6 : y = 6
      · rw [if_pos k6, if_pos k6]; exact (LA.mk h m _).k
      rw [if_neg k6, if_neg k6]
      by_cases k7 : y = 7
      · rw [if_pos k7, if_pos k7]; exact (LA.mk h m _).k
      rw [if_neg k7, if_neg k7]
      by_cases k8 : y = 8
      · rw [if_pos k8, if_pos k8]; exact (LA.mk h m _).k
      rw [if_neg k8, if_neg k8]
      by_cases k9 : y = 9
      · subst k9
        obtain ⟨v, u, w, a1, a2, a3, a4, a5⟩ := now_lock h m hb
        rw [if_pos rfl, if_pos rfl, a1, a2, b2s, b2s]
        rcases a3 with e | e
        · rw [if_pos e, if_pos e]; exact (LA.mk a4 a5 _).k
        · rw [if_neg (by rw [e]; decide), if_neg (by rw [e]; decide)]; exact (LA.mk a4 a5 _).k
      rw [if_neg k9, if_neg k9]
      have k10 : y = 10 := by
        obtain ⟨q1, q2⟩ := k
        rw [Int32.le_iff_toInt_le, show (0 : Int32).toInt = 0 from by decide] at q1
        rw [Int32.le_iff_toInt_le, show (10 : Int32).toInt = 10 from by decide] at q2
        have g := nI_asI q1
        have ne : ∀ j : Nat, y ≠ nI j → y.toInt.toNat ≠ j := fun j hj q => hj (by rw [g, q])
        have := ne 0 k0
        have := ne 1 k1
        have := ne 2 k2
        have := ne 3 k3
        have := ne 4 k4
        have := ne 5 k5
        have := ne 6 k6
        have := ne 7 k7
        have := ne 8 k8
        have := ne 9 k9
        rw [g, show y.toInt.toNat = 10 by omega]
        rfl
      obtain ⟨mi, hmi, emi⟩ := h.rl.2.2.1
      obtain ⟨v, u, w, a1, a2, a3, a4⟩ := owe_lock h (AG.refl A) m hb (mi := A 0 10) ⟨mi, by omega, emi⟩
      rw [if_pos k10, a1, a2, b2s, b2s]
      exact (LA.mk a3 a4 _).k
    · rw [if_neg k, if_pos (show (0 : Int32) = 0 from rfl)]
      have ne : ∀ j : Nat, j ≤ 10 → y ≠ nI j := fun j hj q => k (by rw [q]; exact ⟨nI_pos' (by omega), nI_le (b := 10) hj (by decide)⟩)
      have q0 : ¬ y = 0 := ne 0 (by decide)
      have q1 : ¬ y = 1 := ne 1 (by decide)
      have q2 : ¬ y = 2 := ne 2 (by decide)
      have q3 : ¬ y = 3 := ne 3 (by decide)
      have q4 : ¬ y = 4 := ne 4 (by decide)
      have q5 : ¬ y = 5 := ne 5 (by decide)
      have q6 : ¬ y = 6 := ne 6 (by decide)
      have q7 : ¬ y = 7 := ne 7 (by decide)
      have q8 : ¬ y = 8 := ne 8 (by decide)
      have q9 : ¬ y = 9 := ne 9 (by decide)
      have q10 : ¬ y = 10 := ne 10 (by decide)
      rw [if_neg q0, if_neg q1, if_neg q2, if_neg q3, if_neg q4, if_neg q5, if_neg q6, if_neg q7, if_neg q8, if_neg q9, if_neg q10]
      exact (LA.mk h m _).k
  · rw [e1, e2, Option.bind_some, Option.bind_some, if_pos rfl, if_pos rfl]
    exact (LA.mk h m _).k
theorem call_lock (h : JX z σ Z B U ω n nt μX A) (m : JM z Y μM A) (x : Int32) : LK z σ Z Y B U ω n nt (f_X10_call σ μX z x) (f_X11_call σ μM (z + 27) x) := by
  have S := h.sh
  have hU := S.sx
  have n7 := S.n7
  unfold f_X10_call f_X11_call
  rw [c_0 hU, c_27 hU]
  rcases isb_lock h m x with ⟨b, hb, rfl, e1, e2⟩ | ⟨e1, e2, -⟩
  · have b7 : b < 7 := by omega
    rw [e1, e2, Option.bind_some, Option.bind_some, if_neg n10, if_neg n10, x_on h hb, Option.bind_some, r_27_6 hU, Option.bind_some, a_33 hU b7, Option.bind_some, jm_6 m]
    by_cases c : A 6 b = 0
    · rw [if_pos c, if_neg n10, if_pos c]
      obtain ⟨v, u, w, a1, a2, a3, a4, a5⟩ := now_lock h m hb
      rw [a1, a2, b2s, b2s]
      rcases a3 with e | e
      · rw [if_pos e, if_pos e]; exact (LA.mk a4 a5 _).k
      · rw [if_neg (by rw [e]; decide), if_neg (by rw [e]; decide)]
        have g1 : rg (A 0 10 + A 7 b) 20000 ∨ True := Or.inr trivial
        obtain ⟨mi, hmi, emi⟩ := h.rl.2.2.1
        obtain ⟨k0, hk0, n1, -⟩ := needs_lock a4 a5 hb
        have hk : rg (A 0 10 + nI k0) 20000 := by rw [emi, nI_add]; exact ⟨mi + k0, by omega, rfl⟩
        have h5 : JX z σ Z B U ω n nt (th_w u (B b + 1) 5 (A 0 10 + nI k0)) (th_w A 7 b (A 0 10 + nI k0)) := a4.wnow hb (by omega) (by
          obtain ⟨c0, c1, c2, c3, c4, c5⟩ := h.rn b hb
          simp only [th_w_at]
          simp [c0, c1, c2, c3, c4, hk])
        have h4 : JX z σ Z B U ω n nt (th_w (th_w u (B b + 1) 5 (A 0 10 + nI k0)) (B b + 1) 4 1) (th_w (th_w A 7 b (A 0 10 + nI k0)) 6 b 1) := h5.wnow hb (by omega) (by
          obtain ⟨c0, c1, c2, c3, c4, c5⟩ := h.rn b hb
          simp only [th_w_at]
          simp [c0, c1, c2, c3, hk]
          exact ⟨1, by decide, rfl⟩)
        have eX : th_w (th_w u (B b + 1) 5 (A 0 10 + nI k0)) (B b + 1) 4 1 = th_w (th_w u (B b + 1) 4 1) (B b + 1) 5 (A 0 10 + nI k0) := by
          funext p k
          simp only [th_w_at]
          by_cases c : k = 4 <;> by_cases d : k = 5 <;> simp [c, d]
        have m4 : JM z Y (th_w w (z + 33) b 1) (th_w A 6 b 1) := a5.w (p := 6) (by decide)
        -- how many minutes it needs does not hang on how it is
        have nX : f_X10_needs σ (th_w u (B b + 1) 4 1) z (nI b) = some (nI k0) := by
          rw [← n1]
          unfold f_X10_needs
          have cu : (th_w u (B b + 1) 4 1) (z + 2) = u (z + 2) := th_w_ne _ _ (fun q => h.bz hb (j := 1) (k := 2) (by decide) (by decide) (by decide) q.symm)
          have R1 := S.rows (μ := u) hb (w := u (z + 2) 5) (by rw [a4.lk.2.1]; exact h.rl.2.1) (by rw [(a4.nw b hb).2.2.2.1]; exact (h.rn b hb).2.2.2.1)
          have R2 := S.rows (μ := th_w u (B b + 1) 4 1) hb (w := u (z + 2) 5) (by rw [a4.lk.2.1]; exact h.rl.2.1) (by rw [th_w_hit, if_neg (by decide), (a4.nw b hb).2.2.2.1]; exact (h.rn b hb).2.2.2.1)
          rw [th_w_hit, if_neg (by decide)] at R2
          simp only [r_0_0 hU, Option.bind_some, S.oq hb, S.b0 hb, S.ban hb (show 0 < 6 by decide), r_0_2 hU, an_2 hU (show 5 < 12 by decide), cu, R1, R2]
          rw [th_w_hit, if_neg (by decide)]
        have nM : f_X11_needs σ (th_w w (z + 33) b 1) (z + 27) (nI b) = some (nI k0) := by
          obtain ⟨k1, -, -, n2⟩ := needs_lock a4 a5 hb
          obtain ⟨k2, -, n3, n4⟩ := needs_lock a4 a5 hb
          have e : nI k2 = nI k0 := by rw [n1] at n3; exact (Option.some.inj n3).symm
          have M4 : f_X11_rows σ (th_w w (z + 33) b 1) (z + 27) (nI b) = some (sRows (A 1 b) (A 0 9) (A 2 b)) := by rw [m_rows m4 hU b7, th_w_ne _ _ (by decide), th_w_ne _ _ (by decide), th_w_ne _ _ (by decide)]
          rw [← e, ← n4]
          unfold f_X11_needs
          have c3 : (th_w w (z + 33) b 1) (z + 30) = w (z + 30) := th_w_ne _ _ (by omega)
          rw [r_27_3 hU, Option.bind_some, Option.bind_some, a_30 hU b7, a_30 hU b7, Option.bind_some, Option.bind_some, c3]
          simp only [c_27 hU, M4, m_rows a5 hU b7]
        have m5 : JM z Y (th_w (th_w w (z + 33) b 1) (z + 34) b (A 0 10 + nI k0)) (th_w (th_w A 6 b 1) 7 b (A 0 10 + nI k0)) := m4.w (p := 7) (by decide)
        have eA : th_w (th_w A 6 b 1) 7 b (A 0 10 + nI k0) = th_w (th_w A 7 b (A 0 10 + nI k0)) 6 b 1 := by
          funext p k
          simp only [th_w_at]
          by_cases c : p = 6 <;> by_cases d : p = 7 <;> simp [c, d]
        rw [eA] at m5
        rw [eX] at h4
        have cu : (th_w u (B b + 1) 4 1) (z + 2) 9 = A 0 10 := by rw [th_w_ne _ _ (fun q => h.bz hb (j := 1) (k := 2) (by decide) (by decide) (by decide) q.symm), a4.lk.2.2.2.2.2.1]
        have cm : (th_w w (z + 33) b 1) (z + 27) 10 = A 0 10 := by rw [th_w_ne _ _ (by omega), jm_0_10 a5]
        have tX : ((oR σ 10 z 0).bind fun a5 => (oQ σ 13 a5 (nI b)).bind fun a6 => (oB σ a6 0).bind fun a7 => (oSn σ u a7 4 1).bind fun μ8 => (oR σ 10 z 0).bind fun a9 => (oQ σ 13 a9 (nI b)).bind fun a10 => (oB σ a10 0).bind fun a11 => (oR σ 10 z 2).bind fun a12 => (oAn σ μ8 a12 9).bind fun v13 => (f_X10_needs σ μ8 z (nI b)).bind fun v14 => (oSn σ μ8 a11 5 (v13 + v14)).bind fun μ15 => some ((1 : Int32), μ15)) = some (1, th_w (th_w u (B b + 1) 4 1) (B b + 1) 5 (A 0 10 + nI k0)) := by
          simp only [r_0_0 hU, Option.bind_some, S.oq hb, S.b0 hb, S.bsn hb (show 4 < 6 by decide), S.bsn hb (show 5 < 6 by decide), r_0_2 hU, an_2 hU (show 9 < 12 by decide), nX, cu]
        have tM : ((oR σ 11 (z + 27) 6).bind fun a6 => (oS σ w a6 (nI b) 1).bind fun μ7 => (oR σ 11 (z + 27) 7).bind fun a8 => (oI σ μ7 11 (z + 27) 10).bind fun v9 => (f_X11_needs σ μ7 (z + 27) (nI b)).bind fun v10 => (oS σ μ7 a8 (nI b) (v9 + v10)).bind fun μ11 => some ((1 : Int32), μ11)) = some (1, th_w (th_w w (z + 33) b 1) (z + 34) b (A 0 10 + nI k0)) := by
          simp only [r_27_6 hU, Option.bind_some, s_33 hU b7, r_27_7 hU, i_27 hU, nM, s_34 hU b7, cm]
        rw [r_27_6 hU, Option.bind_some] at tM
        rw [tX, Option.bind_some, tM]
        exact (LA.mk h4 m5 1).k
    · rw [if_neg c, if_pos (show (0 : Int32) = 0 from rfl), if_neg c]
      exact (LA.mk h m _).k
  · rw [e1, e2, Option.bind_some, Option.bind_some, if_pos rfl, if_pos rfl]
    exact (LA.mk h m _).k
end O2
