section BL
variable {z : Nat} {σ σ' σM : th_S} {Z Y : th_M} {B U ω : Nat → Nat} {n nt b t : Nat} {μ μ' μX μM A A' A2 : th_M} {K : Nat → Int32}
/-- one boat more -/
def bA (A : th_M) (n : Nat) (k what time : Int32) : th_M := fun p b => if p = 0 then (if b = 0 then nI (n + 1) else A 0 b) else if b = n then (if p = 1 then k else if p = 2 then jrem what 100 else if p = 3 then what / 100 else if p = 4 then jrem time 1000 else if p = 5 then time / 1000 else if p = 6 then 0 else if p = 7 then -1 else A p b) else A p b
/-- what boat() does -/
def BT (A : th_M) (n : Nat) (x1 x2 x3 v : Int32) (A' : th_M) (n' : Nat) : Prop := (¬ okB x1 x2 x3 ∧ v = -2 ∧ A' = A ∧ n' = n) ∨ (okB x1 x2 x3 ∧ n = 7 ∧ v = -4 ∧ A' = A ∧ n' = n) ∨ (okB x1 x2 x3 ∧ n < 7 ∧ v = nI n ∧ A' = bA A n x1 x2 x3 ∧ n' = n + 1)
theorem kb6 : ∀ j, j < 6 → th_b (kcls (nI j)) = true := by decide +kernel
theorem boat_ok {j w t : Nat} (hj : j ≤ 5) (hw : w ≤ 4709) (hw2 : w % 100 ≤ 9) (ht : 5000 ≤ t) (ht2 : t ≤ 240999) : f_X10_boat σ μ z (nI j) (nI w) (nI t) = (oI σ μ 10 z 1).bind fun v4 =>
      if v4 < 7 then ((oR σ 10 z 0).bind fun a5 =>
          (oI σ μ 10 z 1).bind fun v6 =>
          b3 (f_X10_newBoat σ μ (nI j) (nI w) (nI t)) fun a7 σ8 μ9 =>
          (oSQ σ8 13 a5 v6 a7).bind fun σ10 =>
          (oI σ10 μ9 10 z 1).bind fun v11 =>
          (oPI σ10 μ9 10 z 1 (v11 + 1)).bind fun μ12 =>
          (oI σ10 μ12 10 z 1).bind fun v13 =>
          some (v13 - 1, σ10, μ12)) else some (-4, σ, μ) := by
  unfold f_X10_boat
  rw [if_neg (nI_pos (by omega)), if_neg (show ¬ (5 : Int32) < nI j from (nI_nlt hj (by decide) : ¬ nI 5 < nI j)), if_neg (nI_pos (by omega)), if_pos (nI_pos' (by omega)), fit_0, Option.bind_some, fit_3, fit_2]
  rw [show (100 : Int32) = nI 100 from rfl, show (1000 : Int32) = nI 1000 from rfl, nI_div (by omega) (by decide), nI_div (by omega) (by decide), jrem_nI (by omega) (by decide)]
  rw [if_pos (show (0 : Int32) ≤ nI (w / 100) ∧ nI (w / 100) ≤ 47 from ⟨nI_pos' (by omega), (nI_le (by omega) (by decide) : nI (w / 100) ≤ nI 47)⟩), if_neg n10, Option.bind_some, if_pos (show (0 : Int32) ≤ nI (w % 100) ∧ nI (w % 100) ≤ 9 from ⟨nI_pos' (by omega), (nI_le (by omega) (by decide) : nI (w % 100) ≤ nI 9)⟩), if_neg n10, Option.bind_some, if_pos (show (5 : Int32) ≤ nI (t / 1000) ∧ nI (t / 1000) ≤ 240 from ⟨(nI_le (by omega) (by omega) : nI 5 ≤ nI (t / 1000)), (nI_le (by omega) (by decide) : nI (t / 1000) ≤ nI 240)⟩), if_neg n10]
theorem boat_x (h : JX z σ Z B U ω n nt μ A) (x1 x2 x3 : Int32) : ∃ v A' n', BT A n x1 x2 x3 v A' n' ∧ ∃ σ' μ' B' ω', f_X10_boat σ μ z x1 x2 x3 = some (v, σ', μ') ∧ JX z σ' Z B' U ω' n' nt μ' A' := by
  have S := h.sh
  have hU := S.sx
  have n7 := S.n7
  have z48 := S.sx.2.2.2
  by_cases c : okB x1 x2 x3
  · obtain ⟨j, w, t, hj, hw, hw2, ht, ht2, rfl, rfl, rfl⟩ := id c
    rw [boat_ok hj hw hw2 ht ht2, i_0 hU, Option.bind_some, h.xn]
    by_cases d : n < 7
    · rw [if_pos (show nI n < 7 from (nI_lt d (by decide) : nI n < nI 7)), r_0_0 hU, Option.bind_some, Option.bind_some]
      obtain ⟨σ', μ', e, F, f1, f2, f3, f4, f5, v⟩ := new_boat (σ := σ) (μ := μ) hj (nI w) (nI t)
      rw [e, b3s]
      have q1 := (F (z + 1) (by omega)).1
      have q2 := (F (z + 1) (by omega)).2.1
      have q3 := (F z (by omega)).1
      have o : oSQ σ' 13 (z + 1) (nI n) σ.2.2.2 = some (th_wR σ' (z + 1) n σ.2.2.2) := by
        unfold oSQ
        rw [if_pos ⟨by rw [q1]; exact sk_1 hU, by rw [f1]; exact kb6 j (by omega), by rw [q2, sl_1 hU]; exact nI_in d (by decide)⟩, nI_clamp (by omega)]
      have k0 : (th_wR σ' (z + 1) n σ.2.2.2).1 z = 10 := by
        show σ'.1 z = 10
        rw [q3]; exact sk_0 hU
      have i0 : ∀ μ : th_M, oI (th_wR σ' (z + 1) n σ.2.2.2) μ 10 z 1 = some (μ z 1) := fun μ => by unfold oI; rw [if_pos k0]
      have p0 : ∀ (μ : th_M) (v : Int32), oPI (th_wR σ' (z + 1) n σ.2.2.2) μ 10 z 1 v = some (th_w μ z 1 v) := fun μ v => by unfold oPI; rw [if_pos k0]
      rw [o, Option.bind_some, i0, Option.bind_some, p0, Option.bind_some, i0, Option.bind_some, (F z (by omega)).2.2.2, h.xn, nI_1, th_w_self, nI_pred]
      refine ⟨nI n, bA A n (nI j) (nI w) (nI t), n + 1, Or.inr (Or.inr ⟨c, d, rfl, rfl, rfl⟩), th_wR σ' (z + 1) n σ.2.2.2, th_w μ' z 1 (nI (n + 1)), va_up B n σ.2.2.2, wB ω n σ.2.2.2, rfl, ?_⟩
      have g0 : (bA A n (nI j) (nI w) (nI t)) 3 n = nI w / 100 := by simp [bA]
      have g1 : (bA A n (nI j) (nI w) (nI t)) 4 n = jrem (nI t) 1000 := by simp [bA]
      have g2 : (bA A n (nI j) (nI w) (nI t)) 5 n = nI t / 1000 := by simp [bA]
      have g3 : (bA A n (nI j) (nI w) (nI t)) 2 n = jrem (nI w) 100 := by simp [bA]
      have g4 : (bA A n (nI j) (nI w) (nI t)) 6 n = 0 := by simp [bA]
      have g5 : (bA A n (nI j) (nI w) (nI t)) 7 n = -1 := by simp [bA]
      refine h.new d hj F f1 f2 f3 f4 f5 ⟨by rw [g0]; exact v.1, by rw [g1]; exact v.2.1, by rw [g2]; exact v.2.2.1, by rw [g3]; exact v.2.2.2.1, by rw [g4]; exact v.2.2.2.2.1, by rw [g5]; exact v.2.2.2.2.2⟩ ⟨?_, ?_, ?_, ?_, by rw [g4]; exact ⟨0, by decide, rfl⟩, fun q => absurd g4 q⟩ (by simp [bA]) (fun j hj => by simp [bA, hj]) (fun p b hb h1 _ => ?_) (fun p hp => ?_) (by simp [bA])
      · rw [g0, show (100 : Int32) = nI 100 from rfl, nI_div (by omega) (by decide)]; exact ⟨_, by omega, rfl⟩
      · rw [g1, show (1000 : Int32) = nI 1000 from rfl, jrem_nI (by omega) (by decide)]; exact ⟨_, by omega, rfl⟩
      · rw [g2, show (1000 : Int32) = nI 1000 from rfl, nI_div (by omega) (by decide)]; exact ⟨_, by omega, rfl⟩
      · rw [g3, show (100 : Int32) = nI 100 from rfl, jrem_nI (by omega) (by decide)]; exact ⟨_, by omega, rfl⟩
      · show (if p = 0 then _ else if b = n then _ else A p b) = A p b
        rw [if_neg (by omega), if_neg hb]
      · funext b
        show (if p = 0 then _ else if b = n then (if p = 1 then _ else if p = 2 then _ else if p = 3 then _ else if p = 4 then _ else if p = 5 then _ else if p = 6 then _ else if p = 7 then _ else A p b) else A p b) = A p b
        rw [if_neg (by omega), if_neg (show ¬ p = 1 by omega), if_neg (show ¬ p = 2 by omega), if_neg (show ¬ p = 3 by omega), if_neg (show ¬ p = 4 by omega), if_neg (show ¬ p = 5 by omega), if_neg (show ¬ p = 6 by omega), if_neg (show ¬ p = 7 by omega)]
        by_cases e : b = n
        · rw [if_pos e]
        · rw [if_neg e]
    · rw [if_neg (show ¬ nI n < 7 from (nI_nlt (by omega) (by omega) : ¬ nI n < nI 7))]
      exact ⟨-4, A, n, Or.inr (Or.inl ⟨c, by omega, rfl, rfl, rfl⟩), σ, μ, B, ω, rfl, h⟩
  · rw [x_bad c]
    exact ⟨-2, A, n, Or.inl ⟨c, rfl, rfl, rfl⟩, σ, μ, B, ω, rfl, h⟩
theorem boat_m (hU : SX σ z) (m : JM z Y μ A) (hn : A 0 0 = nI n) (n7 : n ≤ 7) {x1 x2 x3 v : Int32} {n' : Nat} (T : BT A n x1 x2 x3 v A' n') : ∃ μ', f_X11_boat σ μ (z + 27) x1 x2 x3 = some (v, μ') ∧ JM z Y μ' A' ∧ A' 0 0 = nI n' := by
  rcases T with ⟨c, e1, e2, e3⟩ | ⟨c, d, e1, e2, e3⟩ | ⟨c, d, e1, e2, e3⟩
  · rw [e1, e2, e3]
    exact ⟨μ, m_bad c, m, hn⟩
  all_goals
    rw [e1, e2, e3]
    clear e1 e2 e3
    obtain ⟨j, w, t, hj, hw, hw2, ht, ht2, rfl, rfl, rfl⟩ := id c
    have hs : ∀ {α : Type} (x y : α), (if (9 : Int32) < jrem (nI w) 100 then x else y) = y := fun x y => by
      rw [show (100 : Int32) = nI 100 from rfl, jrem_nI (by omega) (by decide)]
      exact if_neg (show ¬ (9 : Int32) < nI (w % 100) from (nI_nlt hw2 (by decide) : ¬ nI 9 < nI (w % 100)))
    unfold f_X11_boat
    rw [m_within, m_within, m_within, Option.bind_some, Option.bind_some, Option.bind_some, if_pos (show (0 : Int32) ≤ nI j ∧ nI j ≤ 5 from ⟨nI_pos' (by omega), (nI_le (by omega) (by decide) : nI j ≤ nI 5)⟩), if_neg n10, if_pos (show (0 : Int32) ≤ nI w ∧ nI w ≤ 4709 from ⟨nI_pos' (by omega), (nI_le (by omega) (by decide) : nI w ≤ nI 4709)⟩), if_neg n10, hs, if_pos (show (5000 : Int32) ≤ nI t ∧ nI t ≤ 240999 from ⟨(nI_le (by omega) (by omega) : nI 5000 ≤ nI t), (nI_le (by omega) (by decide) : nI t ≤ nI 240999)⟩), if_neg n10, i_27 hU, Option.bind_some, jm_0_0 m, hn]
  · rw [if_pos (show nI n = 7 by rw [d]; rfl)]
    exact ⟨μ, rfl, m, rfl⟩
  · rw [if_neg (show ¬ nI n = 7 from fun q => by have := (nI_eq (by omega) (by decide) : nI n = nI 7 ↔ n = 7).mp q; omega)]
    have w1 : ∀ (μ : th_M) (k : Nat) (v : Int32), th_w μ (z + 28) k v (z + 27) = μ (z + 27) := fun _ _ _ => th_w_ne _ _ (by omega)
    have w2 : ∀ (μ : th_M) (k : Nat) (v : Int32), th_w μ (z + 29) k v (z + 27) = μ (z + 27) := fun _ _ _ => th_w_ne _ _ (by omega)
    have w3 : ∀ (μ : th_M) (k : Nat) (v : Int32), th_w μ (z + 30) k v (z + 27) = μ (z + 27) := fun _ _ _ => th_w_ne _ _ (by omega)
    have w4 : ∀ (μ : th_M) (k : Nat) (v : Int32), th_w μ (z + 31) k v (z + 27) = μ (z + 27) := fun _ _ _ => th_w_ne _ _ (by omega)
    have w5 : ∀ (μ : th_M) (k : Nat) (v : Int32), th_w μ (z + 32) k v (z + 27) = μ (z + 27) := fun _ _ _ => th_w_ne _ _ (by omega)
    have w6 : ∀ (μ : th_M) (k : Nat) (v : Int32), th_w μ (z + 33) k v (z + 27) = μ (z + 27) := fun _ _ _ => th_w_ne _ _ (by omega)
    have w7 : ∀ (μ : th_M) (k : Nat) (v : Int32), th_w μ (z + 34) k v (z + 27) = μ (z + 27) := fun _ _ _ => th_w_ne _ _ (by omega)
    simp only [r_27_1 hU, r_27_2 hU, r_27_3 hU, r_27_4 hU, r_27_5 hU, r_27_6 hU, r_27_7 hU, Option.bind_some, i_27 hU, jm_0_0 m, hn, s_28 hU d, s_29 hU d, s_30 hU d, s_31 hU d, s_32 hU d, s_33 hU d, s_34 hU d, w1, w2, w3, w4, w5, w6, w7, p_27 hU, nI_1]
    refine ⟨_, rfl, ?_, by simp [bA]⟩
    refine JM.as ((((((((m.w (p := 1) (by decide)).w (p := 3) (by decide)).w (p := 2) (by decide)).w (p := 5) (by decide)).w (p := 4) (by decide)).w (p := 6) (by decide)).w (p := 7) (by decide)).w (p := 0) (by decide)) (fun p k hp hs => ?_)
    simp only [th_w_at, bA]
    rcases (by omega : p = 0 ∨ p = 1 ∨ p = 2 ∨ p = 3 ∨ p = 4 ∨ p = 5 ∨ p = 6 ∨ p = 7 ∨ 8 ≤ p) with e | e | e | e | e | e | e | e | e
    · subst e; by_cases c0 : k = 0 <;> simp [c0]
    · subst e; by_cases c0 : k = n <;> simp [c0]
    · subst e; by_cases c0 : k = n <;> simp [c0]
    · subst e; by_cases c0 : k = n <;> simp [c0]
    · subst e; by_cases c0 : k = n <;> simp [c0]
    · subst e; by_cases c0 : k = n <;> simp [c0]
    · subst e; by_cases c0 : k = n <;> simp [c0]
    · subst e; by_cases c0 : k = n <;> simp [c0]
    · simp [show ¬ p = 0 by omega, show ¬ p = 1 by omega, show ¬ p = 2 by omega, show ¬ p = 3 by omega, show ¬ p = 4 by omega, show ¬ p = 5 by omega, show ¬ p = 6 by omega, show ¬ p = 7 by omega]
end BL
