section FE
variable {z : Nat} {σ : th_S} {Z Y : th_M} {B U ω : Nat → Nat} {n nt b t : Nat} {μ μ' μX μM A A' A2 : th_M}
theorem JX.wsc (h : JX z σ Z B U ω n nt μ A) {k j : Nat} {v : Int32} (hk : 9 ≤ k ∧ k ≤ 11) : JX z σ Z B U ω n nt (th_w μ (z + k) j v) A := by
  have o := h.sh.wz k (by omega) (by omega)
  refine h.sc (fun q hq _ => th_w_ne _ _ (fun e => hq (by rw [e, o]; exact Or.inr (Or.inr (Or.inl hk))))) ?_
  rw [th_w_ne _ _ (by omega)]
theorem JX.row12 (h : JX z σ Z B U ω n nt μ A) (e : ∀ q, q ≠ z + 12 → μ' q = μ q) (h0 : ∀ j, j < 7 → μ' (z + 12) j = 0) : JX z σ Z B U ω n nt μ' A := by
  have S := h.sh
  have n7 := S.n7
  have t6 := S.t6.2
  have o12 := S.wz 12 (by decide) (by decide)
  have V : ∀ q, ω q ≠ 12 → μ' q = μ q := fun q hq => e _ (fun c => hq (by rw [c, o12]))
  have E : ∀ k, k < 48 → (k < 23 ∨ 27 ≤ k) → k ≠ 12 → μ' (z + k) = μ (z + k) := fun k h1 h2 h3 => V _ (by rw [S.wz k h1 h2]; exact h3)
  have EB : ∀ b, b < n → ∀ j, j < 3 → μ' (B b + j) = μ (B b + j) := fun b hb j hj => V _ (by rw [S.wb b hb j hj]; omega)
  have EU : ∀ t, t < nt → ∀ j, j < 4 → μ' (U t + j) = μ (U t + j) := fun t ht j hj => V _ (by rw [S.wu t ht j hj]; omega)
  have E0 : μ' z = μ z := E 0 (by decide) (by decide) (by decide)
  refine ⟨S, fun p hp => ?_, ⟨by rw [E 13 (by decide) (by decide) (by decide)]; exact h.fo, h0⟩, h.nn, by rw [E0]; exact h.xn, fun b hb => ?_, h.rn, ?_, h.rl, ?_, fun i hi => ?_, by rw [E0]; exact h.xt, h.at, h.ru, fun t ht => ?_, ?_⟩
  · rw [E (27 + p) (by omega) (by omega) (by omega)]; exact h.fz p hp
  · rw [EB b hb 1 (by decide)]; exact h.nw b hb
  · rw [E 2 (by decide) (by decide) (by decide)]; exact h.lk
  · rw [E 5 (by decide) (by decide) (by decide), E 4 (by decide) (by decide) (by decide)]; exact h.tp
  · rw [E (15 + 2 * i) (by omega) (by omega) (by omega), E (16 + 2 * i) (by omega) (by omega) (by omega)]; exact h.st i hi
  · rw [EU t ht 1 (by decide), EU t ht 2 (by decide)]; exact h.cd t ht
  · rw [E0, E 3 (by decide) (by decide) (by decide)]
    rcases h.im with q | ⟨q1, no, q2, q3, q4, q5, q6, q7, q8⟩
    · exact Or.inl q
    · exact Or.inr ⟨q1, no, q2, q3, q4, q5, q6, q7, fun b hb => by rw [EB b (by omega) 2 (by decide)]; exact q8 b hb⟩
theorem JM.gs (m : JM z Y μ A) (g : GS z μ μ') : JM z Y μ' A := by
  refine ⟨fun p k hp hs => ?_, fun q hq => ?_⟩
  · rw [← m.1 p k hp hs]
    unfold scr at hs
    by_cases c : p = 0
    · subst c
      exact g.2 k (by omega)
    · exact congrFun (g.1 (z + (27 + p)) (by omega) (by omega) (by omega)) k
  · rw [g.1 q (by omega) (by omega) (by omega)]; exact m.2 q hq
/-- the cells, TOWS, SPEED -/
def cF (A : th_M) (n b : Nat) : Nat := if b < n then (A 3 b).toInt.toNat else 0
def tF (A : th_M) : Nat := (A 0 11).toInt.toNat
def sF (A : th_M) : Nat := (A 0 12).toInt.toNat
def FQ (A : th_M) (n s : Nat) : Nat × List Nat := RQ (cF A n) (tF A) (sF A) (pc s) s 0 0
theorem rg_n {v : Int32} {m : Nat} (h : rg v m) (hm : m < 2 ^ 31) : v = nI v.toInt.toNat ∧ v.toInt.toNat ≤ m := by
  obtain ⟨k, hk, rfl⟩ := h
  rw [nI_toInt (by omega)]
  exact ⟨rfl, by omega⟩
theorem JX.cf (h : JX z σ Z B U ω n nt μ A) : (∀ b, b < n → A 3 b = nI (cF A n b)) ∧ (∀ b, b < 7 → cF A n b < 48) ∧ A 0 11 = nI (tF A) ∧ 0 < tF A ∧ tF A ≤ 6 ∧ A 0 12 = nI (sF A) ∧ sF A ≤ 9 := by
  have l := h.rl
  obtain ⟨t1, t2⟩ := rg_n l.2.2.2.1 (by decide)
  obtain ⟨s1, s2⟩ := rg_n l.2.2.2.2.1 (by decide)
  refine ⟨fun b hb => ?_, fun b hb => ?_, t1, ?_, t2, s1, s2⟩
  · unfold cF
    rw [if_pos hb]
    exact (rg_n (h.rn b hb).1 (by decide)).1
  · unfold cF
    by_cases c : b < n
    · rw [if_pos c]
      have := (rg_n (h.rn b c).1 (by decide)).2
      omega
    · rw [if_neg c]; decide
  · by_cases c : tF A = 0
    · exfalso
      apply l.2.2.2.2.2.2.1
      rw [t1]
      show nI (tF A) = 0
      rw [c]; rfl
    · omega
def TR (z n : Nat) (A μ : th_M) : Prop := (∀ b, b < n → μ (z + 11) b = nI (cF A n b)) ∧ μ (z + 10) 1 = nI (tF A) ∧ μ (z + 10) 2 = nI (sF A)
theorem ready_loop : ∀ k i f μ, i + k = n → k < f → JX z σ Z B U ω n nt μ A → (∀ b, b < i → μ (z + 11) b = nI (cF A n b)) → ∃ μ', f_X10_readyTug_b2 f σ μ z (nI i) = some μ' ∧ JX z σ Z B U ω n nt μ' A ∧ TR z n A μ' := by
  intro k
  induction k with
  | zero =>
    intro i f μ hi hf h D
    obtain ⟨f, rfl⟩ : ∃ f', f = f' + 1 := ⟨f - 1, by omega⟩
    have e : i = n := by omega
    subst e
    have hU := h.sh.sx
    obtain ⟨c1, c2, c3, c4, c5, c6, c7⟩ := h.cf
    refine ⟨th_w (th_w μ (z + 10) 1 (nI (tF A))) (z + 10) 2 (nI (sF A)), ?_, (h.wsc (by decide)).wsc (by decide), fun b hb => ?_, ?_, th_w_self _ _ _ _⟩
    · show (oI σ μ 10 z 1).bind _ = _
      rw [i_0 hU, Option.bind_some, h.xn, if_pos (Int32.le_refl _), r_0_9 hU, Option.bind_some, r_0_2 hU, Option.bind_some, an_2 hU (by decide), Option.bind_some, p_10 hU, Option.bind_some, Option.bind_some, Option.bind_some, an_2 hU (by decide), Option.bind_some, p_10 hU, Option.bind_some, h.lk.2.2.1, th_w_ne _ _ (show z + 2 ≠ z + 10 by omega), h.lk.2.2.2.1, c3, c6]
    · rw [th_w_ne _ _ (by omega), th_w_ne _ _ (by omega)]; exact D b hb
    · rw [th_w_hit, if_neg (by decide), th_w_self]
  | succ k ih =>
    intro i f μ hi hf h D
    obtain ⟨f, rfl⟩ : ∃ f', f = f' + 1 := ⟨f - 1, by omega⟩
    have S := h.sh
    have hU := S.sx
    have n7 := S.n7
    have hin : i < n := by omega
    have nl : ¬ nI n ≤ nI i := nI_ge hin (by omega)
    obtain ⟨c1, c2, c3, c4, c5, c6, c7⟩ := h.cf
    obtain ⟨μ', a1, a2, a3⟩ := ih (i + 1) f (th_w μ (z + 11) i (nI (cF A n i))) (by omega) (by omega) (h.wsc (by decide)) (fun b hb => by
      rw [th_w_hit]
      by_cases e : b = i
      · rw [if_pos e, e]
      · rw [if_neg e]; exact D b (by omega))
    refine ⟨μ', ?_, a2, a3⟩
    show (oI σ μ 10 z 1).bind _ = _
    rw [i_0 hU, Option.bind_some, h.xn, if_neg nl, r_0_9 hU, Option.bind_some, r_10_0 hU, Option.bind_some, r_0_0 hU, Option.bind_some, S.oq hin, Option.bind_some, S.b0 hin, Option.bind_some, S.ban hin (by decide), Option.bind_some, (h.nw i hin).1, c1 i hin, s_11 hU (by omega), Option.bind_some, nI_1]
    exact a1
theorem x_ready (h : JX z σ Z B U ω n nt μ A) : ∃ μ', f_X10_readyTug σ μ z = some μ' ∧ JX z σ Z B U ω n nt μ' A ∧ TR z n A μ' := by
  have n7 := h.sh.n7
  exact ready_loop n 0 fu μ (Nat.zero_add _) (by unfold fu; omega) h (fun b hb => absurd hb (Nat.not_lt_zero _))
theorem TR.tg (r : TR z n A μ) (n7 : n ≤ 7) {s : Nat} (hs : s < 2 ^ n) : TG z (cF A n) (tF A) (sF A) s μ := by
  have p7 := pow_le7 n7
  refine ⟨fun b hb hbit => r.1 b ?_, r.2.1, r.2.2⟩
  by_cases c : b < n
  · exact c
  · have := (tb_lt n (by omega) s (by omega)).mp hs b hb (by omega)
    rw [this] at hbit
    exact absurd hbit (by decide)
theorem TR.fr (r : TR z n A μ) (e : ∀ q, q ≠ z + 12 → μ' q = μ q) : TR z n A μ' := ⟨fun b hb => by rw [e _ (by omega)]; exact r.1 b hb, by rw [e _ (by omega)]; exact r.2.1, by rw [e _ (by omega)]; exact r.2.2⟩
theorem x_min (h : JX z σ Z B U ω n nt μ A) (r : TR z n A μ) {s : Nat} (hs : s < 2 ^ n) : ∃ u, f_X9_minutes σ μ (z + 10) (nI s) = some (nI (FQ A n s).1, u) ∧ JX z σ Z B U ω n nt u A ∧ TR z n A u := by
  have n7 := h.sh.n7
  have p7 := pow_le7 n7
  obtain ⟨c1, c2, c3, c4, c5, c6, c7⟩ := h.cf
  obtain ⟨u, a1, a2, -, -, a5⟩ := x_minutes h.sh.sx c2 c4 c5 c7 (by omega) (r.tg n7 hs) h.f0
  exact ⟨u, a1, h.row12 a2 a5, r.fr a2⟩
theorem x_fas (h : JX z σ Z B U ω n nt μ A) (r : TR z n A μ) {s : Nat} (hs : s < 2 ^ n) {w : Nat} (hw : w ≤ 7) (hw1 : 1 ≤ w) : ∃ u, f_X9_fetchedAs σ μ (z + 10) (nI s) (nI w) = some (if w ≤ pc s then nI ((FQ A n s).2.getD (w - 1) 0) else -1, u) ∧ JX z σ Z B U ω n nt u A := by
  have n7 := h.sh.n7
  have p7 := pow_le7 n7
  obtain ⟨c1, c2, c3, c4, c5, c6, c7⟩ := h.cf
  obtain ⟨u, a1, a2, a5⟩ := x_fetched h.sh.sx c2 c4 c5 c7 (by omega) (r.tg n7 hs) h.f0 hw hw1
  exact ⟨u, a1, h.row12 a2 a5⟩
theorem m_fet (h : JX z σ Z B U ω n nt μX A) (m : JM z Y μ A) {s : Nat} (hs : s < 2 ^ n) : ∃ w, f_X11_fetches σ μ (z + 27) (nI s) = some (nI (FQ A n s).1, w) ∧ JM z Y w A ∧ ∀ i, i < pc s → w (z + 41) i = nI ((FQ A n s).2.getD i 0) := by
  have n7 := h.sh.n7
  obtain ⟨c1, c2, c3, c4, c5, c6, c7⟩ := h.cf
  obtain ⟨w, a1, a2, a3⟩ := m_fetches h.sh.sx n7 (μ := μ) (by rw [jm_0_0 m]; exact h.nn) (by rw [jm_0_11 m]; exact c3) (by rw [jm_0_12 m]; exact c6) c2 (fun b hb => by rw [jm_3 m]; exact c1 b hb) c5 c4 c7 hs
  exact ⟨w, a1, m.gs a2, a3⟩
theorem FQ_le (h : JX z σ Z B U ω n nt μ A) {s : Nat} (hs : s < 2 ^ n) : (FQ A n s).1 ≤ 2520 := by
  have n7 := h.sh.n7
  have p7 := pow_le7 n7
  obtain ⟨c1, c2, c3, c4, c5, c6, c7⟩ := h.cf
  have := (RQ_le c2 c5 c7 (pc s) s 0 0 (by omega) rfl c4 (by decide)).1
  have pl : pc s ≤ 7 := by unfold pc; omega
  unfold FQ
  omega
theorem fetch_lock (h : JX z σ Z B U ω n nt μX A) (m : JM z Y μM A) (x y : Int32) : LA z σ Z Y B U ω n nt A (f_X10_fetch σ μX z x y) (f_X11_fetch σ μM (z + 27) x y) := by
  have hU := h.sh.sx
  have n7 := h.sh.n7
  have p7 := pow_le7 n7
  obtain ⟨v, v1, v2, v3⟩ := x_onL h x
  obtain ⟨w, w1, w2, w3⟩ := m_onL hU m h.nn n7 x
  unfold f_X10_fetch f_X11_fetch
  rw [c_0 hU, c_27 hU, v1, w1, Option.bind_some, Option.bind_some, m_within, Option.bind_some]
  by_cases c : onL A n x
  · have e1 := v3.mpr c
    have e2 := w3.mpr c
    subst e1; subst e2
    rw [if_neg n10, if_neg n10]
    by_cases d : 0 ≤ y ∧ y ≤ 7
    · rw [if_neg (Int32.not_lt.mpr d.1), if_pos d.2, if_pos d, if_neg n10]
      obtain ⟨s, hs, rfl, -⟩ := c
      obtain ⟨k, hk, rfl⟩ : rg y 7 := rg_in d (by decide) (by decide)
      obtain ⟨u, a1, a2, a3⟩ := x_ready h
      obtain ⟨w, b1, b2, b3⟩ := m_fet h m hs
      rw [a1, Option.bind_some, b1, b2s]
      by_cases e : k = 0
      · subst e
        obtain ⟨u', c1, c2, -⟩ := x_min a2 a3 hs
        rw [if_pos (show nI 0 = 0 from rfl), if_pos (show nI 0 = 0 from rfl), r_0_9 hU, Option.bind_some, c_10 hU, c1, b2s]
        exact LA.mk c2 b2 _
      · obtain ⟨u', c1, c2⟩ := x_fas a2 a3 hs hk (by omega)
        rw [if_neg (nI_ne0 (by omega) (by omega)), if_neg (nI_ne0 (by omega) (by omega)), r_0_9 hU, Option.bind_some, c_10 hU, c1, b2s, bc_nI s (by omega), Option.bind_some]
        have pl : pc s ≤ 7 := by unfold pc; omega
        by_cases g : k ≤ pc s
        · rw [if_pos g, if_pos (nI_le g (by omega)), r_27_31 hU, Option.bind_some]
          obtain ⟨k, rfl⟩ : ∃ k', k = k' + 1 := ⟨k - 1, by omega⟩
          rw [nI_pred, a_41 hU (by omega), Option.bind_some, b3 k (by omega), Nat.add_sub_cancel]
          exact LA.mk c2 b2 _
        · rw [if_neg g, if_neg (nI_ge (by omega) (by omega))]
          exact LA.mk c2 b2 _
    · rw [if_neg d, if_pos (show (0 : Int32) = 0 from rfl)]
      by_cases e : y < 0
      · rw [if_pos e]; exact LA.mk h m _
      · rw [if_neg e, if_neg (fun q => d ⟨Int32.not_lt.mp e, q⟩)]; exact LA.mk h m _
  · have e1 : v = 0 := v2.resolve_right (fun q => c (v3.mp q))
    have e2 : w = 0 := w2.resolve_right (fun q => c (w3.mp q))
    rw [if_pos e1, if_pos e2]
    exact LA.mk h m _
theorem launch_loop {s : Nat} (hs : s < 128) (v : Int32) : ∀ k i f g A μX μM, i + k = n → k < f → k < g → JX z σ Z B U ω n nt μX A → JM z Y μM A → LK z σ Z Y B U ω n nt (f_X10_launch_b32 f σ μX z (nI s) v (nI i)) (f_X11_launch_b25 g σ μM (z + 27) (nI s) v (nI i)) := by
  intro k
  induction k with
  | zero =>
    intro i f g A μX μM hi hf hg h m
    obtain ⟨f, rfl⟩ : ∃ f', f = f' + 1 := ⟨f - 1, by omega⟩
    obtain ⟨g, rfl⟩ : ∃ g', g = g' + 1 := ⟨g - 1, by omega⟩
    have hU := h.sh.sx
    have e : i = n := by omega
    subst e
    have hX : f_X10_launch_b32 (f + 1) σ μX z (nI s) v (nI i) = some (v, μX) := by
      show (oI σ μX 10 z 1).bind _ = _
      rw [i_0 hU, Option.bind_some, h.xn, if_pos (Int32.le_refl _)]
    have hM : f_X11_launch_b25 (g + 1) σ μM (z + 27) (nI s) v (nI i) = some (v, μM) := by
      show (oI σ μM 11 (z + 27) 0).bind _ = _
      rw [i_27 hU, Option.bind_some, jm_0_0 m, h.nn, if_pos (Int32.le_refl _)]
    rw [hX, hM]
    exact (LA.mk h m v).k
  | succ k ih =>
    intro i f g A μX μM hi hf hg h m
    obtain ⟨f, rfl⟩ : ∃ f', f = f' + 1 := ⟨f - 1, by omega⟩
    obtain ⟨g, rfl⟩ : ∃ g', g = g' + 1 := ⟨g - 1, by omega⟩
    have hU := h.sh.sx
    have n7 := h.sh.n7
    have hin : i < n := by omega
    have nl : ¬ nI n ≤ nI i := nI_ge hin (by omega)
    have hX : f_X10_launch_b32 (f + 1) σ μX z (nI s) v (nI i) = if (jshr (nI s) (nI i)) &&& 1 = 1 then (f_X10_comeIn σ μX z (nI i) (A 0 10)).bind fun μ4 => f_X10_launch_b32 f σ μ4 z (nI s) v (nI (i + 1)) else f_X10_launch_b32 f σ μX z (nI s) v (nI (i + 1)) := by
      show (oI σ μX 10 z 1).bind _ = _
      rw [i_0 hU, Option.bind_some, h.xn, if_neg nl, r_0_2 hU, Option.bind_some, an_2 hU (by decide), Option.bind_some, h.lk.2.2.2.2.2.1, c_0 hU, nI_1]
    have hM : f_X11_launch_b25 (g + 1) σ μM (z + 27) (nI s) v (nI i) = if (jshr (nI s) (nI i)) &&& 1 = 1 then (f_X11_comesIn σ μM (z + 27) (nI i) (A 0 10)).bind fun μ4 => f_X11_launch_b25 g σ μ4 (z + 27) (nI s) v (nI (i + 1)) else f_X11_launch_b25 g σ μM (z + 27) (nI s) v (nI (i + 1)) := by
      show (oI σ μM 11 (z + 27) 0).bind _ = _
      rw [i_27 hU, Option.bind_some, jm_0_0 m, h.nn, if_neg nl, i_27 hU, Option.bind_some, jm_0_10 m, c_27 hU, nI_1]
    rw [hX, hM]
    by_cases c : (jshr (nI s) (nI i)) &&& 1 = 1
    · rw [if_pos c, if_pos c]
      obtain ⟨k10, hk10, ek⟩ := h.rl.2.2.1
      obtain ⟨u, w, A', a1, a2, a3, a4, -⟩ := in_lock h m hin (mi := A 0 10) ⟨k10, by omega, ek⟩
      rw [a1, a2, Option.bind_some, Option.bind_some]
      exact ih (i + 1) f g A' u w (by omega) (by omega) (by omega) a3 a4
    · rw [if_neg c, if_neg c]
      exact ih (i + 1) f g A μX μM (by omega) (by omega) (by omega) h m
theorem launch_lock (h : JX z σ Z B U ω n nt μX A) (m : JM z Y μM A) (x : Int32) : LK z σ Z Y B U ω n nt (f_X10_launch σ μX z x) (f_X11_launch σ μM (z + 27) x) := by
  have hU := h.sh.sx
  have n7 := h.sh.n7
  have p7 := pow_le7 n7
  obtain ⟨v, v1, v2, v3⟩ := x_onL h x
  obtain ⟨w, w1, w2, w3⟩ := m_onL hU m h.nn n7 x
  unfold f_X10_launch f_X11_launch
  rw [c_0 hU, c_27 hU, v1, w1, Option.bind_some, Option.bind_some]
  by_cases c : onL A n x
  · have e1 := v3.mpr c
    have e2 := w3.mpr c
    subst e1; subst e2
    rw [if_neg n10, if_neg n10]
    obtain ⟨s, hs, rfl, -⟩ := c
    obtain ⟨u, a1, a2, a3⟩ := x_ready h
    obtain ⟨w, b1, b2, -⟩ := m_fet h m hs
    obtain ⟨u', c1, c2, -⟩ := x_min a2 a3 hs
    rw [a1, Option.bind_some, b1, b2s, r_0_9 hU, Option.bind_some, c_10 hU, c1, b2s]
    obtain ⟨A', v', u2, w2, d1, d2, d3, d4⟩ := pass_lock c2 b2 (x := nI (FQ A n s).1) ⟨_, by have := FQ_le h hs; omega, rfl⟩
    rw [d1, d2, b2s, b2s]
    exact launch_loop (by omega) _ n 0 fu fu A' u2 w2 (Nat.zero_add _) (by unfold fu; omega) (by unfold fu; omega) d3 d4
  · have e1 : v = 0 := v2.resolve_right (fun q => c (v3.mp q))
    have e2 : w = 0 := w2.resolve_right (fun q => c (w3.mp q))
    rw [if_pos e1, if_pos e2]
    exact (LA.mk h m _).k
theorem one_loop (x : Int32) : ∀ k i f g x2 x3 μX μM, i + k = n → k < f → k < g → (x2 = -1 ∨ ∃ y, y < 7 ∧ x2 = nI y) → JX z σ Z B U ω n nt μX A → TR z n A μX → JM z Y μM A → LA z σ Z Y B U ω n nt A (f_X10_one_b23 f σ μX z x x2 x3 (nI i)) (f_X11_one__b19 g σ μM (z + 27) x x2 x3 (nI i)) := by
  intro k
  induction k with
  | zero =>
    intro i f g x2 x3 μX μM hi hf hg hx h r m
    obtain ⟨f, rfl⟩ : ∃ f', f = f' + 1 := ⟨f - 1, by omega⟩
    obtain ⟨g, rfl⟩ : ∃ g', g = g' + 1 := ⟨g - 1, by omega⟩
    have hU := h.sh.sx
    have e : i = n := by omega
    subst e
    have hX : f_X10_one_b23 (f + 1) σ μX z x x2 x3 (nI i) = if x = 0 then some (x2, μX) else some (x3, μX) := by
      show (oI σ μX 10 z 1).bind _ = _
      rw [i_0 hU, Option.bind_some, h.xn, if_pos (Int32.le_refl _)]
    have hM : f_X11_one__b19 (g + 1) σ μM (z + 27) x x2 x3 (nI i) = if x = 0 then some (x2, μM) else some (x3, μM) := by
      show (oI σ μM 11 (z + 27) 0).bind _ = _
      rw [i_27 hU, Option.bind_some, jm_0_0 m, h.nn, if_pos (Int32.le_refl _)]
    rw [hX, hM]
    by_cases c : x = 0
    · rw [if_pos c, if_pos c]; exact LA.mk h m _
    · rw [if_neg c, if_neg c]; exact LA.mk h m _
  | succ k ih =>
    intro i f g x2 x3 μX μM hi hf hg hx h r m
    obtain ⟨f, rfl⟩ : ∃ f', f = f' + 1 := ⟨f - 1, by omega⟩
    obtain ⟨g, rfl⟩ : ∃ g', g = g' + 1 := ⟨g - 1, by omega⟩
    have hU := h.sh.sx
    have n7 := h.sh.n7
    have hin : i < n := by omega
    have i7 : i < 7 := by omega
    have nl : ¬ nI n ≤ nI i := nI_ge hin (by omega)
    have pw : 2 ^ i < 2 ^ n := Nat.pow_lt_pow_right (by decide) hin
    by_cases c : A 6 i = 0
    · obtain ⟨u, a1, a2, a3⟩ := x_min h r pw
      obtain ⟨w, b1, b2, -⟩ := m_fet h m pw
      have fl := FQ_le h pw
      have hX : f_X10_one_b23 (f + 1) σ μX z x x2 x3 (nI i) = f_X10_one_b56 (f_X10_one_b23 f) σ u z x x2 x3 (nI i) (nI (FQ A n (2 ^ i)).1) := by
        show (oI σ μX 10 z 1).bind _ = _
        rw [i_0 hU, Option.bind_some, h.xn, if_neg nl, c_0 hU, x_on h hin, Option.bind_some, if_pos c, if_neg n10, r_0_9 hU, Option.bind_some, c_10 hU, shl_n i (by omega), a1, b2s]
      have hM : f_X11_one__b19 (g + 1) σ μM (z + 27) x x2 x3 (nI i) = if x2 < 0 then f_X11_one__b19 g σ w (z + 27) x (nI i) (nI (FQ A n (2 ^ i)).1) (nI (i + 1)) else (if nI (FQ A n (2 ^ i)).1 < x3 then f_X11_one__b19 g σ w (z + 27) x (nI i) (nI (FQ A n (2 ^ i)).1) (nI (i + 1)) else f_X11_one__b19 g σ w (z + 27) x x2 x3 (nI (i + 1))) := by
        show (oI σ μM 11 (z + 27) 0).bind _ = _
        rw [i_27 hU, Option.bind_some, jm_0_0 m, h.nn, if_neg nl, r_27_6 hU, Option.bind_some, a_33 hU i7, Option.bind_some, jm_6 m, if_pos c, c_27 hU, shl_n i (by omega), b1, b2s, nI_1]
      rw [hX, hM]
      unfold f_X10_one_b56
      rw [if_neg (fun q => by have := nI_pos (n := (FQ A n (2 ^ i)).1) (by omega); rw [q] at this; exact this (by decide)), nI_1]
      rcases hx with e | ⟨y, hy, e⟩
      · rw [if_pos e, if_pos (by rw [e]; decide)]
        exact ih (i + 1) f g _ _ u w (by omega) (by omega) (by omega) (Or.inr ⟨i, i7, rfl⟩) a2 a3 b2
      · have n1 : ¬ x2 = -1 := by
          rw [e]
          exact fun q => by have := nI_pos (n := y) (by omega); rw [q] at this; exact this (by decide)
        have n2 : ¬ x2 < 0 := by
          rw [e]
          exact nI_pos (by omega)
        rw [if_neg n1, if_neg n2]
        by_cases d : x3 ≤ nI (FQ A n (2 ^ i)).1
        · rw [if_pos d, if_neg (Int32.not_lt.mpr d)]
          exact ih (i + 1) f g _ _ u w (by omega) (by omega) (by omega) (Or.inr ⟨y, hy, e⟩) a2 a3 b2
        · rw [if_neg d, if_pos (Int32.not_le.mp d)]
          exact ih (i + 1) f g _ _ u w (by omega) (by omega) (by omega) (Or.inr ⟨i, i7, rfl⟩) a2 a3 b2
    · have hX : f_X10_one_b23 (f + 1) σ μX z x x2 x3 (nI i) = f_X10_one_b23 f σ μX z x x2 x3 (nI (i + 1)) := by
        show (oI σ μX 10 z 1).bind _ = _
        rw [i_0 hU, Option.bind_some, h.xn, if_neg nl, c_0 hU, x_on h hin, Option.bind_some, if_neg c, if_pos (show (0 : Int32) = 0 from rfl)]
        unfold f_X10_one_b56
        rw [if_pos rfl, nI_1]
      have hM : f_X11_one__b19 (g + 1) σ μM (z + 27) x x2 x3 (nI i) = f_X11_one__b19 g σ μM (z + 27) x x2 x3 (nI (i + 1)) := by
        show (oI σ μM 11 (z + 27) 0).bind _ = _
        rw [i_27 hU, Option.bind_some, jm_0_0 m, h.nn, if_neg nl, r_27_6 hU, Option.bind_some, a_33 hU i7, Option.bind_some, jm_6 m, if_neg c, nI_1]
      rw [hX, hM]
      exact ih (i + 1) f g _ _ μX μM (by omega) (by omega) (by omega) hx h r m
theorem one_lock (h : JX z σ Z B U ω n nt μX A) (m : JM z Y μM A) (x : Int32) : LA z σ Z Y B U ω n nt A (f_X10_one σ μX z x) (f_X11_one_ σ μM (z + 27) x) := by
  have hU := h.sh.sx
  have n7 := h.sh.n7
  unfold f_X10_one f_X11_one_
  rw [m_within, Option.bind_some]
  by_cases c : 0 ≤ x ∧ x ≤ 1
  · rw [if_neg (Int32.not_lt.mpr c.1), if_pos c.2, if_pos c, if_neg n10, c_0 hU]
    obtain ⟨u, a1, a2, a3⟩ := x_ready h
    rw [a1, Option.bind_some]
    exact one_loop x n 0 fu fu (-1) 0 u μM (Nat.zero_add _) (by unfold fu; omega) (by unfold fu; omega) (Or.inl rfl) a2 a3 m
  · rw [if_neg c, if_pos (show (0 : Int32) = 0 from rfl)]
    by_cases e : x < 0
    · rw [if_pos e]; exact LA.mk h m _
    · rw [if_neg e, if_neg (fun q => c ⟨Int32.not_lt.mp e, q⟩)]; exact LA.mk h m _
end FE
