section PSS
variable {z : Nat} {σ σ' : th_S} {n : Nat} {R : List (Nat × Nat × Nat)} {μ : th_M}
/-! THE START: cell by cell -/
def sxL' : List (Nat × Nat) := (24, 8) :: sxL
def PS (z : Nat) (σ : th_S) (n : Nat) (R : List (Nat × Nat × Nat)) : Prop := σ.2.2.2 = z + n ∧ (∀ k, k < n → σ.1 (z + k) = sxK.getD k 0) ∧ (∀ q ∈ sxL', q.1 < n → σ.2.1 (z + q.1) = q.2) ∧ ∀ q ∈ R, q.1 < n ∧ σ.2.2.1 (z + q.1) q.2.1 = some (z + q.2.2)
def MZ (z n : Nat) (μ : th_M) : Prop := ∀ q, z + n ≤ q → μ q = fun _ => 0
theorem MZ.up (h : MZ z n μ) {n' : Nat} (hn : n ≤ n') : MZ z n' μ := fun q hq => h q (by omega)
theorem MZ.w (h : MZ z n μ) {b j : Nat} {v : Int32} (hb : b < z + n) : MZ z n (th_w μ b j v) := fun q hq => by rw [th_w_ne _ _ (by omega)]; exact h q hq
theorem PS.al (h : PS z σ n R) {c l : Nat} (hc : sxK.getD n 0 = c) (hl : ∀ q ∈ sxL', q.1 = n → q.2 = l) : PS z (th_nS σ c l) (n + 1) R := by
  obtain ⟨h1, h2, h3, h4⟩ := h
  refine ⟨by show σ.2.2.2 + 1 = _; omega, fun k hk => ?_, fun q hq hk => ?_, fun q hq => ?_⟩
  · show va_up σ.1 σ.2.2.2 c (z + k) = _
    by_cases e : k = n
    · subst e; rw [h1, up_at, hc]
    · rw [up_ne _ _ (by omega)]; exact h2 k (by omega)
  · show va_up σ.2.1 σ.2.2.2 l (z + q.1) = _
    by_cases e : q.1 = n
    · rw [h1, e, up_at, hl q hq e]
    · rw [up_ne _ _ (by omega)]; exact h3 q hq (by omega)
  · obtain ⟨a, b⟩ := h4 q hq
    refine ⟨by omega, ?_⟩
    show va_up σ.2.2.1 σ.2.2.2 (fun _ => none) (z + q.1) q.2.1 = _
    rw [up_ne _ _ (by omega)]; exact b
theorem PS.rf (h : PS z σ n R) {k i j b : Nat} (hb : b = z + k) (hk : k < n) (hd : ∀ q ∈ R, ¬ (q.1 = k ∧ q.2.1 = i)) : PS z (th_wR σ b i (z + j)) n ((k, i, j) :: R) := by
  obtain ⟨h1, h2, h3, h4⟩ := h
  subst hb
  refine ⟨h1, h2, h3, fun q hq => ?_⟩
  show q.1 < n ∧ va_up σ.2.2.1 (z + k) (va_up (σ.2.2.1 (z + k)) i (some (z + j))) (z + q.1) q.2.1 = _
  rcases List.mem_cons.mp hq with e | hq
  · subst e
    exact ⟨hk, by rw [up_at, up_at]⟩
  · obtain ⟨a, b⟩ := h4 q hq
    refine ⟨a, ?_⟩
    by_cases e : q.1 = k
    · rw [e, up_at, up_ne _ _ (fun e2 => hd q hq ⟨e, e2⟩), ← e]; exact b
    · rw [up_ne _ _ (by omega)]; exact b
theorem PS.rn (h : PS z σ n R) {k i a b : Nat} (hb : b = z + k) (hd : ∀ q ∈ R, ¬ (q.1 = k ∧ q.2.1 = i)) : PS z (th_wR σ b i a) n R := by
  obtain ⟨h1, h2, h3, h4⟩ := h
  subst hb
  refine ⟨h1, h2, h3, fun q hq => ?_⟩
  show q.1 < n ∧ va_up σ.2.2.1 (z + k) (va_up (σ.2.2.1 (z + k)) i (some a)) (z + q.1) q.2.1 = _
  obtain ⟨a, b⟩ := h4 q hq
  refine ⟨a, ?_⟩
  by_cases e : q.1 = k
  · rw [e, up_at, up_ne _ _ (fun e2 => hd q hq ⟨e, e2⟩), ← e]; exact b
  · rw [up_ne _ _ (by omega)]; exact b
theorem PS.mkN (h : PS z σ n R) (hm : MZ z n μ) (c l : Nat) : oN σ μ c l = some (z + n, th_nS σ c l, μ) := by
  have e : th_nM σ μ = μ := by
    funext q
    show va_up μ σ.2.2.2 (fun _ => 0) q = _
    by_cases c : q = z + n
    · rw [h.1, c, up_at, hm _ (Nat.le_refl _)]
    · rw [h.1, up_ne _ _ c]
  show some (σ.2.2.2, th_nS σ c l, th_nM σ μ) = _
  rw [e, h.1]
theorem PS.k (h : PS z σ n R) {k b c : Nat} (hb : b = z + k) (hk : k < n) (hc : sxK.getD k 0 = c) : σ.1 b = c := by
  rw [hb, h.2.1 k hk, hc]
theorem PS.mkR (h : PS z σ n R) {k b c : Nat} (hb : b = z + k) (hk : k < n) (hc : sxK.getD k 0 = c) (i a : Nat) : oPR σ c b i a = some (th_wR σ b i a) := by
  unfold oPR
  rw [if_pos (h.k hb hk hc)]
theorem PS.mkI (h : PS z σ n R) {k b c : Nat} (hb : b = z + k) (hk : k < n) (hc : sxK.getD k 0 = c) (j : Nat) (v : Int32) : oPI σ μ c b j v = some (th_w μ b j v) := by
  unfold oPI
  rw [if_pos (h.k hb hk hc)]
theorem PS.rdI (h : PS z σ n R) {k b c : Nat} (hb : b = z + k) (hk : k < n) (hc : sxK.getD k 0 = c) (j : Nat) : oI σ μ c b j = some (μ b j) := by
  unfold oI
  rw [if_pos (h.k hb hk hc)]
theorem PS.rdR (h : PS z σ n R) {k b c i j : Nat} (hb : b = z + k) (hc : sxK.getD k 0 = c) (hr : (k, i, j) ∈ R) : oR σ c b i = some (z + j) := by
  obtain ⟨h1, h2⟩ := h.2.2.2 _ hr
  unfold oR
  rw [if_pos (h.k hb h1 hc), hb]
  exact h2
theorem PS.sn (h : PS z σ n R) {k b l j : Nat} (hb : b = z + k) (hk : k < n) (hc : sxK.getD k 0 = 12) (hl : (k, l) ∈ sxL') (hj : j < l) (v : Int32) : oSn σ μ b j v = some (th_w μ b j v) := by
  unfold oSn
  rw [if_pos ⟨h.k hb hk hc, by rw [hb, h.2.2.1 _ hl hk]; exact hj⟩]
theorem PS.s (h : PS z σ n R) {k b l j : Nat} (hb : b = z + k) (hk : k < n) (hc : sxK.getD k 0 = 12) (hl : (k, l) ∈ sxL') (hl2 : l ≤ 100000) (hj : j < l) (v : Int32) : oS σ μ b (nI j) v = some (th_w μ b j v) := oS_nI (h.k hb hk hc) (by rw [hb]; exact h.2.2.1 _ hl hk) hl2 hj
theorem PS.sq (h : PS z σ n R) {k b c l i a ka : Nat} (hb : b = z + k) (hk : k < n) (hc : sxK.getD k 0 = c) (hl : (k, l) ∈ sxL') (hl2 : l ≤ 100000) (hi : i < l) (ha : σ.1 a = ka) (ht : th_c c ka = true) : oSQ σ c b (nI i) a = some (th_wR σ b i a) := by
  unfold oSQ
  rw [if_pos ⟨h.k hb hk hc, by rw [ha]; exact ht, by rw [hb, h.2.2.1 _ hl hk]; exact nI_in hi (by omega)⟩, nI_clamp (by omega)]
theorem PS.C (h : PS z σ n R) {k b c : Nat} (hb : b = z + k) (hk : k < n) (hc : sxK.getD k 0 = c) {α : Type} (x : Option α) : oC σ c b x = x := by
  unfold oC
  rw [if_pos (h.k hb hk hc)]
/-- a new cell, named in an old one -/
theorem PS.ar (h : PS z σ n R) (hm : MZ z n μ) {k b c ck l i : Nat} (hb : b = z + k) (hk : k < n + 1) (hck : sxK.getD k 0 = ck) (hc : sxK.getD n 0 = c) (hl : ∀ q ∈ sxL', q.1 = n → q.2 = l) (hd : ∀ q ∈ R, ¬ (q.1 = k ∧ q.2.1 = i)) : ∃ σa σ', oN σ μ c l = some (z + n, σa, μ) ∧ oPR σa ck b i (z + n) = some σ' ∧ PS z σ' (n + 1) ((k, i, n) :: R) ∧ MZ z (n + 1) μ := by
  have h1 := h.al hc hl
  exact ⟨_, _, h.mkN hm c l, h1.mkR hb hk hck i _, h1.rf hb hk hd, hm.up (Nat.le_succ n)⟩
theorem PS.xT (h : PS z σ n R) (hn : 8 ≤ n) (r0 : (4, 0, 5) ∈ R) (r2 : (4, 2, 6) ∈ R) (r4 : (4, 4, 7) ∈ R) : XT σ z := ⟨h.2.1 4 (by omega), ⟨h.2.1 5 (by omega), h.2.2.1 (5, 160) (by decide) (by show 5 < n; omega)⟩, ⟨h.2.1 6 (by omega), h.2.2.1 (6, 160) (by decide) (by show 6 < n; omega)⟩, ⟨h.2.1 7 (by omega), h.2.2.1 (7, 3) (by decide) (by show 7 < n; omega)⟩, (h.2.2.2 _ r0).2, (h.2.2.2 _ r2).2, (h.2.2.2 _ r4).2⟩
def RX27h : List (Nat × Nat × Nat) := [(8, 0, 23), (23, 2, 26), (23, 1, 25), (23, 0, 24)]
def RX23 : List (Nat × Nat × Nat) := [(14, 3, 21), (21, 0, 22), (14, 2, 19), (19, 0, 20), (14, 1, 17), (17, 0, 18), (14, 0, 15), (15, 0, 16), (0, 11, 14), (0, 10, 13), (0, 9, 10), (10, 3, 12), (10, 0, 11), (0, 8, 9), (0, 6, 8), (0, 5, 4), (4, 4, 7), (4, 2, 6), (4, 0, 5), (0, 3, 3), (0, 2, 2), (0, 0, 1)]
/-- one sheet -/
theorem sheet_init {i : Nat} (hi : i < 4) (h : PS z σ (15 + 2 * i) R) (hm : MZ z (15 + 2 * i) μ) (hk15 : sxK.getD (15 + 2 * i) 0 = 6) (hk16 : sxK.getD (15 + 2 * i + 1) 0 = 12) (hl15 : ∀ q ∈ sxL', q.1 = 15 + 2 * i → q.2 = 3) (hl16 : ∀ q ∈ sxL', q.1 = 15 + 2 * i + 1 → q.2 = 40) (hr : (0, 11, 14) ∈ R) (hd1 : ∀ q ∈ R, ¬ (q.1 = 15 + 2 * i ∧ q.2.1 = 0)) (hd2 : ∀ q ∈ ((15 + 2 * i, 0, 15 + 2 * i + 1) :: R), ¬ (q.1 = 14 ∧ q.2.1 = i)) (f : Nat) : ∃ σ', f_X10_init_b115 (f + 1) σ μ z (nI i) = f_X10_init_b115 f σ' (th_w μ (z + (15 + 2 * i)) 1 (-1)) z (nI (i + 1)) ∧ PS z σ' (15 + 2 * (i + 1)) ((14, i, 15 + 2 * i) :: (15 + 2 * i, 0, 15 + 2 * i + 1) :: R) ∧ MZ z (15 + 2 * (i + 1)) (th_w μ (z + (15 + 2 * i)) 1 (-1)) := by
  have h1 := h.al hk15 hl15
  obtain ⟨σa, σ2, e1, e2, h2, m2⟩ := h1.ar (hm.up (Nat.le_succ _)) (k := 15 + 2 * i) (b := z + (15 + 2 * i)) (i := 0) rfl (by omega) hk15 hk16 hl16 hd1
  have h3 := h2.rf (k := 14) (i := i) (j := 15 + 2 * i) rfl (by omega) hd2
  refine ⟨th_wR σ2 (z + 14) i (z + (15 + 2 * i)), ?_, by rw [show 15 + 2 * (i + 1) = 15 + 2 * i + 1 + 1 by omega]; exact h3, by rw [show 15 + 2 * (i + 1) = 15 + 2 * i + 1 + 1 by omega]; exact m2.w (by omega)⟩
  show (if nI 4 ≤ nI i then _ else _) = _
  rw [if_neg (nI_ge hi (by decide)), h.rdR (k := 0) (b := z) (c := 10) rfl rfl hr, Option.bind_some, h.mkN hm, b3s]
  unfold f_X6_init
  rw [e1, b3s, e2, Option.bind_some, h2.mkI (k := 15 + 2 * i) (b := z + (15 + 2 * i)) rfl (by omega) hk15, Option.bind_some, b2s, h2.sq (k := 14) (b := z + 14) (c := 15) (l := 4) (ka := 6) rfl (by omega) rfl (by decide) (by decide) hi (h2.k (k := 15 + 2 * i) rfl (by omega) hk15) rfl, Option.bind_some, nI_1]
end PSS
