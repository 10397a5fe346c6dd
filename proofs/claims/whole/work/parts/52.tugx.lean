section TX
variable {z : Nat} {σ : th_S} {c : Nat → Nat} {T S : Nat} {μ : th_M}
/-! the class's plan, set by set -/
def sb (l s : Nat) : Prop := ∀ i, i < 7 → l.testBit i = true → s.testBit i = true
def tl (T s l : Nat) : Nat := (pc s - pc l) % T
def TG (z : Nat) (c : Nat → Nat) (T S s : Nat) (μ : th_M) : Prop := (∀ b, b < 7 → s.testBit b = true → μ (z + 11) b = nI (c b)) ∧ μ (z + 10) 1 = nI T ∧ μ (z + 10) 2 = nI S
def rv (c : Nat → Nat) (T S s l last : Nat) : Nat := (RQ c T S (pc l) l (tl T s l) (if tl T s l = 0 then 0 else c last)).1
def RR (z : Nat) (c : Nat → Nat) (T S s : Nat) (m : Nat) (μ : th_M) : Prop := ∀ l, l < m → sb l s → ∀ last, last < 7 → (l = 0 ∨ l = s ∨ (s.testBit last = true ∧ l.testBit last = false)) → μ (z + 12) (l * 7 + last) = nI (rv c T S s l last)
theorem nI_sub {a b : Nat} (h : b ≤ a) : nI a - nI b = nI (a - b) := by
  have e : nI a = nI (a - b) + nI b := by rw [nI_add]; congr 1; omega
  rw [e, Int32.add_sub_cancel]
theorem tl_rm {s l b : Nat} (hT : 0 < T) (hT6 : T ≤ 6) (hs : s < 128) (hl : l < 128) (h : sb l s) (hb : b < 7) (hbit : l.testBit b = true) : tl T s (rm l b) = nt1 T (tl T s l) := by
  have p := pc_rm l hl b hb hbit
  have q := pc_sb s hs l hl h
  unfold tl nt1
  rw [show pc s - pc (rm l b) = (pc s - pc l) + 1 by omega]
  generalize pc s - pc l = x
  by_cases d : x % T + 1 = T
  · rw [if_pos d]
    rcases (by omega : T = 1 ∨ T = 2 ∨ T = 3 ∨ T = 4 ∨ T = 5 ∨ T = 6) with e | e | e | e | e | e <;> subst e <;> omega
  · rw [if_neg d]
    rcases (by omega : T = 1 ∨ T = 2 ∨ T = 3 ∨ T = 4 ∨ T = 5 ∨ T = 6) with e | e | e | e | e | e <;> subst e <;> omega
theorem sb_rm {s l b : Nat} (hl : l < 128) (h : sb l s) (hb : b < 7) : sb (rm l b) s := fun i hi q => by
  rw [rm_bit l hl b hb i hi] at q
  exact h i hi (by simp at q; exact q.2)
theorem x_through (hU : SX σ z) {s l last b v : Nat} (G : TG z c T S s μ) (hc : ∀ b, b < 7 → c b < 48) (hT : 0 < T) (hT6 : T ≤ 6) (hs : s < 128) (hl : l < 128) (h : sb l s) (hb : b < 7) (hbit : l.testBit b = true) (hlast : last < 7) (hh : tl T s l ≠ 0 → s.testBit last = true) (hv : μ (z + 12) (rm l b * 7 + b) = nI v) :
    f_X9_through σ μ (z + 10) (nI s) (nI l) (nI last) (nI b) = some (nI (co c T S l (tl T s l) (if tl T s l = 0 then 0 else c last) b + v)) := by
  have p := pc_rm l hl b hb hbit
  have q := pc_sb s hs l hl h
  have pl : pc s ≤ 7 := by unfold pc; omega
  have tlt : tl T s l < T := Nat.mod_lt _ hT
  have tail : ∀ x8 : Nat, f_X9_through_b107 σ μ (z + 10) (nI b) (nI (rm l b)) (nI x8) = some (nI (x8 + v)) := by
    intro x8
    unfold f_X9_through_b107
    rw [r_10_3 hU, Option.bind_some, show nI (rm l b) * 7 + nI b = nI (rm l b * 7 + b) by rw [show (7 : Int32) = nI 7 from rfl, nI_mul, nI_add], a_12 hU (by omega), Option.bind_some, hv, nI_add]
  have cb : μ (z + 11) b = nI (c b) := G.1 b hb (h b hb hbit)
  have mid : ∀ h0 : Nat, h0 < 48 → f_X9_through_b31 σ μ (z + 10) (nI l) (nI b) (nI (tl T s l)) (nI h0) = some (nI (co c T S l (tl T s l) h0 b + v)) := by
    intro h0 hh0
    have b81 : ∀ x8 : Nat, f_X9_through_b81 σ μ (z + 10) (nI b) (nI (tl T s l)) (nI (rm l b)) (nI x8) = some (nI (x8 + fr (c b) 0 * (S + tl T s l + 1) + v)) := by
      intro x8
      unfold f_X9_through_b81
      rw [r_10_0 hU, Option.bind_some, a_11 hU hb, Option.bind_some, cb, fr_x0 (hc b hb), Option.bind_some, i_10 hU, Option.bind_some, G.2.2, nI_add, nI_1, nI_mul, nI_add, tail]
    unfold f_X9_through_b31
    rw [r_10_0 hU, Option.bind_some, a_11 hU hb, Option.bind_some, cb, fr_x h0 hh0 (c b) (hc b hb), Option.bind_some, i_10 hU, Option.bind_some, G.2.2, rm_and l hl b hb, nI_add, nI_mul, i_10 hU, Option.bind_some, G.2.1, nI_1, b81, tail]
    unfold co
    by_cases e : rm l b = 0
    · rw [if_pos (by rw [e]; rfl), if_pos (Or.inl e)]
    · rw [if_neg (nI_ne0 (by omega) (by omega))]
      by_cases e2 : tl T s l + 1 = T
      · rw [if_pos (by rw [e2]), if_pos (Or.inr e2)]
      · rw [if_neg (fun q => by have := (nI_eq (by omega) (by omega)).mp q; omega), if_neg (by omega), Nat.add_zero]
  unfold f_X9_through
  rw [bc_nI s hs, Option.bind_some, bc_nI l hl, Option.bind_some, i_10 hU, Option.bind_some, G.2.1]
  unfold oG
  rw [if_pos (nI_ne0 hT (by omega)), nI_sub q, jrem_nI (by omega) (by omega)]
  show (if nI (tl T s l) = 0 then f_X9_through_b31 σ μ (z + 10) (nI l) (nI b) (nI (tl T s l)) 0 else _) = _
  by_cases e : tl T s l = 0
  · rw [if_pos (by rw [e]; rfl), if_pos e]
    exact mid 0 (by decide)
  · rw [if_neg (nI_ne0 (by omega) (by omega)), if_neg e, r_10_0 hU, Option.bind_some, a_11 hU hlast, Option.bind_some, G.1 last hlast (hh e)]
    exact mid (c last) (hc last hlast)
def CR (x4 x5 : Int32) : Option (Nat × List Nat) → Prop
  | none => x4 = -1
  | some w => (∃ y, y < 7 ∧ x4 = nI y ∧ w.2.head? = some y) ∧ x5 = nI w.1 ∧ w.1 < 100000
theorem best_loop (hU : SX σ z) {g : Nat → Nat × List Nat} {x1 x3 : Int32} {l : Nat} (hl : l < 128) (hg : ∀ b, b < 7 → l.testBit b = true → f_X9_through σ μ (z + 10) x1 (nI l) x3 (nI b) = some (nI (g b).1) ∧ (g b).1 < 100000 ∧ (g b).2.head? = some b) :
    ∀ j i f x4 x5 cur, i + j = 7 → j < f → CR x4 x5 cur → ∃ y4 y5, f_X9_best_b9 f σ μ (z + 10) x1 (nI l) x3 x4 x5 (nI i) = some y4 ∧ CR y4 y5 (om cur (PK g l j i)) := by
  intro j
  induction j with
  | zero =>
    intro i f x4 x5 cur hi hf hc
    obtain ⟨f, rfl⟩ : ∃ f', f = f' + 1 := ⟨f - 1, by omega⟩
    refine ⟨x4, x5, ?_, by rw [show PK g l 0 i = none from rfl, om_none]; exact hc⟩
    show (if nI 7 ≤ nI i then _ else _) = _
    rw [if_pos (nI_le (by omega) (by omega))]
  | succ j ih =>
    intro i f x4 x5 cur hi hf hc
    obtain ⟨f, rfl⟩ : ∃ f', f = f' + 1 := ⟨f - 1, by omega⟩
    have i7 : i < 7 := by omega
    show ∃ y4 y5, (if nI 7 ≤ nI i then _ else _) = _ ∧ CR y4 y5 (om cur (if l.testBit i = true then om (some (g i)) (PK g l j (i + 1)) else PK g l j (i + 1)))
    rw [if_neg (nI_ge i7 (by decide))]
    by_cases cb : l.testBit i = true
    · obtain ⟨g1, g2, g3⟩ := hg i i7 cb
      rw [if_neg (fun q => by rw [(shr_bit0 l hl i i7).mp q] at cb; exact absurd cb (by decide)), if_pos cb, c_10 hU, g1, Option.bind_some, nI_1]
      have new : CR (nI i) (nI (g i).1) (some (g i)) := ⟨⟨i, i7, rfl, g3⟩, rfl, g2⟩
      cases cur with
      | none =>
        rw [if_pos (show x4 = -1 from hc), none_om]
        exact ih (i + 1) f _ _ (some (g i)) (by omega) (by omega) new
      | some w =>
        obtain ⟨⟨y, hy, e4, hw⟩, e5, w5⟩ := id hc
        rw [if_neg (by rw [e4]; exact fun q => by have := nI_pos (n := y) (by omega); rw [q] at this; exact this (by decide)), e5, ← om_assoc]
        show ∃ y4 y5, _ ∧ CR y4 y5 (om (some (if (g i).1 < w.1 then g i else w)) _)
        by_cases d : (g i).1 < w.1
        · rw [if_neg (nI_ge d (by omega)), if_pos d]
          exact ih (i + 1) f _ _ _ (by omega) (by omega) new
        · rw [if_pos (nI_le (by omega) (by omega)), if_neg d, ← e5]
          exact ih (i + 1) f _ _ _ (by omega) (by omega) hc
    · rw [if_pos ((shr_bit0 l hl i i7).mpr (by cases h : l.testBit i with | false => rfl | true => exact absurd h cb)), if_neg cb, nI_1]
      exact ih (i + 1) f x4 x5 cur (by omega) (by omega) hc
/-- what is known behind a set's smaller ones -/
theorem x_gq (hU : SX σ z) {s l last k : Nat} (G : TG z c T S s μ) (hc : ∀ b, b < 7 → c b < 48) (hT : 0 < T) (hT6 : T ≤ 6) (hS : S ≤ 9) (hs : s < 128) (hl : l < 128) (h : sb l s) (hk : pc l = k + 1) (hlast : last < 7) (hh : tl T s l ≠ 0 → s.testBit last = true) (R : RR z c T S s l μ) {b : Nat} (hb : b < 7) (hbit : l.testBit b = true) :
    f_X9_through σ μ (z + 10) (nI s) (nI l) (nI last) (nI b) = some (nI (gq c T S k l (tl T s l) (if tl T s l = 0 then 0 else c last) b).1) ∧ (gq c T S k l (tl T s l) (if tl T s l = 0 then 0 else c last) b).1 < 100000 ∧ (gq c T S k l (tl T s l) (if tl T s l = 0 then 0 else c last) b).2.head? = some b := by
  have p := pc_rm l hl b hb hbit
  have tlt : tl T s l < T := Nat.mod_lt _ hT
  have pl : pc l ≤ 7 := by unfold pc; omega
  have kk : pc (rm l b) = k := by omega
  have rb : (rm l b).testBit b = false := by rw [rm_bit l hl b hb b hb]; simp
  have e := R (rm l b) p.2 (sb_rm hl h hb) b hb (Or.inr (Or.inr ⟨h b hb hbit, rb⟩))
  have ev : rv c T S s (rm l b) b = (RQ c T S k (rm l b) (nt1 T (tl T s l)) (if nt1 T (tl T s l) = 0 then 0 else c b)).1 := by
    unfold rv
    rw [tl_rm hT hT6 hs hl h hb hbit, kk]
  have hhl : (if tl T s l = 0 then 0 else c last) < 48 := by
    by_cases q : tl T s l = 0
    · rw [if_pos q]; decide
    · rw [if_neg q]; exact hc last hlast
  have hhb : (if nt1 T (tl T s l) = 0 then 0 else c b) < 48 := by
    by_cases q : nt1 T (tl T s l) = 0
    · rw [if_pos q]; decide
    · rw [if_neg q]; exact hc b hb
  have cl := (co_le hc (s := l) hT6 hS tlt hhl hb).1
  have rl := (RQ_le hc hT6 hS k (rm l b) (nt1 T (tl T s l)) (if nt1 T (tl T s l) = 0 then 0 else c b) (by omega) kk (nt1_lt tlt) hhb).1
  refine ⟨?_, ?_, rfl⟩
  · rw [x_through hU G hc hT hT6 hs hl h hb hbit hlast hh e, ev]; rfl
  · show co c T S l (tl T s l) (if tl T s l = 0 then 0 else c last) b + (RQ c T S k (rm l b) (nt1 T (tl T s l)) (if nt1 T (tl T s l) = 0 then 0 else c b)).1 < 100000
    omega
theorem x_best (hU : SX σ z) {s l last k : Nat} (G : TG z c T S s μ) (hc : ∀ b, b < 7 → c b < 48) (hT : 0 < T) (hT6 : T ≤ 6) (hS : S ≤ 9) (hs : s < 128) (hl : l < 128) (h : sb l s) (hk : pc l = k + 1) (hlast : last < 7) (hh : tl T s l ≠ 0 → s.testBit last = true) (R : RR z c T S s l μ) :
    ∃ b, b < 7 ∧ l.testBit b = true ∧ RQ c T S (k + 1) l (tl T s l) (if tl T s l = 0 then 0 else c last) = gq c T S k l (tl T s l) (if tl T s l = 0 then 0 else c last) b ∧ f_X9_best σ μ (z + 10) (nI s) (nI l) (nI last) = some (nI b) := by
  obtain ⟨b, b1, b2, b3⟩ := RQ_hd (c := c) (T := T) (S := S) (t := tl T s l) (h := if tl T s l = 0 then 0 else c last) hl hk
  refine ⟨b, b1, b2, b3, ?_⟩
  obtain ⟨y4, y5, e, r⟩ := best_loop (z := z) (σ := σ) (μ := μ) hU hl (fun b hb hbit => x_gq hU G hc hT hT6 hS hs hl h hk hlast hh R hb hbit) 7 0 fu (-1) 0 none (by decide) (by unfold fu; omega) rfl
  rw [none_om, RQ_pk hl hk, b3] at r
  obtain ⟨⟨y, hy, e4, hw⟩, -, -⟩ := r
  have e5 : some b = some y := hw
  have e6 : b = y := Option.some.inj e5
  subst e6
  unfold f_X9_best
  rw [← e4]
  exact e
theorem min_in (hU : SX σ z) {K2 : th_S → th_M → Nat → Int32 → Int32 → Option (Int32 × th_M)} {s l k : Nat} (hc : ∀ b, b < 7 → c b < 48) (hT : 0 < T) (hT6 : T ≤ 6) (hS : S ≤ 9) (hs : s < 128) (hl : l < 128) (h : sb l s) (hk : pc l = k + 1) :
    ∀ j i f μ, i + j = 7 → j < f → TG z c T S s μ → RR z c T S s l μ → (∀ last, last < i → (l = s ∨ (s.testBit last = true ∧ l.testBit last = false)) → μ (z + 12) (l * 7 + last) = nI (rv c T S s l last)) →
      ∃ μ', f_X9_minutes_b20 K2 f σ μ (z + 10) (nI s) (nI l) (nI i) = K2 σ μ' (z + 10) (nI s) (nI (l + 1)) ∧ (∀ q, q ≠ z + 12 → μ' q = μ q) ∧ TG z c T S s μ' ∧ RR z c T S s (l + 1) μ' := by
  have l0 : l ≠ 0 := fun e => by rw [e] at hk; exact absurd hk (by rw [show pc 0 = 0 from rfl]; omega)
  intro j
  induction j with
  | zero =>
    intro i f μ hi hf G R D
    obtain ⟨f, rfl⟩ : ∃ f', f = f' + 1 := ⟨f - 1, by omega⟩
    refine ⟨μ, ?_, fun _ _ => rfl, G, fun l' h1 h2 last h3 h4 => ?_⟩
    · show (if nI 7 ≤ nI i then _ else _) = _
      rw [if_pos (nI_le (by omega) (by omega)), nI_1]
    · by_cases e : l' = l
      · subst e; exact D last (by omega) (h4.resolve_left l0)
      · exact R l' (by omega) h2 last h3 h4
  | succ j ih =>
    intro i f μ hi hf G R D
    obtain ⟨f, rfl⟩ : ∃ f', f = f' + 1 := ⟨f - 1, by omega⟩
    have i7 : i < 7 := by omega
    show ∃ μ', (if nI 7 ≤ nI i then _ else (if nI l = nI s then _ else (if ((nI s &&& (nI l ^^^ (-1))) &&& jshl 1 (nI i)) = 0 then _ else _))) = _ ∧ _
    rw [if_neg (nI_ge i7 (by decide)), dif_n s hs l hl]
    have bits : (s ^^^ (s &&& l)).testBit i = false ↔ ¬ (s.testBit i = true ∧ l.testBit i = false) := by
      rw [Nat.testBit_xor, Nat.testBit_and]
      cases s.testBit i <;> cases l.testBit i <;> simp
    have work : (l = s ∨ (s.testBit i = true ∧ l.testBit i = false)) → ∃ μ', f_X9_minutes_b43 K2 (f_X9_minutes_b20 K2 f) σ μ (z + 10) (nI s) (nI l) (nI i) = K2 σ μ' (z + 10) (nI s) (nI (l + 1)) ∧ (∀ q, q ≠ z + 12 → μ' q = μ q) ∧ TG z c T S s μ' ∧ RR z c T S s (l + 1) μ' := by
      intro hw
      have hh : tl T s l ≠ 0 → s.testBit i = true := fun q => by
        rcases hw with e | e
        · exfalso; apply q; unfold tl; rw [e, Nat.sub_self, Nat.zero_mod]
        · exact e.1
      obtain ⟨b, b1, b2, b3, b4⟩ := x_best hU G hc hT hT6 hS hs hl h hk i7 hh R
      have e := (x_gq hU G hc hT hT6 hS hs hl h hk i7 hh R b1 b2).1
      have ev : rv c T S s l i = (gq c T S k l (tl T s l) (if tl T s l = 0 then 0 else c i) b).1 := by
        unfold rv
        rw [hk, b3]
      have G' : TG z c T S s (th_w μ (z + 12) (l * 7 + i) (nI (rv c T S s l i))) := by
        refine ⟨fun b hb hbit => ?_, ?_, ?_⟩
        · rw [th_w_ne _ _ (by omega)]; exact G.1 b hb hbit
        · rw [th_w_ne _ _ (by omega)]; exact G.2.1
        · rw [th_w_ne _ _ (by omega)]; exact G.2.2
      obtain ⟨μ', a1, a2, a3, a4⟩ := ih (i + 1) f (th_w μ (z + 12) (l * 7 + i) (nI (rv c T S s l i))) (by omega) (by omega) G' (fun l' h1 h2 last h3 h4 => by rw [th_w_hit, if_neg (by omega)]; exact R l' h1 h2 last h3 h4) (fun last h1 h2 => by
        rw [th_w_hit]
        by_cases q : last = i
        · subst q; rw [if_pos rfl]
        · rw [if_neg (by omega)]; exact D last (by omega) h2)
      refine ⟨μ', ?_, fun q hq => by rw [a2 q hq, th_w_ne _ _ hq], a3, a4⟩
      unfold f_X9_minutes_b43
      rw [r_10_3 hU, Option.bind_some, c_10 hU, b4, Option.bind_some, e, Option.bind_some, show nI l * 7 + nI i = nI (l * 7 + i) by rw [show (7 : Int32) = nI 7 from rfl, nI_mul, nI_add], s_12 hU (by omega), Option.bind_some, nI_1, ← ev]
      exact a1
    by_cases e : l = s
    · rw [if_pos (by rw [e])]
      exact work (Or.inl e)
    · rw [if_neg (fun q => e ((nI_eq (by omega) (by omega)).mp q))]
      by_cases d : s.testBit i = true ∧ l.testBit i = false
      · rw [if_neg (fun q => (bits.mp ((bit_n _ (dif_lt s hs l hl) i i7).mp q)) d)]
        exact work (Or.inr d)
      · rw [if_pos ((bit_n _ (dif_lt s hs l hl) i i7).mpr (bits.mpr d)), nI_1]
        refine ih (i + 1) f μ (by omega) (by omega) G R (fun last h1 h2 => ?_)
        by_cases q : last = i
        · subst q; exact absurd h2 (fun o => o.elim e d)
        · exact D last (by omega) h2
theorem min_out (hU : SX σ z) {s : Nat} (hc : ∀ b, b < 7 → c b < 48) (hT : 0 < T) (hT6 : T ≤ 6) (hS : S ≤ 9) (hs : s < 128) :
    ∀ j l f μ, l + j = s + 1 → j < f → 0 < l → TG z c T S s μ → RR z c T S s l μ → ∃ μ', f_X9_minutes_b2 f σ μ (z + 10) (nI s) (nI l) = some (nI (RQ c T S (pc s) s 0 0).1, μ') ∧ (∀ q, q ≠ z + 12 → μ' q = μ q) ∧ TG z c T S s μ' ∧ RR z c T S s (s + 1) μ' := by
  intro j
  induction j with
  | zero =>
    intro l f μ hi hf hl0 G R
    obtain ⟨f, rfl⟩ : ∃ f', f = f' + 1 := ⟨f - 1, by omega⟩
    have e : l = s + 1 := by omega
    subst e
    have r := R s (by omega) (fun _ _ q => q) 0 (by decide) (Or.inr (Or.inl rfl))
    have ev : rv c T S s s 0 = (RQ c T S (pc s) s 0 0).1 := by
      unfold rv tl
      rw [Nat.sub_self, Nat.zero_mod, if_pos rfl]
    refine ⟨μ, ?_, fun _ _ => rfl, G, R⟩
    show (if nI s < nI (s + 1) then _ else _) = _
    rw [if_pos (nI_lt (by omega) (by omega)), r_10_3 hU, Option.bind_some, show nI s * 7 = nI (s * 7 + 0) by rw [show (7 : Int32) = nI 7 from rfl, nI_mul]; rfl, a_12 hU (by omega), Option.bind_some, r, ev]
  | succ j ih =>
    intro l f μ hi hf hl0 G R
    obtain ⟨f, rfl⟩ : ∃ f', f = f' + 1 := ⟨f - 1, by omega⟩
    have hl : l < 128 := by omega
    show ∃ μ', (if nI s < nI l then _ else (if (nI l &&& (nI s ^^^ (-1))) = 0 then _ else _)) = _ ∧ _
    rw [if_neg (nI_nlt (by omega) (by omega))]
    by_cases d : sb l s
    · rw [if_pos ((sub_small s hs l hl).mpr d)]
      have hp : pc l ≠ 0 := fun q => by have := (pc_0 l hl).mp q; omega
      obtain ⟨μ1, a1, a2, a3, a4⟩ := min_in hU (K2 := f_X9_minutes_b2 f) hc hT hT6 hS hs hl d (k := pc l - 1) (by omega) 7 0 fu μ (by decide) (by unfold fu; omega) G R (fun last q => by omega)
      obtain ⟨μ', b1, b2, b3, b4⟩ := ih (l + 1) f μ1 (by omega) (by omega) (by omega) a3 a4
      refine ⟨μ', ?_, fun q hq => by rw [b2 q hq, a2 q hq], b3, b4⟩
      rw [show f_X9_minutes_b20 (f_X9_minutes_b2 f) fu σ μ (z + 10) (nI s) (nI l) 0 = _ from a1]
      exact b1
    · rw [if_neg (fun q => d ((sub_small s hs l hl).mp q)), nI_1]
      refine ih (l + 1) f μ (by omega) (by omega) (by omega) G (fun l' h1 h2 last h3 h4 => ?_)
      by_cases e : l' = l
      · subst e; exact absurd h2 d
      · exact R l' (by omega) h2 last h3 h4
theorem x_minutes (hU : SX σ z) {s : Nat} (hc : ∀ b, b < 7 → c b < 48) (hT : 0 < T) (hT6 : T ≤ 6) (hS : S ≤ 9) (hs : s < 128) (G : TG z c T S s μ) (h0 : ∀ j, j < 7 → μ (z + 12) j = 0) :
    ∃ μ', f_X9_minutes σ μ (z + 10) (nI s) = some (nI (RQ c T S (pc s) s 0 0).1, μ') ∧ (∀ q, q ≠ z + 12 → μ' q = μ q) ∧ TG z c T S s μ' ∧ RR z c T S s (s + 1) μ' ∧ ∀ j, j < 7 → μ' (z + 12) j = 0 := by
  obtain ⟨μ', a1, a2, a3, a4⟩ := min_out hU hc hT hT6 hS hs s 1 fu μ (by omega) (by unfold fu; omega) (by decide) G (fun l h1 _ last h3 _ => by
    have e : l = 0 := by omega
    subst e
    rw [Nat.zero_mul, Nat.zero_add, h0 last h3]
    rfl)
  refine ⟨μ', a1, a2, a3, a4, fun j hj => ?_⟩
  have r := a4 0 (by omega) (fun i _ q => by rw [Nat.zero_testBit] at q; exact absurd q (by decide)) j hj (Or.inl rfl)
  rw [Nat.zero_mul, Nat.zero_add] at r
  rw [r]
  rfl
theorem RR.le {s m m' : Nat} (R : RR z c T S s m μ) (h : m' ≤ m) : RR z c T S s m' μ := fun l h1 => R l (by omega)
theorem fetched_loop (hU : SX σ z) {s : Nat} (hc : ∀ b, b < 7 → c b < 48) (hT : 0 < T) (hT6 : T ≤ 6) (hS : S ≤ 9) (hs : s < 128) (G : TG z c T S s μ) (R : RR z c T S s (s + 1) μ) {w : Nat} (hw : w ≤ 7) :
    ∀ k l last i f, pc l = k → sb l s → l ≤ s → last < 7 → (tl T s l ≠ 0 → s.testBit last = true) → 1 ≤ i → i ≤ w → w - i < f → f_X9_fetchedAs_b14 f σ μ (z + 10) (nI s) (nI w) (nI l) (nI last) (nI i) = some (if w - i < k then nI ((RQ c T S k l (tl T s l) (if tl T s l = 0 then 0 else c last)).2.getD (w - i) 0) else -1, μ) := by
  intro k
  induction k with
  | zero =>
    intro l last i f hk h hls hlast hh h1 h2 hf
    obtain ⟨f, rfl⟩ : ∃ f', f = f' + 1 := ⟨f - 1, by omega⟩
    have e : l = 0 := (pc_0 l (by omega)).mp hk
    subst e
    show (if nI w < nI i then _ else _) = _
    rw [if_neg (nI_nlt h2 (by omega)), if_pos (show nI 0 = 0 from rfl), if_neg (Nat.not_lt_zero _)]
  | succ k ih =>
    intro l last i f hk h hls hlast hh h1 h2 hf
    obtain ⟨f, rfl⟩ : ∃ f', f = f' + 1 := ⟨f - 1, by omega⟩
    have hl : l < 128 := by omega
    have l0 : l ≠ 0 := fun e => by rw [e] at hk; exact absurd hk (by rw [show pc 0 = 0 from rfl]; omega)
    obtain ⟨b, b1, b2, b3, b4⟩ := x_best hU G hc hT hT6 hS hs hl h hk hlast hh (R.le (by omega))
    have p := pc_rm l hl b b1 b2
    show (if nI w < nI i then _ else _) = _
    rw [if_neg (nI_nlt h2 (by omega)), if_neg (nI_ne0 (by omega) (by omega)), c_10 hU, b4, Option.bind_some, b3]
    by_cases e : i = w
    · rw [if_pos (by rw [e]), e, Nat.sub_self, if_pos (by omega)]
      rfl
    · rw [if_neg (fun q => e ((nI_eq (by omega) (by omega)).mp q)), rm_and l hl b b1, nI_1]
      rw [ih (rm l b) b (i + 1) f (by omega) (sb_rm hl h b1) (by omega) b1 (fun _ => h b b1 b2) (by omega) (by omega) (by omega)]
      rw [tl_rm hT hT6 hs hl h b1 b2]
      have e2 : w - i = (w - (i + 1)) + 1 := by omega
      rw [e2]
      by_cases d : w - (i + 1) < k
      · rw [if_pos d, if_pos (show w - (i + 1) + 1 < k + 1 by omega)]
        rfl
      · rw [if_neg d, if_neg (show ¬ w - (i + 1) + 1 < k + 1 by omega)]
theorem x_fetched (hU : SX σ z) {s : Nat} (hc : ∀ b, b < 7 → c b < 48) (hT : 0 < T) (hT6 : T ≤ 6) (hS : S ≤ 9) (hs : s < 128) (G : TG z c T S s μ) (h0 : ∀ j, j < 7 → μ (z + 12) j = 0) {w : Nat} (hw : w ≤ 7) (hw1 : 1 ≤ w) :
    ∃ μ', f_X9_fetchedAs σ μ (z + 10) (nI s) (nI w) = some (if w ≤ pc s then nI ((RQ c T S (pc s) s 0 0).2.getD (w - 1) 0) else -1, μ') ∧ (∀ q, q ≠ z + 12 → μ' q = μ q) ∧ ∀ j, j < 7 → μ' (z + 12) j = 0 := by
  obtain ⟨μ', a1, a2, a3, a4, a5⟩ := x_minutes hU hc hT hT6 hS hs G h0
  have t0 : tl T s s = 0 := by unfold tl; rw [Nat.sub_self, Nat.zero_mod]
  have r := fetched_loop hU hc hT hT6 hS hs a3 a4 hw (pc s) s 0 1 fu rfl (fun _ _ q => q) (Nat.le_refl _) (by decide) (fun q => absurd t0 q) (Nat.le_refl _) hw1 (by unfold fu; omega)
  rw [t0, if_pos rfl] at r
  refine ⟨μ', ?_, a2, a5⟩
  unfold f_X9_fetchedAs
  rw [c_10 hU, a1, b2s, show f_X9_fetchedAs_b14 fu σ μ' (z + 10) (nI s) (nI w) (nI s) 0 1 = _ from r]
  by_cases d : w ≤ pc s
  · rw [if_pos d, if_pos (by omega)]
  · rw [if_neg d, if_neg (by omega)]
end TX
