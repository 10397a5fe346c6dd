section TU
/-! FETCHING: the first of the orders that take fewest minutes, as a number and a list -/
def NL : Type := Nat × List Nat
def om : Option (Nat × List Nat) → Option (Nat × List Nat) → Option (Nat × List Nat)
  | none, y => y
  | some x, none => some x
  | some x, some y => some (if y.1 < x.1 then y else x)
theorem om_none (x : Option (Nat × List Nat)) : om x none = x := by cases x <;> rfl
theorem none_om (x : Option (Nat × List Nat)) : om none x = x := by cases x <;> rfl
theorem om_assoc (x y w : Option (Nat × List Nat)) : om (om x y) w = om x (om y w) := by
  cases x with
  | none => rw [none_om, none_om]
  | some a =>
    cases y with
    | none => rw [om_none, none_om]
    | some b =>
      cases w with
      | none => rw [om_none, om_none]
      | some d =>
        show some (if d.1 < (if b.1 < a.1 then b else a).1 then d else (if b.1 < a.1 then b else a)) = some (if (if d.1 < b.1 then d else b).1 < a.1 then (if d.1 < b.1 then d else b) else a)
        by_cases c1 : b.1 < a.1
        · rw [if_pos c1]
          by_cases c2 : d.1 < b.1
          · rw [if_pos c2, if_pos (by omega)]
          · rw [if_neg c2, if_pos c1]
        · rw [if_neg c1]
          by_cases c2 : d.1 < b.1
          · rw [if_pos c2]
          · rw [if_neg c2, if_neg c1, if_neg (by omega)]
def sh (a : Nat) (P : List Nat) (x : Nat × List Nat) : Nat × List Nat := (a + x.1, P ++ x.2)
theorem om_sh (a : Nat) (P : List Nat) (x y : Option (Nat × List Nat)) : om (x.map (sh a P)) (y.map (sh a P)) = (om x y).map (sh a P) := by
  cases x with
  | none => rw [none_om]; exact none_om _
  | some u =>
    cases y with
    | none => rfl
    | some v =>
      show some (if a + v.1 < a + u.1 then sh a P v else sh a P u) = some (sh a P (if v.1 < u.1 then v else u))
      by_cases c : v.1 < u.1
      · rw [if_pos c, if_pos (by omega)]
      · rw [if_neg c, if_neg (by omega)]
/-- the best of a set's boats from the i-th on, k of them looked at -/
def PK (g : Nat → Nat × List Nat) (s : Nat) : Nat → Nat → Option (Nat × List Nat)
  | 0, _ => none
  | k + 1, i => if s.testBit i = true then om (some (g i)) (PK g s k (i + 1)) else PK g s k (i + 1)
theorem PK_sh {g g' : Nat → Nat × List Nat} {a : Nat} {P : List Nat} (h : ∀ b, g' b = sh a P (g b)) (s : Nat) : ∀ k i, PK g' s k i = (PK g s k i).map (sh a P)
  | 0, _ => rfl
  | k + 1, i => by
    show (if s.testBit i = true then om (some (g' i)) (PK g' s k (i + 1)) else PK g' s k (i + 1)) = (if s.testBit i = true then om (some (g i)) (PK g s k (i + 1)) else PK g s k (i + 1)).map (sh a P)
    rw [PK_sh h s k (i + 1)]
    by_cases c : s.testBit i = true
    · rw [if_pos c, if_pos c, h, ← om_sh]; rfl
    · rw [if_neg c, if_neg c]
theorem PK_eq {g g' : Nat → Nat × List Nat} {s : Nat} : ∀ k i, (∀ b, i ≤ b → b < i + k → s.testBit b = true → g' b = g b) → PK g' s k i = PK g s k i
  | 0, _, _ => rfl
  | k + 1, i, h => by
    show (if s.testBit i = true then om (some (g' i)) (PK g' s k (i + 1)) else PK g' s k (i + 1)) = (if s.testBit i = true then om (some (g i)) (PK g s k (i + 1)) else PK g s k (i + 1))
    rw [PK_eq k (i + 1) (fun b h1 h2 h3 => h b (by omega) (by omega) h3)]
    by_cases c : s.testBit i = true
    · rw [if_pos c, if_pos c, h i (Nat.le_refl _) (by omega) c]
    · rw [if_neg c, if_neg c]
theorem PK_no {g : Nat → Nat × List Nat} {s : Nat} : ∀ k i, (∀ b, i ≤ b → b < i + k → s.testBit b = false) → PK g s k i = none
  | 0, _, _ => rfl
  | k + 1, i, h => by
    show (if s.testBit i = true then _ else PK g s k (i + 1)) = none
    rw [if_neg (by rw [h i (Nat.le_refl _) (by omega)]; decide), PK_no k (i + 1) (fun b h1 h2 => h b (by omega) (by omega))]
theorem om_some {x : Nat × List Nat} {y : Option (Nat × List Nat)} : ∃ w, om (some x) y = some w := by
  cases y with
  | none => exact ⟨_, rfl⟩
  | some y => exact ⟨_, rfl⟩
/-- what is picked is one of them -/
theorem PK_mem {g : Nat → Nat × List Nat} {s : Nat} : ∀ k i w, PK g s k i = some w → ∃ b, i ≤ b ∧ b < i + k ∧ s.testBit b = true ∧ w = g b
  | 0, _, _, h => by cases h
  | k + 1, i, w, h => by
    have h' : (if s.testBit i = true then om (some (g i)) (PK g s k (i + 1)) else PK g s k (i + 1)) = some w := h
    by_cases c : s.testBit i = true
    · rw [if_pos c] at h'
      cases e : PK g s k (i + 1) with
      | none =>
        rw [e] at h'
        exact ⟨i, Nat.le_refl _, by omega, c, (Option.some.inj h').symm⟩
      | some x =>
        rw [e] at h'
        have h2 : (if x.1 < (g i).1 then x else g i) = w := Option.some.inj h'
        by_cases d : x.1 < (g i).1
        · rw [if_pos d] at h2
          obtain ⟨b, b1, b2, b3, b4⟩ := PK_mem k (i + 1) x e
          exact ⟨b, by omega, by omega, b3, h2.symm.trans b4⟩
        · rw [if_neg d] at h2
          exact ⟨i, Nat.le_refl _, by omega, c, h2.symm⟩
    · rw [if_neg c] at h'
      obtain ⟨b, b1, b2, b3, b4⟩ := PK_mem k (i + 1) w h'
      exact ⟨b, by omega, by omega, b3, b4⟩
theorem PK_any {g : Nat → Nat × List Nat} {s b : Nat} (hb : s.testBit b = true) : ∀ k i, i ≤ b → b < i + k → ∃ w, PK g s k i = some w
  | 0, _, _, _ => by omega
  | k + 1, i, h1, h2 => by
    show ∃ w, (if s.testBit i = true then om (some (g i)) (PK g s k (i + 1)) else PK g s k (i + 1)) = some w
    by_cases c : s.testBit i = true
    · rw [if_pos c]; exact om_some
    · rw [if_neg c]
      have : i ≠ b := fun e => c (by rw [e]; exact hb)
      exact PK_any hb k (i + 1) (by omega) (by omega)
def rm (s b : Nat) : Nat := if s.testBit b = true then s - 2 ^ b else s
theorem rm_lt : ∀ s b, s < 128 → rm s b ≤ s := fun s b _ => by unfold rm; by_cases c : s.testBit b = true <;> simp [c]
theorem rm_bit : ∀ s, s < 128 → ∀ b, b < 7 → ∀ j, j < 7 → (rm s b).testBit j = (decide (j ≠ b) && s.testBit j) := by decide +kernel
theorem rm_and : ∀ s, s < 128 → ∀ b, b < 7 → nI s &&& (jshl 1 (nI b) ^^^ (-1)) = nI (rm s b) := by decide +kernel
theorem pc_rm : ∀ s, s < 128 → ∀ b, b < 7 → s.testBit b = true → pc (rm s b) + 1 = pc s ∧ rm s b < s := by decide +kernel
theorem pc_0 : ∀ s, s < 128 → (pc s = 0 ↔ s = 0) := by decide +kernel
theorem some_bit : ∀ s, s < 128 → s ≠ 0 → ∃ b, b < 7 ∧ s.testBit b = true := by decide +kernel
theorem shr_bit0 : ∀ s, s < 128 → ∀ i, i < 7 → ((jshr (nI s) (nI i)) &&& 1 = 0 ↔ s.testBit i = false) := by decide +kernel
def fr (a b : Nat) : Nat := (a / 8 - b / 8) + (b / 8 - a / 8) + ((a % 8 - b % 8) + (b % 8 - a % 8))
theorem fr_12 : ∀ a, a < 48 → ∀ b, b < 48 → fr a b ≤ 12 := by decide +kernel
theorem fr_x : ∀ a, a < 48 → ∀ b, b < 48 → f_X10_far (nI a) (nI b) = some (nI (fr a b)) := by decide +kernel
theorem fr_m (a b : Nat) (ha : a < 48) (hb : b < 48) : f_X11_far (nI a) (nI b) = some (nI (fr a b)) := fr_x a ha b hb
theorem fr_m0 {a : Nat} (ha : a < 48) : f_X11_far (nI a) 0 = some (nI (fr a 0)) := fr_x a ha 0 (by decide)
theorem fr_x0 {a : Nat} (ha : a < 48) : f_X10_far (nI a) 0 = some (nI (fr a 0)) := fr_x a ha 0 (by decide)
def nt1 (T t : Nat) : Nat := if t + 1 = T then 0 else t + 1
/-- what one more costs, and the road home behind it, if it is due -/
def co (c : Nat → Nat) (T S s t h b : Nat) : Nat := fr h (c b) * (S + t) + (if rm s b = 0 ∨ t + 1 = T then fr (c b) 0 * (S + t + 1) else 0)
/-- the fewest minutes from a cell on, t being towed (fewer than may be), and the order -/
def RQ (c : Nat → Nat) (T S : Nat) : Nat → Nat → Nat → Nat → Nat × List Nat
  | 0, _, _, _ => (0, [])
  | k + 1, s, t, h => (PK (fun b => sh (co c T S s t h b) [b] (RQ c T S k (rm s b) (nt1 T t) (if nt1 T t = 0 then 0 else c b))) s 7 0).getD (0, [])
def gq (c : Nat → Nat) (T S k s t h : Nat) (b : Nat) : Nat × List Nat := sh (co c T S s t h b) [b] (RQ c T S k (rm s b) (nt1 T t) (if nt1 T t = 0 then 0 else c b))
theorem RQ_pk {c : Nat → Nat} {T S k s t h : Nat} (hs : s < 128) (hk : pc s = k + 1) : PK (gq c T S k s t h) s 7 0 = some (RQ c T S (k + 1) s t h) := by
  obtain ⟨b, hb, hbit⟩ := some_bit s hs (fun e => by rw [(pc_0 s hs).mpr e] at hk; omega)
  obtain ⟨w, hw⟩ := PK_any (g := gq c T S k s t h) hbit 7 0 (Nat.zero_le _) (by omega)
  show _ = some ((PK (gq c T S k s t h) s 7 0).getD (0, []))
  rw [hw]; rfl
/-- its first, and what is behind it -/
theorem RQ_hd {c : Nat → Nat} {T S k s t h : Nat} (hs : s < 128) (hk : pc s = k + 1) : ∃ b, b < 7 ∧ s.testBit b = true ∧ RQ c T S (k + 1) s t h = gq c T S k s t h b := by
  obtain ⟨b, -, b2, b3, b4⟩ := PK_mem 7 0 _ (RQ_pk (c := c) (T := T) (S := S) (t := t) (h := h) hs hk)
  exact ⟨b, by omega, b3, b4⟩
theorem co_le {c : Nat → Nat} (hc : ∀ b, b < 7 → c b < 48) {T S s t h b : Nat} (hT : T ≤ 6) (hS : S ≤ 9) (ht : t < T) (hh : h < 48) (hb : b < 7) : co c T S s t h b ≤ 360 ∧ fr h (c b) * (S + t) ≤ 180 := by
  have a1 := fr_12 h hh (c b) (hc b hb)
  have a2 := fr_12 (c b) (hc b hb) 0 (by decide)
  have m1 : fr h (c b) * (S + t) ≤ 12 * 15 := Nat.mul_le_mul a1 (by omega)
  have m2 : fr (c b) 0 * (S + t + 1) ≤ 12 * 15 := Nat.mul_le_mul a2 (by omega)
  unfold co
  by_cases q : rm s b = 0 ∨ t + 1 = T
  · rw [if_pos q]; omega
  · rw [if_neg q]; omega
theorem nt1_lt {T t : Nat} (ht : t < T) : nt1 T t < T := by
  unfold nt1
  by_cases q : t + 1 = T
  · rw [if_pos q]; omega
  · rw [if_neg q]; omega
theorem RQ_le {c : Nat → Nat} (hc : ∀ b, b < 7 → c b < 48) {T S : Nat} (hT : T ≤ 6) (hS : S ≤ 9) : ∀ k s t h, s < 128 → pc s = k → t < T → h < 48 → (RQ c T S k s t h).1 ≤ 360 * k ∧ (RQ c T S k s t h).2.length = k
  | 0, s, t, h, _, _, _, _ => ⟨Nat.le_refl _, rfl⟩
  | k + 1, s, t, h, hs, hk, ht, hh => by
    obtain ⟨b, hb, hbit, e⟩ := RQ_hd (c := c) (T := T) (S := S) (t := t) (h := h) hs hk
    have p := pc_rm s hs b hb hbit
    have hl := rm_lt s b hs
    obtain ⟨r1, r2⟩ := RQ_le hc hT hS k (rm s b) (nt1 T t) (if nt1 T t = 0 then 0 else c b) (by omega) (by omega) (nt1_lt ht) (by
      by_cases q : nt1 T t = 0
      · rw [if_pos q]; decide
      · rw [if_neg q]; exact hc b hb)
    have cl := (co_le hc (s := s) hT hS ht hh hb).1
    rw [e]
    refine ⟨?_, ?_⟩
    · show co c T S s t h b + (RQ c T S k (rm s b) (nt1 T t) _).1 ≤ _
      omega
    · show ([b] ++ (RQ c T S k (rm s b) (nt1 T t) _).2).length = _
      rw [List.length_append, r2]
      show 1 + k = k + 1
      omega
end TU
