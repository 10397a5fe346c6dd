section GO
variable {z : Nat} {σ : th_S} {n : Nat} {μ0 μ : th_M} {c : Nat → Nat} {T S : Nat}
/-! the reference's search, order by order -/
def ST (z : Nat) (μ : th_M) : Option (Nat × List Nat) → Prop
  | none => μ (z + 27) 29 = -1
  | some x => μ (z + 27) 29 = nI x.1 ∧ x.1 < 100000 ∧ x.2.length ≤ 7 ∧ ∀ i, i < x.2.length → μ (z + 41) i = nI (x.2.getD i 0)
def OD (z : Nat) (μ : th_M) (P : List Nat) : Prop := P.length ≤ 7 ∧ ∀ i, i < P.length → μ (z + 40) i = nI (P.getD i 0)
def GS (z : Nat) (μ0 μ : th_M) : Prop := (∀ q, q ≠ z + 27 → q ≠ z + 40 → q ≠ z + 41 → μ q = μ0 q) ∧ ∀ j, j ≠ 29 → μ (z + 27) j = μ0 (z + 27) j
theorem GS.refl (z : Nat) (μ : th_M) : GS z μ μ := ⟨fun _ _ _ _ => rfl, fun _ _ => rfl⟩
theorem GS.w (h : GS z μ0 μ) {q k : Nat} {v : Int32} (hq : q = z + 40 ∨ q = z + 41 ∨ (q = z + 27 ∧ k = 29)) : GS z μ0 (th_w μ q k v) := by
  refine ⟨fun p h1 h2 h3 => ?_, fun j hj => ?_⟩
  · rw [th_w_ne _ _ (by omega)]; exact h.1 p h1 h2 h3
  · rw [th_w_at, if_neg (by omega)]; exact h.2 j hj
theorem goes_copy (hU : SX σ z) {rec : Nat → th_S → th_M → Nat → Int32 → Int32 → Int32 → Int32 → Int32 → Option (th_M)} {so : Nat} (hso : so ≤ 7) : ∀ k i f μ, i + k = so → k < f → GS z μ0 μ → ∃ μ', f_X11_goes_b48 rec f σ μ (z + 27) (nI so) (nI i) = some μ' ∧ GS z μ0 μ' ∧ μ' (z + 27) = μ (z + 27) ∧ μ' (z + 40) = μ (z + 40) ∧ (∀ j, i ≤ j → j < so → μ' (z + 41) j = μ (z + 40) j) ∧ ∀ j, j < i → μ' (z + 41) j = μ (z + 41) j := by
  intro k
  induction k with
  | zero =>
    intro i f μ hi hf g
    obtain ⟨f, rfl⟩ : ∃ f', f = f' + 1 := ⟨f - 1, by omega⟩
    have e : i = so := by omega
    subst e
    refine ⟨μ, ?_, g, rfl, rfl, fun j h1 h2 => by omega, fun _ _ => rfl⟩
    show (if nI i ≤ nI i then _ else _) = _
    rw [if_pos (Int32.le_refl _)]
  | succ k ih =>
    intro i f μ hi hf g
    obtain ⟨f, rfl⟩ : ∃ f', f = f' + 1 := ⟨f - 1, by omega⟩
    obtain ⟨μ', a1, a2, a3, a4, a5, a6⟩ := ih (i + 1) f (th_w μ (z + 41) i (μ (z + 40) i)) (by omega) (by omega) (g.w (Or.inr (Or.inl rfl)))
    refine ⟨μ', ?_, a2, by rw [a3, th_w_ne _ _ (by omega)], by rw [a4, th_w_ne _ _ (by omega)], fun j h1 h2 => ?_, fun j hj => ?_⟩
    · show (if nI so ≤ nI i then _ else _) = _
      rw [if_neg (nI_ge (by omega) (by omega)), r_27_31 hU, Option.bind_some, r_27_30 hU, Option.bind_some, a_40 hU (by omega), Option.bind_some, s_41 hU (by omega), Option.bind_some, nI_1]
      exact a1
    · by_cases e : j = i
      · subst e
        rw [a6 j (by omega), th_w_self]
      · rw [a5 j (by omega) h2, th_w_ne _ _ (by omega)]
    · rw [a6 j (by omega), th_w_hit, if_neg (by omega)]
theorem goes_base (hU : SX σ z) {rec : Nat → th_S → th_M → Nat → Int32 → Int32 → Int32 → Int32 → Int32 → Option (th_M)} {P : List Nat} {here towed gone : Nat} {o : Option (Nat × List Nat)} {μ : th_M}
    (hS : μ0 (z + 27) 12 = nI S) (hh : here < 48) (hb : gone + fr here 0 * (S + towed) < 100000) (st : ST z μ o) (od : OD z μ P) (g : GS z μ0 μ) :
    ∃ μ', fb_X11_goes rec σ μ (z + 27) 0 (nI P.length) (nI here) (nI towed) (nI gone) = some μ' ∧ ST z μ' (om o (some (gone + fr here 0 * (S + towed), P))) ∧ OD z μ' P ∧ GS z μ0 μ' := by
  have e12 : μ (z + 27) 12 = nI S := by rw [g.2 12 (by decide)]; exact hS
  have put : ∃ μ', ((oPI σ μ 11 (z + 27) 29 (nI (gone + fr here 0 * (S + towed)))).bind fun μ4 => f_X11_goes_b48 rec fu σ μ4 (z + 27) (nI P.length) 0) = some μ' ∧ ST z μ' (some (gone + fr here 0 * (S + towed), P)) ∧ OD z μ' P ∧ GS z μ0 μ' := by
    obtain ⟨μ', a1, a2, a3, a4, a5, a6⟩ := goes_copy (μ0 := μ0) hU (rec := rec) od.1 P.length 0 fu (th_w μ (z + 27) 29 (nI (gone + fr here 0 * (S + towed)))) (Nat.zero_add _) (by have := od.1; unfold fu; omega) (g.w (Or.inr (Or.inr ⟨rfl, rfl⟩)))
    have o40 : μ' (z + 40) = μ (z + 40) := by rw [a4, th_w_ne _ _ (by omega)]
    refine ⟨μ', ?_, ⟨by rw [a3, th_w_self], hb, od.1, fun i hi => ?_⟩, ⟨od.1, fun i hi => by rw [o40]; exact od.2 i hi⟩, a2⟩
    · rw [p_27 hU, Option.bind_some]; exact a1
    · rw [a5 i (Nat.zero_le _) hi, th_w_ne _ _ (by omega)]; exact od.2 i hi
  unfold fb_X11_goes
  rw [if_pos rfl, fr_m0 hh, Option.bind_some, i_27 hU, Option.bind_some, e12, i_27 hU, Option.bind_some, nI_add, nI_mul, nI_add]
  cases o with
  | none =>
    rw [if_pos (by rw [show μ (z + 27) 29 = -1 from st]; decide)]
    exact put
  | some x =>
    obtain ⟨s1, s2, s3, s4⟩ := st
    rw [s1, if_neg (nI_pos (by omega)), Option.bind_some]
    show ∃ μ', _ ∧ ST z μ' (some (if gone + fr here 0 * (S + towed) < x.1 then _ else x)) ∧ _
    by_cases d : gone + fr here 0 * (S + towed) < x.1
    · rw [if_pos (nI_lt d (by omega)), if_pos d]; exact put
    · rw [if_neg (nI_nlt (by omega) (by omega)), if_neg d]; exact ⟨μ, rfl, ⟨s1, s2, s3, s4⟩, od, g⟩
/-- from any place, the LAUNCH full or not -/
def eG (c : Nat → Nat) (T S k left towed here : Nat) : Nat × List Nat := if left = 0 ∨ towed = T then sh (fr here 0 * (S + towed)) [] (RQ c T S k left 0 0) else RQ c T S k left towed here
theorem sh_sh (a a' : Nat) (P P' : List Nat) (x : Nat × List Nat) : sh a P (sh a' P' x) = sh (a + a') (P ++ P') x := by
  unfold sh
  rw [Nat.add_assoc, List.append_assoc]
theorem eG_gq {k s t h b : Nat} (hk : pc (rm s b) = k) (hs : rm s b < 128) : sh (fr h (c b) * (S + t)) [b] (eG c T S k (rm s b) (t + 1) (c b)) = gq c T S k s t h b := by
  unfold eG gq co nt1
  by_cases q : t + 1 = T
  · rw [if_pos (Or.inr q), if_pos (Or.inr q), if_pos q, if_pos rfl, sh_sh]
    rfl
  · by_cases r : rm s b = 0
    · rw [if_pos (Or.inl r), if_pos (Or.inl r), sh_sh]
      have k0 : k = 0 := by rw [← hk, r]; rfl
      subst k0
      rfl
    · rw [if_neg (by omega), if_neg (by omega), if_neg q, if_neg (by omega)]
      rfl
def FS (z : Nat) (σ : th_S) (μ0 : th_M) (n : Nat) (c : Nat → Nat) (T S k d : Nat) : Prop := ∀ left P here towed gone μ o, pc left = k → left < 2 ^ n → towed ≤ T → here < 48 → gone ≤ 360 * P.length → (towed = T → gone + 180 ≤ 360 * P.length) → P.length + k ≤ 7 → ST z μ o → OD z μ P → GS z μ0 μ → ∃ μ', f_scc_X11_goes d 0 σ μ (z + 27) (nI left) (nI P.length) (nI here) (nI towed) (nI gone) = some μ' ∧ ST z μ' (om o (some (sh gone P (eG c T S k left towed here)))) ∧ OD z μ' P ∧ GS z μ0 μ'
theorem goes_loop (hU : SX σ z) (n7 : n ≤ 7) (hn : μ0 (z + 27) 0 = nI n) (hS : μ0 (z + 27) 12 = nI S) (hc : ∀ b, b < 7 → c b < 48) (h30 : ∀ b, b < n → μ0 (z + 30) b = nI (c b)) (hT : T ≤ 6) (hS9 : S ≤ 9) {k d : Nat} (IH : FS z σ μ0 n c T S k d)
    {left here t gone : Nat} {P : List Nat} (hk : pc left = k + 1) (hl : left < 2 ^ n) (ht : t < T) (hh : here < 48) (hg : gone ≤ 360 * P.length) (hP : P.length + (k + 1) ≤ 7) :
    ∀ j i f μ o, i + j = n → j < f → ST z μ o → OD z μ P → GS z μ0 μ → ∃ μ', f_X11_goes_b112 (f_scc_X11_goes d) f σ μ (z + 27) (nI left) (nI P.length) (nI here) (nI t) (nI gone) (nI i) = some μ' ∧ ST z μ' (om o (PK (fun b => sh gone P (gq c T S k left t here b)) left (7 - i) i)) ∧ OD z μ' P ∧ GS z μ0 μ' := by
  have p7 := pow_le7 n7
  intro j
  induction j with
  | zero =>
    intro i f μ o hi hf st od g
    obtain ⟨f, rfl⟩ : ∃ f', f = f' + 1 := ⟨f - 1, by omega⟩
    have e : i = n := by omega
    subst e
    have e0 : μ (z + 27) 0 = nI i := by rw [g.2 0 (by decide)]; exact hn
    refine ⟨μ, ?_, ?_, od, g⟩
    · show (oI σ μ 11 (z + 27) 0).bind _ = _
      rw [i_27 hU, Option.bind_some, e0, if_pos (Int32.le_refl _)]
    · rw [PK_no _ _ (fun b h1 h2 => (tb_lt i (by omega) left (by omega)).mp hl b (by omega) h1), om_none]
      exact st
  | succ j ih =>
    intro i f μ o hi hf st od g
    obtain ⟨f, rfl⟩ : ∃ f', f = f' + 1 := ⟨f - 1, by omega⟩
    have i7 : i < 7 := by omega
    have e0 : μ (z + 27) 0 = nI n := by rw [g.2 0 (by decide)]; exact hn
    have nl : ¬ nI n ≤ nI i := nI_ge (by omega) (by omega)
    rw [show 7 - i = (7 - (i + 1)) + 1 by omega]
    show ∃ μ', ((oI σ μ 11 (z + 27) 0).bind _ = some μ') ∧ ST z μ' (om o (if left.testBit i = true then om (some (sh gone P (gq c T S k left t here i))) (PK (fun b => sh gone P (gq c T S k left t here b)) left (7 - (i + 1)) (i + 1)) else PK (fun b => sh gone P (gq c T S k left t here b)) left (7 - (i + 1)) (i + 1))) ∧ _
    rw [i_27 hU, Option.bind_some, e0, if_neg nl]
    by_cases cb : left.testBit i = true
    · rw [if_neg (fun q => by rw [(shr_bit0 left (by omega) i i7).mp q] at cb; exact absurd cb (by decide)), if_pos cb]
      let μ3 : th_M := th_w μ (z + 40) P.length (nI i)
      have g3 : GS z μ0 μ3 := g.w (Or.inl rfl)
      have lenP : (P ++ [i]).length = P.length + 1 := by simp
      have od3 : OD z μ3 (P ++ [i]) := by
        refine ⟨by rw [lenP]; omega, fun x hx => ?_⟩
        rw [lenP] at hx
        show th_w μ (z + 40) P.length (nI i) (z + 40) x = _
        rw [th_w_hit]
        by_cases ex : x = P.length
        · rw [if_pos ex, ex]
          simp
        · rw [if_neg ex, od.2 x (by omega), List.getD_eq_getElem?_getD, List.getD_eq_getElem?_getD, List.getElem?_append_left (by omega)]
      have st3 : ST z μ3 o := by
        have w27 : μ3 (z + 27) = μ (z + 27) := th_w_ne _ _ (by omega)
        have w41 : μ3 (z + 41) = μ (z + 41) := th_w_ne _ _ (by omega)
        cases o with
        | none => show μ3 (z + 27) 29 = -1; rw [w27]; exact st
        | some x => exact ⟨by rw [w27]; exact st.1, st.2.1, st.2.2.1, fun i hi => by rw [w41]; exact st.2.2.2 i hi⟩
      have p := pc_rm left (by omega) i i7 cb
      have ci := hc i i7
      have cl := (co_le hc (s := left) hT hS9 ht hh i7).2
      have v5 : μ3 (z + 30) i = nI (c i) := by rw [g3.1 (z + 30) (by omega) (by omega) (by omega)]; exact h30 i (by omega)
      have v12 : μ3 (z + 27) 12 = nI S := by rw [g3.2 12 (by decide)]; exact hS
      obtain ⟨μ10, b1, b2, b3, b4⟩ := IH (rm left i) (P ++ [i]) (c i) (t + 1) (gone + fr here (c i) * (S + t)) μ3 o (by omega) (by omega) ht ci (by rw [lenP]; omega) (fun _ => by rw [lenP]; omega) (by rw [lenP]; omega) st3 od3 g3
      rw [lenP] at b1
      have od10 : OD z μ10 P := ⟨od.1, fun x hx => by
        rw [b3.2 x (by rw [lenP]; omega), List.getD_eq_getElem?_getD, List.getD_eq_getElem?_getD, List.getElem?_append_left hx]⟩
      have ec : sh (gone + fr here (c i) * (S + t)) (P ++ [i]) (eG c T S k (rm left i) (t + 1) (c i)) = sh gone P (gq c T S k left t here i) := by
        rw [← eG_gq (by omega) (by omega), sh_sh]
      rw [ec] at b2
      obtain ⟨μ', c1, c2, c3, c4⟩ := ih (i + 1) f μ10 _ (by omega) (by omega) b2 od10 b4
      rw [om_assoc] at c2
      refine ⟨μ', ?_, c2, c3, c4⟩
      rw [r_27_30 hU, Option.bind_some, s_40 hU (by omega), Option.bind_some, r_27_3 hU, Option.bind_some, show th_w μ (z + 40) P.length (nI i) = μ3 from rfl, a_30 hU i7, Option.bind_some, Option.bind_some, a_30 hU i7, Option.bind_some, v5, fr_m here (c i) hh ci, Option.bind_some, i_27 hU, Option.bind_some, v12, c_27 hU, rm_and left (by omega) i i7, nI_1, nI_1, nI_add, nI_mul, nI_add, b1, Option.bind_some, nI_1]
      exact c1
    · rw [if_pos ((shr_bit0 left (by omega) i i7).mpr (by cases h : left.testBit i with | false => rfl | true => exact absurd h cb)), if_neg cb, nI_1]
      exact ih (i + 1) f μ o (by omega) (by omega) st od g
theorem goes_norm (hU : SX σ z) (n7 : n ≤ 7) (hn : μ0 (z + 27) 0 = nI n) (hT1 : μ0 (z + 27) 11 = nI T) (hS : μ0 (z + 27) 12 = nI S) (hc : ∀ b, b < 7 → c b < 48) (h30 : ∀ b, b < n → μ0 (z + 30) b = nI (c b)) (hT : T ≤ 6) (hS9 : S ≤ 9) {k d : Nat} (IH : FS z σ μ0 n c T S k d)
    {left here t gone : Nat} {P : List Nat} {μ : th_M} {o : Option (Nat × List Nat)} (hk : pc left = k + 1) (hl : left < 2 ^ n) (ht : t < T) (hh : here < 48) (hg : gone ≤ 360 * P.length) (hP : P.length + (k + 1) ≤ 7) (st : ST z μ o) (od : OD z μ P) (g : GS z μ0 μ) :
    ∃ μ', f_scc_X11_goes (d + 1) 0 σ μ (z + 27) (nI left) (nI P.length) (nI here) (nI t) (nI gone) = some μ' ∧ ST z μ' (om o (some (sh gone P (RQ c T S (k + 1) left t here)))) ∧ OD z μ' P ∧ GS z μ0 μ' := by
  have p7 := pow_le7 n7
  have l0 : left ≠ 0 := fun e => by rw [e] at hk; exact absurd hk (by rw [show pc 0 = 0 from rfl]; omega)
  obtain ⟨μ', a1, a2, a3, a4⟩ := goes_loop hU n7 hn hS hc h30 hT hS9 IH hk hl ht hh hg hP n 0 fu μ o (Nat.zero_add _) (by unfold fu; omega) st od g
  rw [PK_sh (fun b => rfl), show 7 - 0 = 7 from rfl, RQ_pk (by omega) hk] at a2
  refine ⟨μ', ?_, a2, a3, a4⟩
  show fb_X11_goes (f_scc_X11_goes d) σ μ (z + 27) (nI left) (nI P.length) (nI here) (nI t) (nI gone) = _
  unfold fb_X11_goes
  rw [if_neg (nI_ne0 (by omega) (by omega)), i_27 hU, Option.bind_some, g.2 11 (by decide), hT1, if_neg (fun q => by have := (nI_eq (by omega) (by omega)).mp q; omega)]
  exact a1
theorem goes_all (hU : SX σ z) (n7 : n ≤ 7) (hn : μ0 (z + 27) 0 = nI n) (hT1 : μ0 (z + 27) 11 = nI T) (hS : μ0 (z + 27) 12 = nI S) (hc : ∀ b, b < 7 → c b < 48) (h30 : ∀ b, b < n → μ0 (z + 30) b = nI (c b)) (hT : T ≤ 6) (hT0 : 0 < T) (hS9 : S ≤ 9) : ∀ k d, 2 * k + 2 ≤ d → FS z σ μ0 n c T S k d := by
  have p7 := pow_le7 n7
  intro k
  induction k with
  | zero =>
    intro d hd left P here towed gone μ o hk hl ht hh hg hgT hP st od g
    obtain ⟨d, rfl⟩ : ∃ d', d = d' + 1 := ⟨d - 1, by omega⟩
    have l0 : left = 0 := (pc_0 left (by omega)).mp hk
    subst l0
    have m1 : fr here 0 * (S + towed) ≤ 12 * 15 := Nat.mul_le_mul (fr_12 here hh 0 (by decide)) (by omega)
    obtain ⟨μ', a1, a2, a3, a4⟩ := goes_base hU (rec := f_scc_X11_goes d) (P := P) (towed := towed) (gone := gone) hS hh (by omega) st od g
    refine ⟨μ', a1, ?_, a3, a4⟩
    unfold eG
    rw [if_pos (Or.inl rfl), sh_sh]
    show ST z μ' (om o (some (gone + fr here 0 * (S + towed) + 0, P ++ [] ++ [])))
    rw [List.append_nil, List.append_nil, Nat.add_zero]
    exact a2
  | succ k ih =>
    intro d hd left P here towed gone μ o hk hl ht hh hg hgT hP st od g
    have l0 : left ≠ 0 := fun e => by rw [e] at hk; exact absurd hk (by rw [show pc 0 = 0 from rfl]; omega)
    by_cases q : towed = T
    · obtain ⟨d, rfl⟩ : ∃ d', d = d' + 1 + 1 := ⟨d - 2, by omega⟩
      have m1 : fr here 0 * (S + towed) ≤ 12 * 15 := Nat.mul_le_mul (fr_12 here hh 0 (by decide)) (by omega)
      have hgT' := hgT q
      obtain ⟨μ', a1, a2, a3, a4⟩ := goes_norm hU n7 hn hT1 hS hc h30 hT hS9 (ih d (by omega)) (left := left) (here := 0) (t := 0) (gone := gone + fr here 0 * (S + towed)) hk hl hT0 (by decide) (by omega) hP st od g
      refine ⟨μ', ?_, ?_, a3, a4⟩
      · show fb_X11_goes (f_scc_X11_goes (d + 1)) σ μ (z + 27) (nI left) (nI P.length) (nI here) (nI towed) (nI gone) = _
        unfold fb_X11_goes
        rw [if_neg (nI_ne0 (by omega) (by omega)), i_27 hU, Option.bind_some, g.2 11 (by decide), hT1, if_pos (by rw [q]), fr_m0 hh, Option.bind_some, i_27 hU, Option.bind_some, g.2 12 (by decide), hS, c_27 hU, nI_add, nI_mul, nI_add, show f_scc_X11_goes (d + 1) 0 σ μ (z + 27) (nI left) (nI P.length) 0 0 (nI (gone + fr here 0 * (S + towed))) = some μ' from a1, Option.bind_some]
      · unfold eG
        rw [if_pos (Or.inr q), sh_sh, List.append_nil]
        exact a2
    · obtain ⟨d, rfl⟩ : ∃ d', d = d' + 1 := ⟨d - 1, by omega⟩
      obtain ⟨μ', a1, a2, a3, a4⟩ := goes_norm hU n7 hn hT1 hS hc h30 hT hS9 (ih d (by omega)) (left := left) (here := here) (t := towed) (gone := gone) hk hl (by omega) hh hg hP st od g
      refine ⟨μ', a1, ?_, a3, a4⟩
      unfold eG
      rw [if_neg (by omega)]
      exact a2
/-- the fewest minutes, and the order's row -/
theorem m_fetches (hU : SX σ z) (n7 : n ≤ 7) {μ : th_M} (hn : μ (z + 27) 0 = nI n) (hT1 : μ (z + 27) 11 = nI T) (hS : μ (z + 27) 12 = nI S) (hc : ∀ b, b < 7 → c b < 48) (h30 : ∀ b, b < n → μ (z + 30) b = nI (c b)) (hT : T ≤ 6) (hT0 : 0 < T) (hS9 : S ≤ 9) {s : Nat} (hs : s < 2 ^ n) :
    ∃ μ', f_X11_fetches σ μ (z + 27) (nI s) = some (nI (RQ c T S (pc s) s 0 0).1, μ') ∧ GS z μ μ' ∧ ∀ i, i < pc s → μ' (z + 41) i = nI ((RQ c T S (pc s) s 0 0).2.getD i 0) := by
  have p7 := pow_le7 n7
  have pl : pc s ≤ 7 := by unfold pc; omega
  have g1 : GS z μ (th_w μ (z + 27) 29 (-1)) := (GS.refl z μ).w (Or.inr (Or.inr ⟨rfl, rfl⟩))
  obtain ⟨μ', a1, a2, a3, a4⟩ := goes_all hU n7 hn hT1 hS hc h30 hT hT0 hS9 (pc s) 20 (by omega) s [] 0 0 0 (th_w μ (z + 27) 29 (-1)) none rfl hs (by omega) (by decide) (Nat.le_refl _) (fun q => by omega) (by show 0 + pc s ≤ 7; omega) (by show th_w μ (z + 27) 29 (-1) (z + 27) 29 = -1; rw [th_w_self]) ⟨by decide, fun i hi => by exact absurd hi (Nat.not_lt_zero _)⟩ g1
  have ee : sh 0 [] (eG c T S (pc s) s 0 0) = RQ c T S (pc s) s 0 0 := by
    unfold eG
    by_cases q : s = 0 ∨ 0 = T
    · rw [if_pos q, sh_sh, show fr 0 0 = 0 from rfl, Nat.zero_mul]
      show (0 + 0 + (RQ c T S (pc s) s 0 0).1, [] ++ [] ++ (RQ c T S (pc s) s 0 0).2) = _
      exact Prod.ext (by simp) (by simp)
    · rw [if_neg q]
      show (0 + (RQ c T S (pc s) s 0 0).1, [] ++ (RQ c T S (pc s) s 0 0).2) = _
      exact Prod.ext (by simp) (by simp)
  rw [ee, none_om] at a2
  obtain ⟨b1, b2, b3, b4⟩ := a2
  have len := (RQ_le hc hT hS9 (pc s) s 0 0 (by omega) rfl hT0 (by decide)).2
  refine ⟨μ', ?_, a4, fun i hi => b4 i (by rw [len]; exact hi)⟩
  unfold f_X11_fetches f_X11_goes
  rw [p_27 hU, Option.bind_some, c_27 hU, show f_scc_X11_goes 20 0 σ (th_w μ (z + 27) 29 (-1)) (z + 27) (nI s) 0 0 0 0 = some μ' from a1, Option.bind_some, i_27 hU, Option.bind_some, b1]
end GO
