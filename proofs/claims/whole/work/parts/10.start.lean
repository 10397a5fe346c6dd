/-! THE START: from the law's entry to the heap as a whole, empty yet; the claim out of the pure theorem -/
def st_F : List Cond := flatC (Jvm.Cond.and given_1 narrow_1)
theorem st_tab {w : Cond} {args : Array Value} {s : State} (hts : ∀ w ∈ lw_tbl, w.before args s = true) (i : Nat) (h : tables_1[i]? = some w) : w.before args s = true := hts w (List.mem_append_right _ (List.mem_of_getElem? h))
def st_tm (i : Nat) : Term := Term.string (th_str.getD i ("", 0, "", 0)).1 (th_str.getD i ("", 0, "", 0)).2.1
theorem st_ex : ∀ i, i < 13 → Cond.exactly (st_tm i) "java/lang/String" ∈ st_F := by decide +kernel
theorem st_co : ∀ i, i < 13 → Cond.eq (.field (st_tm i) "java/lang/String" "coder" "B") (.int 0) ∈ st_F := by decide +kernel
theorem st_ar : ∀ i, i < 13 → Cond.arrayOf (.field (st_tm i) "java/lang/String" "value" "[B") .byte ∈ st_F := by decide +kernel
theorem st_le : ∀ i, i < 13 → Cond.eq (.length (.field (st_tm i) "java/lang/String" "value" "[B")) (.int (Int32.ofNat (th_len.getD i 0))) ∈ st_F := by decide +kernel
theorem st_el : ∀ i, i < 13 → ∀ j, j < th_len.getD i 0 → Cond.eq (.elem (.field (st_tm i) "java/lang/String" "value" "[B") (.int (Int32.ofNat j))) (.int ((th_byt.getD i []).getD j 0)) ∈ st_F := by decide +kernel
theorem st_eq : ∀ i, i < 26 → 13 ≤ i → Cond.eq (st_tm (th_str.getD i ("", 0, "", 0)).2.2.2) (st_tm i) ∈ st_F := by decide +kernel
theorem st_sr : ∀ i, i < 26 → ∃ k : Nat, tables_1[k]? = some (Cond.stringRef (th_str.getD i ("", 0, "", 0)).1 (th_str.getD i ("", 0, "", 0)).2.1 (th_str.getD i ("", 0, "", 0)).2.2.1) := by
  intro i hi
  have h : ∀ i, i < 26 → tables_1[([111, 182, 183, 184, 185, 186, 187, 188, 189, 190, 191, 192, 193, 847, 871, 892, 913, 914, 915, 916, 917, 918, 923, 924, 925, 926] : List Nat).getD i 0]? = some (Cond.stringRef (th_str.getD i ("", 0, "", 0)).1 (th_str.getD i ("", 0, "", 0)).2.1 (th_str.getD i ("", 0, "", 0)).2.2.1) := by decide +kernel
  exact ⟨_, h i hi⟩
theorem st_nc : ∀ x ∈ th_nc, Cond.not (.castable x.1 x.2) ∈ st_F := by decide +kernel
theorem st_nw : ∀ w ∈ th_nws, w ∈ tables_1 := by decide +kernel
theorem st_le9 : ∀ j, j < 9 → Cond.eq (.elem (.static RX10 "LEAST" "[I") (.int (Int32.ofNat j))) (.int (th_least.getD j 0)) ∈ st_F := by decide +kernel
theorem st_mo9 : ∀ j, j < 9 → Cond.eq (.elem (.static RX10 "MOST" "[I") (.int (Int32.ofNat j))) (.int (th_most.getD j 0)) ∈ st_F := by decide +kernel
theorem st_strs {args : Array Value} {s : State} {A : Nat → Prop} (hF : ∀ c ∈ st_F, c.before args s = true) (hA : ∀ a : Nat, a < s.heap.size → ¬ A a) : ∃ adK adV : Nat → Nat, th_SC adK adV A s s.heap ∧ ∀ i, i < 13 → (st_tm i).eval args s none [] s = some (.ref (adK i)) := by
  have h0 : ∀ i : Nat, ∃ q : Nat × Nat, i < 13 → (st_tm i).eval args s none [] s = some (.ref q.1) ∧ va_O "java/lang/String" q.1 A s s.heap ∧ va_OF "java/lang/String" "coder" "B" (.int 0) q.1 A s s.heap ∧ va_OF "java/lang/String" "value" "[B" (.ref q.2) q.1 A s s.heap ∧ va_T .byte q.2 (th_len.getD i 0) (fun j => .int ((th_byt.getD i []).getD j 0)) A s s.heap := by
    intro i
    by_cases hi : i < 13
    · obtain ⟨a, c, cA, kA, q1, q2, q3, q4, q5, q6, -⟩ := Cond.exactly_spec (args := args) (first := s) (o := none) (s := s) (idx := []) (t := st_tm i) (cls := "java/lang/String") (hF _ (st_ex i hi))
      have hB := th_lenB i hi
      obtain ⟨t, ht, hT⟩ := va_Tof (f := fun j => .int ((th_byt.getD i []).getD j 0)) (A := A) (N := th_len.getD i 0) (by omega) (hF _ (st_ar i hi)) (va_eqt (hF _ (st_le i hi))) (fun j hj => va_eqt (hF _ (st_el i hi j hj))) hA
      exact ⟨(a, t), fun _ => ⟨q1, ⟨cA, q3, q5, by rw [q6]; exact q2, hA a (Array.getElem?_eq_some_iff.mp q3).1⟩, vk_OFof q1 (va_eqt (hF _ (st_co i hi))) hA, vk_OFof q1 ht hA, hT⟩⟩
    · exact ⟨(0, 0), fun h => absurd h hi⟩
  obtain ⟨ad, had⟩ := Classical.axiomOfChoice h0
  exact ⟨fun i => (ad i).1, fun i => (ad i).2, fun i hi => (had i hi).2, fun i hi => (had i hi).1⟩
def st_S (z : Nat) : th_S := (fun _ => 99, fun _ => 0, fun _ _ => none, z)
def st_M : th_M := fun _ _ => 0
set_option maxHeartbeats 4000000 in
set_option maxRecDepth 100000 in
/-- the start, the cells of the law's run none yet -/
theorem st_R {p : Program} {s : State} {m : MethodId} {meth : Method} {c : Code} {b L : Nat} {xs : Nat → Int32} (C0 : lw_At p s m meth c b L xs) : ∃ G : th_G, G.2.2.1 = s.heap.size ∧ th_R G s s.heap [] (st_S s.heap.size) st_M := by
  obtain ⟨hx, hb, hr, hml, hown, hts, hX, hbl, hlocks, hgv⟩ := C0
  have htw : ∀ w ∈ th_ws, w.before #[Value.ref b] s = true := th_ws_tbl hts
  have hF : ∀ c ∈ st_F, c.before #[Value.ref b] s = true := flat_of_before _ hgv
  have hA : ∀ a : Nat, a < s.heap.size → ¬ (fun q : Nat => s.heap.size ≤ q) a := fun a h1 h2 => absurd h1 (Nat.not_lt.mpr h2)
  obtain ⟨c0, iS0, hKn0⟩ := u_known (C := RX0) (T := TX0) (N := th_N 0) (n := 2) htw in_0 (htw _ w_408)
  obtain ⟨c1, iS1, hKn1⟩ := u_known (C := RX1) (T := TX1) (N := th_N 1) (n := 2) htw in_1 (htw _ w_391)
  obtain ⟨c2, iS2, hKn2⟩ := u_known (C := RX2) (T := TX2) (N := th_N 2) (n := 2) htw in_2 (htw _ w_382)
  obtain ⟨c3, iS3, hKn3⟩ := u_known (C := RX3) (T := TX3) (N := th_N 3) (n := 2) htw in_3 (htw _ w_400)
  obtain ⟨c4, iS4, hKn4⟩ := u_known (C := RX4) (T := TX4) (N := th_N 4) (n := 2) htw in_4 (htw _ w_373)
  obtain ⟨c5, iS5, hKn5⟩ := u_known (C := RX5) (T := TX5) (N := th_N 5) (n := 4) htw in_5 (htw _ w_259)
  obtain ⟨c6, iS6, hKn6⟩ := u_known (C := RX6) (T := TX6) (N := th_N 6) (n := 3) htw in_6 (htw _ w_93)
  obtain ⟨c7, iS7, hKn7⟩ := u_known (C := RX7) (T := TX7) (N := th_N 7) (n := 2) htw in_7 (htw _ w_350)
  obtain ⟨c8, iS8, hKn8⟩ := u_known (C := RX8) (T := TX8) (N := th_N 8) (n := 9) htw in_8 (htw _ w_32)
  obtain ⟨c9, iS9, hKn9⟩ := u_known (C := RX9) (T := TX9) (N := th_N 9) (n := 4) htw in_9 (htw _ w_70)
  obtain ⟨c10, iS10, hKn10⟩ := u_known (C := RX10) (T := TX10) (N := th_N 10) (n := 12) htw in_10 (htw _ w_22)
  obtain ⟨c11, iS11, hKn11⟩ := u_known (C := RX11) (T := TX11) (N := th_N 11) (n := 40) htw in_11 (htw _ w_842)
  obtain ⟨cI, kI, pI, aI1, aI2, aI3⟩ := Cond.arrayClass_spec (htw _ w_66)
  have hAOB : va_AO RX0 s := va_AO.of (A := #[Value.ref b]) (st_tab hts 30 (by decide +kernel))
  obtain ⟨pB, cB, kB, aB1, aB2, aB3, aB4, aB5⟩ := Cond.arrayOver_spec hAOB
  have hAOU : va_AO RX5 s := va_AO.of (A := #[Value.ref b]) (st_tab hts 68 (by decide +kernel))
  obtain ⟨pU, cU, kU, aU1, aU2, aU3, aU4, aU5⟩ := Cond.arrayOver_spec hAOU
  have hAOT : va_AO RX6 s := va_AO.of (A := #[Value.ref b]) (st_tab hts 92 (by decide +kernel))
  obtain ⟨pT, cT, kT, aT1, aT2, aT3, aT4, aT5⟩ := Cond.arrayOver_spec hAOT
  obtain ⟨adK, adV, hSC, hev⟩ := st_strs (A := fun q : Nat => s.heap.size ≤ q) hF hA
  have hini : ∀ C : String, Cond.initialized C ∈ th_ws → (Cond.initialized C).before #[Value.ref b] s = true := fun C h => htw _ h
  obtain ⟨tL, hL1, hL2⟩ := va_Tof (tm := .static RX10 "LEAST" "[I") (ty := .int) (N := 9) (f := fun j => .int (th_least.getD j 0)) (A := fun q : Nat => s.heap.size ≤ q) (by omega) (hF _ (by decide +kernel)) (va_eqt (z := 9) (hF _ (by decide +kernel))) (fun j hj => va_eqt (hF _ (st_le9 j hj))) hA
  obtain ⟨tM, hM1, hM2⟩ := va_Tof (tm := .static RX10 "MOST" "[I") (ty := .int) (N := 9) (f := fun j => .int (th_most.getD j 0)) (A := fun q : Nat => s.heap.size ≤ q) (by omega) (hF _ (by decide +kernel)) (va_eqt (z := 9) (hF _ (by decide +kernel))) (fun j hj => va_eqt (hF _ (st_mo9 j hj))) hA
  have hZL := va_Zof (A := fun q : Nat => s.heap.size ≤ q) (st_tab hts 343 (w := .laysStatic RX10 "LEAST" "[I") (by decide +kernel)) (htw _ w_1) hL1 hA
  have hZM := va_Zof (A := fun q : Nat => s.heap.size ≤ q) (st_tab hts 345 (w := .laysStatic RX10 "MOST" "[I") (by decide +kernel)) (htw _ w_1) hM1 hA
  have hZC := va_Zof (A := fun q : Nat => s.heap.size ≤ q) (st_tab hts 121 (w := .laysStatic "java/lang/String" "COMPACT_STRINGS" "Z") (by decide +kernel)) (htw _ w_5) (va_eqi (z := 1) (hF _ (by decide +kernel))) hA
  have hZP := va_Zqof (A := fun q : Nat => s.heap.size ≤ q) (st_tab hts 137 (w := .laysStatic "jdk/internal/util/Preconditions" "SIOOBE_FORMATTER" "Ljava/util/function/BiFunction;") (by decide +kernel)) (htw _ w_7) (hF _ (by decide +kernel)) hA
  refine ⟨((fun k => match k with | 0 => c0 | 1 => c1 | 2 => c2 | 3 => c3 | 4 => c4 | 5 => c5 | 6 => c6 | 7 => c7 | 8 => c8 | 9 => c9 | 10 => c10 | _ => c11, fun k => match k with | 0 => iS0 | 1 => iS1 | 2 => iS2 | 3 => iS3 | 4 => iS4 | 5 => iS5 | 6 => iS6 | 7 => iS7 | 8 => iS8 | 9 => iS9 | 10 => iS10 | _ => iS11), (fun k => match k with | 12 => cI | 13 => cB | 14 => cU | _ => cT), s.heap.size, adK, adV, fun k => match k with | 0 => tL | _ => tM), rfl, ⟨⟨?_, ?_⟩, ?_, ?_, ?_, ?_⟩, ⟨hSC, ⟨hZL, hL2⟩, ⟨hZM, hM2⟩, hZC, hZP⟩, va_S.rf, rfl, Nat.le_refl _, fun q hq => absurd hq (by show ¬ (99 : Nat) < 16; decide)⟩
  · intro k q hq
    match k, hq with
    | 0, hq => cases hq; exact hKn0
    | 1, hq => cases hq; exact hKn1
    | 2, hq => cases hq; exact hKn2
    | 3, hq => cases hq; exact hKn3
    | 4, hq => cases hq; exact hKn4
    | 5, hq => cases hq; exact hKn5
    | 6, hq => cases hq; exact hKn6
    | 7, hq => cases hq; exact hKn7
    | 8, hq => cases hq; exact hKn8
    | 9, hq => cases hq; exact hKn9
    | 10, hq => cases hq; exact hKn10
    | 11, hq => cases hq; exact hKn11
    | k + 12, hq => simp [vwCl] at hq
  · intro k q hq
    match k, hq with
    | 0, hq => cases hq; exact ⟨fun n z => ⟨(fun k h => by cases h), kI, aI2, pI, aI3⟩, aI1⟩
    | 1, hq => cases hq; exact ⟨fun n z => ⟨(fun k h => by cases h), kB, aB3, pB, aB4⟩, kB, pB, aB3, aB4, aB1, aB5⟩
    | 2, hq => cases hq; exact ⟨fun n z => ⟨(fun k h => by cases h), kU, aU3, pU, aU4⟩, kU, pU, aU3, aU4, aU1, aU5⟩
    | 3, hq => cases hq; exact ⟨fun n z => ⟨(fun k h => by cases h), kT, aT3, pT, aT4⟩, kT, pT, aT3, aT4, aT1, aT5⟩
    | k + 4, hq => simp [th_ty] at hq
  · intro x hx
    obtain ⟨i, hi⟩ := List.getElem?_of_mem hx
    have hlt : i < 26 := (List.getElem?_eq_some_iff.mp hi).1
    have hg : th_str.getD i ("", 0, "", 0) = x := by rw [List.getD_eq_getElem?_getD, hi]; rfl
    obtain ⟨k, hk⟩ := st_sr i hlt
    have h1 := st_tab hts k hk
    rw [hg] at h1
    have h2 : (Term.string x.1 x.2.1).eval #[Value.ref b] s none [] s = some (.ref (adK x.2.2.2)) := by
      have hj : ∀ i, i < 26 → (th_str.getD i ("", 0, "", 0)).2.2.2 < 13 ∧ (i < 13 → (th_str.getD i ("", 0, "", 0)).2.2.2 = i) := by decide +kernel
      have hj' := hj i hlt
      rw [hg] at hj'
      have ht : Term.string x.1 x.2.1 = st_tm i := by unfold st_tm; rw [hg]
      rw [ht]
      by_cases h13 : i < 13
      · rw [hj'.2 h13]; exact hev i h13
      · obtain ⟨y, g1, g2⟩ := Cond.eq_one (hF _ (st_eq i hlt (by omega)))
        rw [hg] at g1
        rw [hev _ hj'.1] at g1
        rw [g2, ← g1]
    exact vk_R.of h1 h2
  · intro x hx
    exact va_Nc.of (hF _ (st_nc x hx))
  · intro w hw
    exact va_Nw.of (th_nws_tab hw) (hts w (List.mem_append_right _ (st_nw w hw)))
  · intro C hC
    simp only [List.mem_cons, List.not_mem_nil, or_false] at hC
    rcases hC with rfl | rfl | rfl
    · exact hAOB
    · exact hAOU
    · exact hAOT
set_option maxHeartbeats 4000000 in
set_option maxRecDepth 100000 in
/-- the claim's one walk, out of what the functions say of the law -/
theorem whole_open (pure : ∀ (z L : Nat) (xs : Nat → Int32), L ≤ 3072 → f_L_law L xs (st_S z) st_M = some 1) {p : Program} {e : Env} {s : State} {m : MethodId} {below : List Frame} {meth : Method} {c : Code} (l : Launch) {b L : Nat} {xs : Nat → Int32} (hL : L ≤ 3072) (C0 : lw_At p s m meth c b L xs) : W p l e room_1 s m #[Value.ref b] below meth c s.heap [] 0 0 (lw_Z below #[Value.ref b] s) (entryFrame m ([Value.ref b] : List Value).toArray 4) := by
  obtain ⟨G, hG, T⟩ := st_R C0
  obtain ⟨hx, hb, hr, hml, hown, hts, hX, hbl, hlocks, hgv⟩ := C0
  have hl := lv_entry ([.ref b]) (n := 4) (Nat.le_of_ble_eq_true rfl)
  rw [lg_entry_eq]
  generalize (lg_sl ([.ref b]) ++ List.replicate (4 - (lg_sl ([.ref b])).length) Slot.unset).toArray = ls at hl ⊢
  have hl : lv_has ls 4 [(0, .ref b)] := hl
  exact law_walk (G := G) hr hlocks ⟨hx, hb, hml, hown, th_ws_tbl hts⟩ hX hbl (by show ¬ G.2.2.1 ≤ b; rw [hG]; exact Nat.not_le.mpr hbl) (fun q hq => by have : G.2.2.1 ≤ q := hq; rw [hG] at this; exact this) T hl (pure _ L xs hL)
