/-! THE HEAP AS A WHOLE: a shape (kinds, lengths, references, the next address) and a memory of ints; all cells from a base on -/
def th_ws : List Cond := lw_tbl.filter goodWord
theorem th_ws_tbl {args : Array Value} {s : State} (h : ∀ w ∈ lw_tbl, w.before args s = true) : ∀ w ∈ th_ws, w.before args s = true := fun w hw => h w (List.mem_filter.mp hw).1
theorem th_ws_good {ws : List Cond} (h : ∀ w ∈ ws, w ∈ th_ws) : GoodIn th_ws ws := fun w hw => ⟨h w hw, good_of_word (List.mem_filter.mp (h w hw)).2⟩
theorem th_in {w : Cond} (i : Nat) (h : tables_1[i]? = some w) (hg : goodWord w = true) : w ∈ th_ws := List.mem_filter.mpr ⟨List.mem_append_right _ (List.mem_of_getElem? h), hg⟩
theorem th_inS {w : Cond} (i : Nat) (h : (k2_sels lw_privs)[i]? = some w) (hg : goodWord w = true) : w ∈ th_ws := List.mem_filter.mpr ⟨List.mem_append_left _ (List.mem_of_getElem? h), hg⟩
/-- how many fields a class has; which are ints -/
def th_N : Nat → Nat
  | 5 => 4
  | 6 => 3
  | 8 => 9
  | 9 => 4
  | 10 => 12
  | 11 => 40
  | _ => 2
def th_I : Nat → Nat → Bool
  | 5, k => k == 3
  | 6, k => k != 0
  | 8, k => !(k == 0 || k == 2 || k == 4)
  | 9, k => k == 1 || k == 2
  | 10, k => k == 1 || k == 4 || k == 7
  | 11, k => k == 0 || (8 ≤ k && k ≤ 15) || k == 17 || k == 18 || (21 ≤ k && k ≤ 26) || k == 29 || k == 33 || k == 34
  | _, _ => false
abbrev th_S : Type := (Nat → Nat) × (Nat → Nat) × (Nat → Nat → Option Nat) × Nat
abbrev th_M : Type := Nat → Nat → Int32
/-- what stays: the classes' numbers and slots, the array classes, the base, where String constants and their bytes lie, where static arrays lie -/
abbrev th_G : Type := va_G × (Nat → ClassId) × Nat × (Nat → Nat) × (Nat → Nat) × (Nat → Nat)
def th_A (G : th_G) : Nat → Prop := fun q => G.2.2.1 ≤ q
def th_f (R : Nat → Nat → Option Nat) (μ : th_M) (q c : Nat) : List Value := (List.range (th_N c)).map (fun k => if th_I c k = true then Value.int (μ q k) else va_rf (R q k))
def th_e (cA : Nat → ClassId) (σ : th_S) (μ : th_M) (q : Nat) : va_E :=
  if σ.1 q < 12 then .inr (σ.1 q, th_f σ.2.2.1 μ q (σ.1 q))
  else if σ.1 q = 12 then .inl (cA 12, (σ.2.1 q, .inl (μ q)))
  else .inl (cA (σ.1 q), (σ.2.1 q, .inr (.inr (.inr (.inr (σ.2.2.1 q))))))
theorem th_f_get {R : Nat → Nat → Option Nat} {μ : th_M} {q c k : Nat} (hk : k < th_N c) : (th_f R μ q c)[k]? = some (if th_I c k = true then Value.int (μ q k) else va_rf (R q k)) := by
  simp [th_f, hk]
theorem th_f_len {R : Nat → Nat → Option Nat} {μ : th_M} {q c : Nat} : (th_f R μ q c).length = th_N c := by simp [th_f]
theorem th_f_V {R : Nat → Nat → Option Nat} {μ : th_M} {q c k : Nat} (hk : k < th_N c) : vp_V (th_f R μ q c) k = (if th_I c k = true then Value.int (μ q k) else va_rf (R q k)) := by
  simp [vp_V, List.getD_eq_getElem?_getD, th_f_get hk]
/-- the memory or the references with one place changed -/
def th_w (μ : th_M) (a k : Nat) (v : Int32) : th_M := va_up μ a (upd (μ a) k v)
def th_wR (σ : th_S) (a k : Nat) (b : Nat) : th_S := (σ.1, σ.2.1, va_up σ.2.2.1 a (va_up (σ.2.2.1 a) k (some b)), σ.2.2.2)
theorem th_w_at (μ : th_M) (a k : Nat) (v : Int32) (b j : Nat) : th_w μ a k v b j = if b = a ∧ j = k then v else μ b j := by
  unfold th_w va_up upd
  by_cases h1 : b = a
  · subst h1
    by_cases h2 : j = k
    · simp [h2]
    · simp [h2]
  · simp [h1]
theorem th_w_ne (μ : th_M) {a k : Nat} (v : Int32) {b : Nat} (h : b ≠ a) : th_w μ a k v b = μ b := by
  unfold th_w va_up
  rw [if_neg h]
/-- a new cell -/
def th_nS (σ : th_S) (c n : Nat) : th_S := (va_up σ.1 σ.2.2.2 c, va_up σ.2.1 σ.2.2.2 n, va_up σ.2.2.1 σ.2.2.2 (fun _ => none), σ.2.2.2 + 1)
def th_nM (σ : th_S) (μ : th_M) : th_M := va_up μ σ.2.2.2 (fun _ => 0)
/-- the array classes' components -/
def th_ar : Nat → FieldType
  | 12 => .int
  | 13 => .object RX0
  | 14 => .object RX5
  | _ => .object RX6
def th_ty (G : th_G) : List (ClassId × FieldType) := [(G.2.1 12, .int), (G.2.1 13, .object RX0), (G.2.1 14, .object RX5), (G.2.1 15, .object RX6)]
/-- the String constants: who names them, by which entry, which text it is -/
def th_txt : List String := ["price 4 ; hears not hid ; comes 0 - 5 < late ;", "far", "wind", "late", "hid", "boat", "minute", "price", "hears", "comes", "or", "and", "not"]
def th_str : List (String × Nat × String × Nat) := [(RX10, 59, th_txt.getD 0 "", 0), (RX8, 122, th_txt.getD 1 "", 1), (RX8, 124, th_txt.getD 2 "", 2), (RX8, 126, th_txt.getD 3 "", 3), (RX8, 128, th_txt.getD 4 "", 4), (RX8, 130, th_txt.getD 5 "", 5), (RX8, 132, th_txt.getD 6 "", 6), (RX8, 134, th_txt.getD 7 "", 7), (RX8, 136, th_txt.getD 8 "", 8), (RX8, 138, th_txt.getD 9 "", 9), (RX8, 140, th_txt.getD 10 "", 10), (RX8, 142, th_txt.getD 11 "", 11), (RX8, 144, th_txt.getD 12 "", 12),
  (RX11, 80, th_txt.getD 0 "", 0), (RX11, 236, th_txt.getD 7 "", 7), (RX11, 214, th_txt.getD 12 "", 12), (RX11, 177, th_txt.getD 1 "", 1), (RX11, 182, th_txt.getD 2 "", 2), (RX11, 183, th_txt.getD 3 "", 3), (RX11, 185, th_txt.getD 4 "", 4), (RX11, 187, th_txt.getD 5 "", 5), (RX11, 189, th_txt.getD 6 "", 6), (RX11, 212, th_txt.getD 11 "", 11), (RX11, 200, th_txt.getD 10 "", 10), (RX11, 242, th_txt.getD 8 "", 8), (RX11, 244, th_txt.getD 9 "", 9)]
def th_len : List Nat := [46, 3, 4, 4, 3, 4, 6, 5, 5, 5, 2, 3, 3]
def th_byt : List (List Int32) := [[112, 114, 105, 99, 101, 32, 52, 32, 59, 32, 104, 101, 97, 114, 115, 32, 110, 111, 116, 32, 104, 105, 100, 32, 59, 32, 99, 111, 109, 101, 115, 32, 48, 32, 45, 32, 53, 32, 60, 32, 108, 97, 116, 101, 32, 59], [102, 97, 114], [119, 105, 110, 100], [108, 97, 116, 101], [104, 105, 100], [98, 111, 97, 116], [109, 105, 110, 117, 116, 101], [112, 114, 105, 99, 101], [104, 101, 97, 114, 115], [99, 111, 109, 101, 115], [111, 114], [97, 110, 100], [110, 111, 116]]
def th_least : List Int32 := [0, 0, 5, 0, 0, 0, 1, 1, 0]
def th_most : List Int32 := [47, 999, 240, 9, 47, 9, 6, 9, 20]
/-- which boats are of no such class -/
def th_nc : List (String × String) := [(RX0, RX7), (RX4, RX7), (RX1, RX7), (RX3, RX7), (RX0, RX4), (RX7, RX4), (RX2, RX4), (RX3, RX4), (RX0, RX2), (RX7, RX2), (RX4, RX2), (RX1, RX2), (RX3, RX2), (RX0, RX1), (RX7, RX1), (RX4, RX1), (RX2, RX1), (RX3, RX1), (RX0, RX3), (RX7, RX3), (RX4, RX3), (RX2, RX3), (RX1, RX3)]
/-- words that stay, but by their own rows -/
def th_nws : List Cond := [.castable RX2 RX7, .castable RX1 RX4, .castable RX7 RX0, .castable RX4 RX0, .castable RX2 RX0, .castable RX1 RX0, .castable RX3 RX0, .methodLinkNest RX10 28 yX8_init RX10, .methodLinkNest RX10 44 yX9_init RX10, .methodLinkNest RX10 58 yX6_init RX10, .methodLinkNest RX9 42 yX10_far RX10, .castable "[I" "java/lang/Cloneable"]
theorem th_nws_moved {w : Cond} (h : w ∈ th_nws) {s U : State} (hW : s.WarmedH U.vm) (hZ : va_Nw w s) : va_Nw w U := by
  simp only [th_nws, List.mem_cons, List.not_mem_nil, or_false] at h
  rcases h with rfl | rfl | rfl | rfl | rfl | rfl | rfl | rfl | rfl | rfl | rfl | rfl
  all_goals first | exact va_Nw.warmC hW hZ | exact va_Nw.warmM hW hZ
theorem th_nws_tab {w : Cond} (h : w ∈ th_nws) : w.onTables = true := by
  simp only [th_nws, List.mem_cons, List.not_mem_nil, or_false] at h
  rcases h with rfl | rfl | rfl | rfl | rfl | rfl | rfl | rfl | rfl | rfl | rfl | rfl <;> rfl
/-- the tables' side -/
def th_K (G : th_G) (U : State) : Prop := va_K G.1 vwCl (th_ty G) U ∧ (∀ x ∈ th_str, vk_R x.1 x.2.1 x.2.2.1 (G.2.2.2.1 x.2.2.2) U) ∧ (∀ x ∈ th_nc, va_Nc x.1 x.2 U) ∧ (∀ w ∈ th_nws, va_Nw w U) ∧ ∀ C ∈ [RX0, RX5, RX6], va_AO C U
/-- the String constants' cells -/
def th_SC (adK adV : Nat → Nat) (A : Nat → Prop) (U : State) (H : Heap) : Prop :=
  ∀ i : Nat, i < 13 → va_O "java/lang/String" (adK i) A U H ∧ va_OF "java/lang/String" "coder" "B" (.int 0) (adK i) A U H ∧ va_OF "java/lang/String" "value" "[B" (.ref (adV i)) (adK i) A U H ∧ va_T .byte (adV i) (th_len.getD i 0) (fun j => .int ((th_byt.getD i []).getD j 0)) A U H
theorem th_SC.moved {adK adV : Nat → Nat} {A : Nat → Prop} {u U : State} {H : Heap} (hvm : u.vm.Alike U.vm) (h : th_SC adK adV A u H) : th_SC adK adV A U H :=
  fun i hi => ⟨va_O.moved hvm (h i hi).1, va_OF.moved hvm (h i hi).2.1, va_OF.moved hvm (h i hi).2.2.1, va_T.moved hvm (h i hi).2.2.2⟩
theorem th_SC.kept {adK adV : Nat → Nat} {A : Nat → Prop} {U : State} {H H1 : Heap} (h : th_SC adK adV A U H) (hq : ∀ a : Nat, a < H.size → ¬ A a → H1[a]? = H[a]?) : th_SC adK adV A U H1 :=
  fun i hi => ⟨(h i hi).1.kept hq, (h i hi).2.1.kept hq, (h i hi).2.2.1.kept hq, (h i hi).2.2.2.kept hq⟩
/-- the constants' cells -/
def th_C (G : th_G) (U : State) (H : Heap) : Prop :=
  th_SC G.2.2.2.1 G.2.2.2.2.1 (th_A G) U H ∧
  (va_Z RX10 "LEAST" "[I" (.ref (G.2.2.2.2.2 0)) (th_A G) U H ∧ va_T .int (G.2.2.2.2.2 0) 9 (fun j => .int (th_least.getD j 0)) (th_A G) U H) ∧
  (va_Z RX10 "MOST" "[I" (.ref (G.2.2.2.2.2 1)) (th_A G) U H ∧ va_T .int (G.2.2.2.2.2 1) 9 (fun j => .int (th_most.getD j 0)) (th_A G) U H) ∧
  va_Z "java/lang/String" "COMPACT_STRINGS" "Z" (.int 1) (th_A G) U H ∧
  va_Zq "jdk/internal/util/Preconditions" "SIOOBE_FORMATTER" "Ljava/util/function/BiFunction;" (th_A G) U H
/-- the cells -/
def th_P (G : th_G) (σ : th_S) (μ : th_M) (H : Heap) : Prop := H.size = σ.2.2.2 ∧ G.2.2.1 ≤ H.size ∧ ∀ q, σ.1 q < 16 → G.2.2.1 ≤ q ∧ va_at G.1 vwCl (q, th_e G.2.1 σ μ q) H
/-- what holds at any place of a method's run -/
def th_R (G : th_G) (s : State) (H : Heap) (locs : List Loc) (σ : th_S) (μ : th_M) : Prop := th_K G s ∧ th_C G s s.heap ∧ va_S (th_A G) s.heap H locs ∧ th_P G σ μ H
/-- what a method asks of its start -/
def th_B (G : th_G) (σ : th_S) (μ : th_M) (U : State) : Prop := th_K G U ∧ th_C G U U.heap ∧ th_P G σ μ U.heap
def th_Q (G : th_G) (res : Option Value) (σ : th_S) (μ : th_M) : Array Value → State → Outcome → State → Prop := fun _ st oc t => oc = .returned res ∧ th_P G σ μ t.heap ∧ va_F (th_A G) st t
/-- a method's contract: from the heap (σ, μ) with such arguments it answers res, and the heap is (σ', μ') -/
def th_Met (l : Launch) (G : th_G) (y : MethodName) (cc : ByteArray) (nL : Nat) (ret : Option FieldType) (rm : Room) (av : List Value) (σ : th_S) (μ : th_M) (res : Option Value) (σ' : th_S) (μ' : th_M) : Prop :=
  Met l y (.code y cc nL ret :: th_ws) rm (va_Pc av (th_B G σ μ)) (th_Q G res σ' μ') rm.cells rm.slots (th_A G)
theorem th_K.moved {G : th_G} {s U : State} (hW : s.WarmedH U.vm) (h : th_K G s) : th_K G U := ⟨va_K.moved hW.alike h.1, fun x hx => vk_R.warm hW (h.2.1 x hx), fun x hx => va_Nc.moved hW.alike (h.2.2.1 x hx), fun w hw => th_nws_moved hw hW (h.2.2.2.1 w hw), fun c hc => va_AO.moved hW.alike (h.2.2.2.2 c hc)⟩
theorem th_C.moved {G : th_G} {u U : State} {H : Heap} (hvm : u.vm.Alike U.vm) (h : th_C G u H) : th_C G U H := by
  obtain ⟨h1, ⟨h2, h3⟩, ⟨h4, h5⟩, h6, h7⟩ := h
  exact ⟨h1.moved hvm, ⟨h2.moved hvm, h3.moved hvm⟩, ⟨h4.moved hvm, h5.moved hvm⟩, h6.moved hvm, h7.moved hvm⟩
theorem th_C.kept {G : th_G} {U : State} {H H1 : Heap} (hq : ∀ a : Nat, a < H.size → ¬ th_A G a → H1[a]? = H[a]?) (h : th_C G U H) : th_C G U H1 := by
  obtain ⟨h1, ⟨h2, h3⟩, ⟨h4, h5⟩, h6, h7⟩ := h
  exact ⟨h1.kept hq, ⟨h2.kept hq, h3.kept hq⟩, ⟨h4.kept hq, h5.kept hq⟩, h6.kept hq, h7.kept hq⟩
theorem th_B.blind {G : th_G} {σ : th_S} {μ : th_M} {av : List Value} : FrameBlind (va_Pc av (th_B G σ μ)) := fun a U g mk q => by
  obtain ⟨q0, ⟨k1, k2, k3, k4, k5⟩, qC, qP⟩ := q
  exact ⟨q0, ⟨va_K.moved (u := U) (U := U.calling g mk a) (Vm.Alike.refl U.vm) k1, fun x hx => vk_R.same (u := U) rfl (k2 x hx), fun x hx => va_Nc.moved (u := U) (U := U.calling g mk a) (Vm.Alike.refl U.vm) (k3 x hx), fun w hw => va_Nw.same (th_nws_tab hw) (u := U) rfl (k4 w hw), fun c hc => va_AO.moved (u := U) (U := U.calling g mk a) (Vm.Alike.refl U.vm) (k5 c hc)⟩, th_C.moved (u := U) (U := U.calling g mk a) (Vm.Alike.refl U.vm) qC, qP⟩
theorem th_A.of {G : th_G} {s : State} {H : Heap} {locs : List Loc} {σ : th_S} {μ : th_M} (T : th_R G s H locs σ μ) {q : Nat} (h : σ.1 q < 16) : th_A G q := (T.2.2.2.2.2 q h).1
/-- the world of one cell -/
theorem th_one {G : th_G} {σ : th_S} {μ : th_M} {H : Heap} (h : th_P G σ μ H) {q : Nat} (hq : σ.1 q < 16) : va_P G.1 vwCl [(q, th_e G.2.1 σ μ q)] H := by
  intro k x hx
  have hk : k < 1 := (List.getElem?_eq_some_iff.mp hx).1
  rw [show k = 0 by omega] at hx
  cases hx
  exact (h.2.2 q hq).2
theorem th_eO {cA : Nat → ClassId} {σ : th_S} {μ : th_M} {q c : Nat} (h : σ.1 q = c) (hc : c < 12) : th_e cA σ μ q = .inr (c, th_f σ.2.2.1 μ q c) := by
  subst h
  simp [th_e, hc]
theorem th_eI {cA : Nat → ClassId} {σ : th_S} {μ : th_M} {q : Nat} (h : σ.1 q = 12) : th_e cA σ μ q = .inl (cA 12, (σ.2.1 q, .inl (μ q))) := by
  simp [th_e, h]
theorem th_eR {cA : Nat → ClassId} {σ : th_S} {μ : th_M} {q c : Nat} (h : σ.1 q = c) (hc : 12 < c) : th_e cA σ μ q = .inl (cA c, (σ.2.1 q, .inr (.inr (.inr (.inr (σ.2.2.1 q)))))) := by
  subst h
  simp [th_e, show ¬ σ.1 q < 12 by omega, show ¬ σ.1 q = 12 by omega]
/-- one cell changed: the picture behind it -/
theorem th_P.upd {G : th_G} {σ σ' : th_S} {μ μ' : th_M} {H H1 : Heap} {a : Nat} (h : th_P G σ μ H) (ha : σ.1 a < 16) (z : H1.size = H.size) (oq : ∀ q : Nat, q ≠ a → H1[q]? = H[q]?) (hN : σ'.2.2.2 = σ.2.2.2) (hk : σ'.1 = σ.1) (he : ∀ q, q ≠ a → th_e G.2.1 σ' μ' q = th_e G.2.1 σ μ q) (hat : va_at G.1 vwCl (a, th_e G.2.1 σ' μ' a) H1) : th_P G σ' μ' H1 := by
  refine ⟨by rw [z, h.1, hN], by rw [z]; exact h.2.1, fun q hq => ?_⟩
  rw [hk] at hq
  refine ⟨(h.2.2 q hq).1, ?_⟩
  by_cases e : q = a
  · subst e; exact hat
  · rw [he q e]
    exact (h.2.2 q hq).2.kept (oq q e)
/-- one cell new -/
theorem th_P.push {G : th_G} {σ : th_S} {μ : th_M} {H H1 : Heap} {c n : Nat} (h : th_P G σ μ H) (z : H1.size = H.size + 1) (oq : ∀ q : Nat, q < H.size → H1[q]? = H[q]?) (hat : va_at G.1 vwCl (H.size, th_e G.2.1 (th_nS σ c n) (th_nM σ μ) H.size) H1) : th_P G (th_nS σ c n) (th_nM σ μ) H1 := by
  have hN := h.1
  refine ⟨by rw [z, hN]; rfl, by rw [z]; exact Nat.le_succ_of_le h.2.1, fun q hq => ?_⟩
  by_cases e : q = H.size
  · subst e; exact ⟨h.2.1, hat⟩
  · have e' : q ≠ σ.2.2.2 := by rw [← hN]; exact e
    have h1 : (th_nS σ c n).1 q = σ.1 q := by simp [th_nS, va_up, e']
    rw [h1] at hq
    obtain ⟨g1, g2⟩ := h.2.2 q hq
    refine ⟨g1, ?_⟩
    have h2 : th_e G.2.1 (th_nS σ c n) (th_nM σ μ) q = th_e G.2.1 σ μ q := by simp [th_e, th_f, th_nS, th_nM, va_up, e']
    rw [h2]
    exact g2.kept (oq q g2.lt)
