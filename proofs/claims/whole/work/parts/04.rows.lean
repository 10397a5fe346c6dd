/-! WHAT A METHOD'S BODY DOES TO THE HEAP, as functions that may fail -/
def oI (σ : th_S) (μ : th_M) (ci a k : Nat) : Option Int32 := if σ.1 a = ci then some (μ a k) else none
def oR (σ : th_S) (ci a k : Nat) : Option Nat := if σ.1 a = ci then σ.2.2.1 a k else none
def th_b (c : Nat) : Bool := c < 5 || c == 7
def oB (σ : th_S) (a k : Nat) : Option Nat := if th_b (σ.1 a) = true then σ.2.2.1 a k else none
def oA (σ : th_S) (μ : th_M) (a : Nat) (i : Int32) : Option Int32 := if σ.1 a = 12 ∧ ¬ (i < 0 ∨ σ.2.1 a ≤ i.toNatClampNeg) then some (μ a i.toNatClampNeg) else none
def oQ (σ : th_S) (c a : Nat) (i : Int32) : Option Nat := if σ.1 a = c ∧ ¬ (i < 0 ∨ σ.2.1 a ≤ i.toNatClampNeg) then σ.2.2.1 a i.toNatClampNeg else none
def oL (σ : th_S) (a : Nat) : Option Int32 := if 12 ≤ σ.1 a ∧ σ.1 a < 16 then some (Int32.ofNat (σ.2.1 a)) else none
def oPI (σ : th_S) (μ : th_M) (ci a k : Nat) (v : Int32) : Option th_M := if σ.1 a = ci then some (th_w μ a k v) else none
def oPR (σ : th_S) (ci a k b : Nat) : Option th_S := if σ.1 a = ci then some (th_wR σ a k b) else none
def oPB (σ : th_S) (a k b : Nat) : Option th_S := if th_b (σ.1 a) = true then some (th_wR σ a k b) else none
def oS (σ : th_S) (μ : th_M) (a : Nat) (i v : Int32) : Option th_M := if σ.1 a = 12 ∧ ¬ (i < 0 ∨ σ.2.1 a ≤ i.toNatClampNeg) then some (th_w μ a i.toNatClampNeg v) else none
def th_c (c d : Nat) : Bool := match c with
  | 13 => th_b d
  | 14 => d == 5
  | _ => d == 6
def oSQ (σ : th_S) (c a : Nat) (i : Int32) (b : Nat) : Option th_S := if σ.1 a = c ∧ th_c c (σ.1 b) = true ∧ ¬ (i < 0 ∨ σ.2.1 a ≤ i.toNatClampNeg) then some (th_wR σ a i.toNatClampNeg b) else none
def oN (σ : th_S) (μ : th_M) (c n : Nat) : Option (Nat × th_S × th_M) := some (σ.2.2.2, th_nS σ c n, th_nM σ μ)
def oNA (σ : th_S) (μ : th_M) (n : Int32) (M : Nat) : Option (Nat × th_S × th_M) := if ¬ n < 0 ∧ n.toNatClampNeg ≤ M then some (σ.2.2.2, th_nS σ 12 n.toNatClampNeg, th_nM σ μ) else none
/-- the receiver's class -/
def oC {α : Type} (σ : th_S) (ci a : Nat) (x : Option α) : Option α := if σ.1 a = ci then x else none
def oG {α : Type} (c : Prop) [Decidable c] (x : Option α) : Option α := if c then x else none
def oX (σ : th_S) (μ : th_M) (a0 : Nat) (sp : Int32) (a1 : Nat) (dp n : Int32) : Option th_M := if σ.1 a0 = 12 ∧ σ.1 a1 = 12 ∧ ¬ sp < 0 ∧ ¬ dp < 0 ∧ ¬ n < 0 ∧ sp.toNatClampNeg + n.toNatClampNeg ≤ σ.2.1 a0 ∧ dp.toNatClampNeg + n.toNatClampNeg ≤ σ.2.1 a1 then some (va_up μ a1 (va_cpy (μ a0) (μ a1) sp.toNatClampNeg dp.toNatClampNeg n.toNatClampNeg)) else none
/-- String constants, by their numbers -/
def oT (i : Nat) : Option Int32 := if i < 13 then some (Int32.ofNat (th_len.getD i 0)) else none
def oU (i : Nat) (j : Int32) : Option Int32 := if i < 13 ∧ ¬ (j < 0 ∨ th_len.getD i 0 ≤ j.toNatClampNeg) then some ((th_byt.getD i []).getD j.toNatClampNeg 0) else none
/-- the two static tables -/
def oZ (t : List Int32) (j : Int32) : Option Int32 := if ¬ (j < 0 ∨ 9 ≤ j.toNatClampNeg) then some (t.getD j.toNatClampNeg 0) else none
theorem ob_ {α β : Type} {x : Option α} {f : α → Option β} {r : β} (h : x.bind f = some r) : ∃ v, x = some v ∧ f v = some r := by
  cases x with
  | none => cases h
  | some v => exact ⟨v, rfl, h⟩
def b2 {α β γ : Type} (x : Option (α × β)) (f : α → β → Option γ) : Option γ := match x with
  | some (a, b) => f a b
  | none => none
def b3 {α β γ δ : Type} (x : Option (α × β × γ)) (f : α → β → γ → Option δ) : Option δ := match x with
  | some (a, b, c) => f a b c
  | none => none
theorem ob2 {α β γ : Type} {x : Option (α × β)} {f : α → β → Option γ} {r : γ} (h : b2 x f = some r) : ∃ a b, x = some (a, b) ∧ f a b = some r := by
  cases x with
  | none => cases h
  | some v => exact ⟨v.1, v.2, rfl, h⟩
theorem ob3 {α β γ δ : Type} {x : Option (α × β × γ)} {f : α → β → γ → Option δ} {r : δ} (h : b3 x f = some r) : ∃ a b c, x = some (a, b, c) ∧ f a b c = some r := by
  cases x with
  | none => cases h
  | some v => exact ⟨v.1, v.2.1, v.2.2, rfl, h⟩
/-- the fuel of a loop -/
def fu : Nat := 1000
def jmax (x y : Int32) : Int32 := if x < y then y else x
def jmin (x y : Int32) : Int32 := if y < x then y else x
def jabs (x : Int32) : Int32 := if 0 ≤ x then x else 0 - x
/-- whether an object of the boats is of a class -/
def oIn (σ : th_S) (a : Nat) (ys : Nat → Bool) : Option Int32 := if th_b (σ.1 a) = true then some (if ys (σ.1 a) = true then 1 else 0) else none
theorem th_b6 {c : Nat} (h : th_b c = true) : c = 0 ∨ c = 1 ∨ c = 2 ∨ c = 3 ∨ c = 4 ∨ c = 7 := by
  simp [th_b] at h
  omega
theorem ot_ {α : Type} {c : Prop} [Decidable c] {x y : α} {r : α} (hc : c) (h : (if c then x else y) = r) : x = r := (if_pos hc).symm.trans h
theorem of_ {α : Type} {c : Prop} [Decidable c] {x y : α} {r : α} (hc : ¬ c) (h : (if c then x else y) = r) : y = r := (if_neg hc).symm.trans h
theorem og_ {α : Type} {c : Prop} [Decidable c] {x : Option α} {r : α} (h : (if c then x else none) = some r) : c ∧ x = some r := by
  by_cases hc : c
  · exact ⟨hc, ot_ hc h⟩
  · exact absurd (of_ hc h) (by simp)
theorem oc_ {α : Type} {σ : th_S} {ci a : Nat} {x : Option α} {r : α} (h : oC σ ci a x = some r) : σ.1 a = ci ∧ x = some r := by
  unfold oC at h
  by_cases hc : σ.1 a = ci
  · exact ⟨hc, ot_ hc h⟩
  · exact absurd (of_ hc h) (by simp)
theorem ogg {α : Type} {c : Prop} [Decidable c] {x : Option α} {r : α} (h : oG c x = some r) : c ∧ x = some r := by
  unfold oG at h
  by_cases hc : c
  · exact ⟨hc, ot_ hc h⟩
  · exact absurd (of_ hc h) (by simp)
theorem th_own {s : State} {H : Heap} {a c : Nat} {G : th_G} {σ : th_S} {μ : th_M} {locs : List Loc} {q : vw_C} (T : th_R G s H locs σ μ) (hc : vwCl[c]? = some q) (h12 : c < 12) (hk : σ.1 a = c) : ∃ cell : Cell, H[a]? = some cell ∧ cell.vm.isStatics = false ∧ s.vm.findClass q.1 = some cell.cls := by
  have h1 := th_one T.2.2.2 (q := a) (by omega)
  rw [th_eO hk h12] at h1
  exact va_recv (q0 := 0) T.1.1 h1 hc rfl
section TH
variable {p : Program} {l : Launch} {e : Env} {R : Room} {s : State} {m : MethodId} {args : Array Value} {below : List Frame} {meth : Method} {c : Code} {H : Heap} {locs : List Loc} {cells slots : Nat} {Q : State → Prop}
variable {cc : ByteArray} {pc nL : Nat} {ls : Array Slot} {rest : List Value} {G : th_G} {σ σ' : th_S} {μ μ' : th_M} {own : String}
/-- a method's start -/
theorem th_ofW {y : MethodName} {ret : Option FieldType} {rm : Room} {av : List Value} {res : Option Value} (hy : plainName y.cls = true) (hlen : (lg_sl av).length ≤ nL)
    (body : ∀ (p : Program) (e : Env) (s : State) (m : MethodId) (args : Array Value) (below : List Frame) (meth : Method) (c : Code) (ls : Array Slot) (Q : State → Prop), MQ below (th_Q G res σ' μ') args s rm.cells rm.slots (th_A G) = Q → CallFix p m c cc nL s args th_ws y.cls → meth.sig.returnType = ret → meth.locks = false → meth.name = y.name → th_R G s s.heap [] σ μ → lv_has ls nL (lv_args 0 av) → W p l e rm s m args below meth c s.heap [] 0 0 Q (F0 m 0 ls [])) : th_Met l G y cc nL ret rm av σ μ res σ' μ' := by
  refine Met.ofW (cc := cc) (maxL := nL) (ret := ret) hy rfl ?_
  intro p e s m args below meth c s₁ B hml hv
  obtain ⟨rfl, hK, hC, hP⟩ := hv
  rw [lg_entry_eq]
  exact body p e s m _ below meth c _ _ rfl ⟨B.exec, B.bytes, hml, findClass_of_methodNamed B.named, fun w hw => atoms_spec (ws := Cond.code y cc nL ret :: th_ws) B.pre w (List.mem_cons_of_mem _ hw)⟩ B.returns B.notSynchronized (name_of_methodNamed B.named B.method).1 ⟨hK, hC, va_S.rf, hP⟩ (lv_entry av (n := nL) hlen)
/-- ends -/
theorem th_iret {v : Int32} {mc ms : Nat} (hQ : MQ below (th_Q G (some (.int v)) σ μ) args s mc ms (th_A G) = Q) (C : CallFix p m c cc nL s args th_ws own) (hr : meth.sig.returnType = some .int) (hlocks : meth.locks = false) (T : th_R G s H locs σ μ) (hc : cells ≤ mc) (hs : slots ≤ ms) (hdg : decode cc pc = .ok (.ireturn, 1)) : W p l e R s m args below meth c H locs cells slots Q (F0 m pc ls [.int v]) := by
  subst hQ
  refine W.widen hc hs ?_
  exact W.iret C.1 C.2.1 hr (fun t ht hW => ⟨rfl, by rw [ht]; exact T.2.2.2, T.2.2.1.F ht⟩) T.2.2.1.2.2 hdg hlocks
theorem th_zret {v : Int32} {ty : FieldType} {mc ms : Nat} (hQ : MQ below (th_Q G (some (.int v)) σ μ) args s mc ms (th_A G) = Q) (C : CallFix p m c cc nL s args th_ws own) (hr : meth.sig.returnType = some ty) (hlocks : meth.locks = false) (T : th_R G s H locs σ μ) (hc : cells ≤ mc) (hs : slots ≤ ms) (hdg : decode cc pc = .ok (.ireturn, 1)) (hn : narrow ty (.int v) = .int v) : W p l e R s m args below meth c H locs cells slots Q (F0 m pc ls [.int v]) := by
  subst hQ
  refine W.widen hc hs ?_
  exact W.zret C.1 C.2.1 hr hn (fun t ht hW => ⟨rfl, by rw [ht]; exact T.2.2.2, T.2.2.1.F ht⟩) T.2.2.1.2.2 hdg hlocks
theorem th_lret {v : Int64} {mc ms : Nat} (hQ : MQ below (th_Q G (some (.long v)) σ μ) args s mc ms (th_A G) = Q) (C : CallFix p m c cc nL s args th_ws own) (hr : meth.sig.returnType = some .long) (hlocks : meth.locks = false) (T : th_R G s H locs σ μ) (hc : cells ≤ mc) (hs : slots ≤ ms) (hdg : decode cc pc = .ok (.lreturn, 1)) : W p l e R s m args below meth c H locs cells slots Q (F0 m pc ls [.long v]) := by
  subst hQ
  refine W.widen hc hs ?_
  exact W.lret C.1 C.2.1 hr (fun t ht hW => ⟨rfl, by rw [ht]; exact T.2.2.2, T.2.2.1.F ht⟩) T.2.2.1.2.2 hdg hlocks
theorem th_aret {v : Nat} {ty : FieldType} {mc ms : Nat} (hQ : MQ below (th_Q G (some (.ref v)) σ μ) args s mc ms (th_A G) = Q) (C : CallFix p m c cc nL s args th_ws own) (hr : meth.sig.returnType = some ty) (hlocks : meth.locks = false) (T : th_R G s H locs σ μ) (hc : cells ≤ mc) (hs : slots ≤ ms) (hdg : decode cc pc = .ok (.areturn, 1)) (hn : (∃ n, ty = .object n) ∨ ∃ t, ty = .array t) : W p l e R s m args below meth c H locs cells slots Q (F0 m pc ls [.ref v]) := by
  subst hQ
  refine W.widen hc hs ?_
  exact W.aret C.1 C.2.1 hr hn (Or.inr ⟨v, rfl⟩) (fun t ht hW => ⟨rfl, by rw [ht]; exact T.2.2.2, T.2.2.1.F ht⟩) T.2.2.1.2.2 hdg hlocks
theorem th_vret {mc ms : Nat} (hQ : MQ below (th_Q G none σ μ) args s mc ms (th_A G) = Q) (C : CallFix p m c cc nL s args th_ws own) (hr : meth.sig.returnType = none) (hlocks : meth.locks = false) (T : th_R G s H locs σ μ) (hc : cells ≤ mc) (hs : slots ≤ ms) (hdg : decode cc pc = .ok (.return_, 1)) : W p l e R s m args below meth c H locs cells slots Q (F0 m pc ls []) := by
  subst hQ
  refine W.widen hc hs ?_
  exact W.vret C.1 C.2.1 hr (fun t ht hW => ⟨rfl, by rw [ht]; exact T.2.2.2, T.2.2.1.F ht⟩) T.2.2.1.2.2 hdg hlocks
/-- fields -/
theorem th_get (C : CallFix p m c cc nL s args th_ws own) (T : th_R G s H locs σ μ) {a ci k index : Nat} {Cn ref : String} {Tn : u_T} (h12 : ci < 12) (hc : vwCl[ci]? = some (Cn, Tn, th_N ci)) (hin : ∀ w ∈ u_ws Cn Tn (th_N ci), w ∈ th_ws) (hk : k < th_N ci) (hkd : σ.1 a = ci) (hlink : Cond.fieldLink own index ref (Tn k).2.1 (Tn k).2.2.1 ∈ th_ws) (hsame : ∀ x, s.fieldFound? (Tn k).1 (Tn k).2.1 (Tn k).2.2.1 = some x → s.fieldFound? ref (Tn k).2.1 (Tn k).2.2.1 = some x) (hdg : decode cc pc = .ok (.getfield index, 3))
    (kk : W p l e R s m args below meth c H locs cells slots Q (F0 m (pc + 3) ls ((if th_I ci k = true then Value.int (μ a k) else va_rf (σ.2.2.1 a k)) :: rest))) : W p l e R s m args below meth c H locs cells slots Q (F0 m pc ls (.ref a :: rest)) := by
  have h1 := th_one T.2.2.2 (q := a) (by omega)
  rw [th_eO hkd h12] at h1
  exact va_get C.1 C.2.1 C.2.2.2.2 hin C.2.2.2.1 T.1.1 h1 0 rfl hc k hk (C.2.2.2.2 _ hlink) hsame (th_f_get hk) hdg kk
theorem th_getI (C : CallFix p m c cc nL s args th_ws own) (T : th_R G s H locs σ μ) {a k index : Nat} (ci : Nat) {v : Int32} {Cn ref : String} {Tn : u_T} (h : oI σ μ ci a k = some v) (h12 : ci < 12) (hc : vwCl[ci]? = some (Cn, Tn, th_N ci)) (hin : ∀ w ∈ u_ws Cn Tn (th_N ci), w ∈ th_ws) (hk : k < th_N ci) (hI : th_I ci k = true) (hlink : Cond.fieldLink own index ref (Tn k).2.1 (Tn k).2.2.1 ∈ th_ws) (hsame : ∀ x, s.fieldFound? (Tn k).1 (Tn k).2.1 (Tn k).2.2.1 = some x → s.fieldFound? ref (Tn k).2.1 (Tn k).2.2.1 = some x) (hdg : decode cc pc = .ok (.getfield index, 3))
    (kk : W p l e R s m args below meth c H locs cells slots Q (F0 m (pc + 3) ls (.int v :: rest))) : W p l e R s m args below meth c H locs cells slots Q (F0 m pc ls (.ref a :: rest)) := by
  unfold oI at h
  obtain ⟨hkd, h⟩ := og_ h
  cases h
  refine th_get C T h12 hc hin hk hkd hlink hsame hdg ?_
  rw [if_pos hI]
  exact kk
theorem th_getR (C : CallFix p m c cc nL s args th_ws own) (T : th_R G s H locs σ μ) {a k index b : Nat} (ci : Nat) {Cn ref : String} {Tn : u_T} (h : oR σ ci a k = some b) (h12 : ci < 12) (hc : vwCl[ci]? = some (Cn, Tn, th_N ci)) (hin : ∀ w ∈ u_ws Cn Tn (th_N ci), w ∈ th_ws) (hk : k < th_N ci) (hI : th_I ci k = false) (hlink : Cond.fieldLink own index ref (Tn k).2.1 (Tn k).2.2.1 ∈ th_ws) (hsame : ∀ x, s.fieldFound? (Tn k).1 (Tn k).2.1 (Tn k).2.2.1 = some x → s.fieldFound? ref (Tn k).2.1 (Tn k).2.2.1 = some x) (hdg : decode cc pc = .ok (.getfield index, 3))
    (kk : W p l e R s m args below meth c H locs cells slots Q (F0 m (pc + 3) ls (.ref b :: rest))) : W p l e R s m args below meth c H locs cells slots Q (F0 m pc ls (.ref a :: rest)) := by
  unfold oR at h
  obtain ⟨hkd, h⟩ := og_ h
  refine th_get C T h12 hc hin hk hkd hlink hsame hdg ?_
  rw [hI, h]
  exact kk
theorem th_put (C : CallFix p m c cc nL s args th_ws own) (T : th_R G s H locs σ μ) {a k index : Nat} (ci : Nat) {v : Value} {Cn ref : String} {Tn : u_T} {tyn : Nat → FieldType} (h12 : ci < 12) (hc : vwCl[ci]? = some (Cn, Tn, th_N ci)) (hin : ∀ w ∈ u_ws Cn Tn (th_N ci), w ∈ th_ws) (hty : ∀ k, k < th_N ci → parseFieldDescriptor (Tn k).2.2.1 = some (tyn k)) (hnm : ∀ a, a < th_N ci → ∀ b, b < th_N ci → a ≠ b → (Tn a).2.1 ≠ (Tn b).2.1) (hk : k < th_N ci) (hkd : σ.1 a = ci) (hlink : Cond.fieldLink own index ref (Tn k).2.1 (Tn k).2.2.1 ∈ th_ws) (hsame : ∀ x, s.fieldFound? (Tn k).1 (Tn k).2.1 (Tn k).2.2.1 = some x → s.fieldFound? ref (Tn k).2.1 (Tn k).2.2.1 = some x)
    (hfin : (Tn k).2.2.2 = false ∨ ((Tn k).2.2.2 = true ∧ meth.name = "<init>" ∧ (Tn k).1 = own)) (hn : narrow (tyn k) v = v) (hfit : fits (tyn k) v = true) (hN : σ'.2.2.2 = σ.2.2.2) (hS : σ'.1 = σ.1) (hL : σ'.2.1 = σ.2.1) (hRo : ∀ q, q ≠ a → σ'.2.2.1 q = σ.2.2.1 q) (hMo : ∀ q, q ≠ a → μ' q = μ q)
    (hV : ∀ j, j < th_N ci → (if j = k then v else if th_I ci j = true then Value.int (μ a j) else va_rf (σ.2.2.1 a j)) = (if th_I ci j = true then Value.int (μ' a j) else va_rf (σ'.2.2.1 a j))) (hdg : decode cc pc = .ok (.putfield index, 3))
    (kk : ∀ (H : Heap) (locs : List Loc), th_R G s H locs σ' μ' → W p l e R s m args below meth c H locs cells slots Q (F0 m (pc + 3) ls rest)) : W p l e R s m args below meth c H locs cells slots Q (F0 m pc ls (v :: .ref a :: rest)) := by
  obtain ⟨tK, tC, tS, tP⟩ := T
  have hA := (tP.2.2 a (by omega)).1
  have h1 := (tP.2.2 a (by omega)).2
  rw [th_eO hkd h12] at h1
  obtain ⟨r, g1, cell, q1, q2, q3, q4⟩ := h1
  have hr : r = (Cn, Tn, th_N ci) := Option.some.inj (g1.symm.trans hc)
  subst hr
  have hap := va_apart (own := own) C.2.2.2.2 hin tyn hty hnm tK.1 hc
  obtain ⟨hS0, hfc, kC, hkC, hkind⟩ := tK.1.1 ci _ hc
  obtain ⟨cf, kf, fi, f, hi, hsl⟩ := hS0 k hk
  have hst := (u_facts hfc hkC (u_lays C.2.2.2.2 hin hk) hi).1
  have fin : ∀ H' : Heap, H'[a]? = some (cell.setSlot f.slot v) → H'.size = H.size → (∀ q, q ≠ a → H'[q]? = H[q]?) → W p l e R s m args below meth c H' (locs ++ [⟨a, f.slot⟩]) cells slots Q (F0 m (pc + 3) ls rest) := by
    intro H' e1 e2 e3
    rw [hsl] at e1
    refine kk H' _ ⟨tK, tC, tS.put e2 e3 hA, tP.upd (a := a) (by omega) e2 e3 hN hS (fun q hq => ?_) ?_⟩
    · simp only [th_e, th_f, hS, hL, hRo q hq, hMo q hq]
    · rw [th_eO (by rw [hS]; exact hkd) h12]
      refine ⟨_, hc, t_OB.to (V := updV (vp_V (th_f σ.2.2.1 μ a ci)) k v) ⟨_, e1, q2, q3, t_set q4 hap hk v⟩ (fun j hj => ?_)⟩
      rw [th_f_V hj, ← hV j hj]
      unfold updV
      by_cases hjk : j = k
      · simp [hjk]
      · simp [hjk, th_f_V hj]
  rcases hfin with hf | ⟨hf, hin2, hdecl⟩
  · have hlay := C.2.2.2.2 _ (hin _ (u_in_lay hk))
    unfold u_lay at hlay
    rw [if_neg (by rw [hf]; decide)] at hlay
    have h6 := u_store hfc hkC hkind hlay hi (hty k hk) hn hfit
    exact W.putK C.1 C.2.1 (f := f) ⟨C.2.2.2.1, C.2.2.2.2 _ hlink, ⟨_, _, _, hsame _ hi⟩, hst⟩ (by rw [q2]; exact h6) q1 q3 (by rw [hsl]; exact k2_hasslot (q4 k hk)) rfl rfl hdg fin
  · have hlay := C.2.2.2.2 _ (hin _ (u_in_lay hk))
    unfold u_lay at hlay
    rw [if_pos hf] at hlay
    have hcf : m.cls = cf := by
      obtain ⟨_, _, c', _, _, _, -, -, hf', -, -, -, hown2, -⟩ := Cond.laysFinal_spec hlay
      have e1 : c' = cf := by have := hi.symm.trans hf'; simp at this; exact this.1.symm
      rw [hdecl] at hown2
      rw [← e1]; exact Option.some.inj (C.2.2.2.1.symm.trans hown2)
    have h6 := u_fits hfc hkC hkind (Or.inr hlay) hi (hty k hk) hn hfit
    exact W.putFinK C.1 C.2.1 C.2.2.2.1 (C.2.2.2.2 _ hlink) (hsame _ hi) hst hcf hin2 (by rw [q2]; exact h6) q1 q3 (by rw [hsl]; exact k2_hasslot (q4 k hk)) rfl rfl hdg fin
theorem th_putI (C : CallFix p m c cc nL s args th_ws own) (T : th_R G s H locs σ μ) {a k index : Nat} (ci : Nat) {v : Int32} {Cn ref : String} {Tn : u_T} {tyn : Nat → FieldType} (h : oPI σ μ ci a k v = some μ') (h12 : ci < 12) (hc : vwCl[ci]? = some (Cn, Tn, th_N ci)) (hin : ∀ w ∈ u_ws Cn Tn (th_N ci), w ∈ th_ws) (hty : ∀ k, k < th_N ci → parseFieldDescriptor (Tn k).2.2.1 = some (tyn k)) (hnm : ∀ a, a < th_N ci → ∀ b, b < th_N ci → a ≠ b → (Tn a).2.1 ≠ (Tn b).2.1) (hk : k < th_N ci) (hI : th_I ci k = true) (hlink : Cond.fieldLink own index ref (Tn k).2.1 (Tn k).2.2.1 ∈ th_ws) (hsame : ∀ x, s.fieldFound? (Tn k).1 (Tn k).2.1 (Tn k).2.2.1 = some x → s.fieldFound? ref (Tn k).2.1 (Tn k).2.2.1 = some x)
    (hfin : (Tn k).2.2.2 = false ∨ ((Tn k).2.2.2 = true ∧ meth.name = "<init>" ∧ (Tn k).1 = own)) (hn : narrow (tyn k) (.int v) = .int v) (hfit : fits (tyn k) (.int v) = true) (hdg : decode cc pc = .ok (.putfield index, 3))
    (kk : ∀ (H : Heap) (locs : List Loc), th_R G s H locs σ μ' → W p l e R s m args below meth c H locs cells slots Q (F0 m (pc + 3) ls rest)) : W p l e R s m args below meth c H locs cells slots Q (F0 m pc ls (.int v :: .ref a :: rest)) := by
  unfold oPI at h
  obtain ⟨hkd, h⟩ := og_ h
  cases h
  refine th_put C T ci h12 hc hin hty hnm hk hkd hlink hsame hfin hn hfit rfl rfl rfl (fun q hq => rfl) (fun q hq => th_w_ne μ v hq) (fun j hj => ?_) hdg kk
  rw [th_w_at]
  by_cases hjk : j = k
  · subst hjk; simp [hI]
  · simp [hjk]
theorem th_putR (C : CallFix p m c cc nL s args th_ws own) (T : th_R G s H locs σ μ) {a k index b : Nat} (ci : Nat) {Cn ref : String} {Tn : u_T} {tyn : Nat → FieldType} (h : oPR σ ci a k b = some σ') (h12 : ci < 12) (hc : vwCl[ci]? = some (Cn, Tn, th_N ci)) (hin : ∀ w ∈ u_ws Cn Tn (th_N ci), w ∈ th_ws) (hty : ∀ k, k < th_N ci → parseFieldDescriptor (Tn k).2.2.1 = some (tyn k)) (hnm : ∀ a, a < th_N ci → ∀ b, b < th_N ci → a ≠ b → (Tn a).2.1 ≠ (Tn b).2.1) (hk : k < th_N ci) (hI : th_I ci k = false) (hlink : Cond.fieldLink own index ref (Tn k).2.1 (Tn k).2.2.1 ∈ th_ws) (hsame : ∀ x, s.fieldFound? (Tn k).1 (Tn k).2.1 (Tn k).2.2.1 = some x → s.fieldFound? ref (Tn k).2.1 (Tn k).2.2.1 = some x)
    (hfin : (Tn k).2.2.2 = false ∨ ((Tn k).2.2.2 = true ∧ meth.name = "<init>" ∧ (Tn k).1 = own)) (hn : narrow (tyn k) (.ref b) = .ref b) (hfit : fits (tyn k) (.ref b) = true) (hdg : decode cc pc = .ok (.putfield index, 3))
    (kk : ∀ (H : Heap) (locs : List Loc), th_R G s H locs σ' μ → W p l e R s m args below meth c H locs cells slots Q (F0 m (pc + 3) ls rest)) : W p l e R s m args below meth c H locs cells slots Q (F0 m pc ls (.ref b :: .ref a :: rest)) := by
  unfold oPR at h
  obtain ⟨hkd, h⟩ := og_ h
  cases h
  refine th_put (σ' := th_wR σ a k b) C T ci h12 hc hin hty hnm hk hkd hlink hsame hfin hn hfit rfl rfl rfl (fun q hq => by simp [th_wR, va_up, hq]) (fun q hq => rfl) (fun j hj => ?_) hdg kk
  by_cases hjk : j = k
  · subst hjk; simp [hI, th_wR, va_up, va_rf]
  · simp [hjk, th_wR, va_up]
/-- arrays -/
theorem th_iald (C : CallFix p m c cc nL s args th_ws own) (T : th_R G s H locs σ μ) {a : Nat} {i v : Int32} (h : oA σ μ a i = some v) (hdg : decode cc pc = .ok (.iaload, 1))
    (kk : W p l e R s m args below meth c H locs cells slots Q (F0 m (pc + 1) ls (.int v :: rest))) : W p l e R s m args below meth c H locs cells slots Q (F0 m pc ls (.int i :: .ref a :: rest)) := by
  unfold oA at h
  obtain ⟨⟨hkd, hi⟩, h⟩ := og_ h
  cases h
  have h1 := th_one T.2.2.2 (q := a) (by omega)
  rw [th_eI hkd] at h1
  exact va_iald C.1 C.2.1 T.1.1 h1 0 0 rfl rfl hi hdg kk
theorem th_aald (C : CallFix p m c cc nL s args th_ws own) (T : th_R G s H locs σ μ) {a b : Nat} {i : Int32} (ci : Nat) {Cn : String} (h : oQ σ ci a i = some b) (h16 : 12 < ci ∧ ci < 16) (ht : (th_ty G)[ci - 12]? = some (G.2.1 ci, .object Cn)) (hdg : decode cc pc = .ok (.aaload, 1))
    (kk : W p l e R s m args below meth c H locs cells slots Q (F0 m (pc + 1) ls (.ref b :: rest))) : W p l e R s m args below meth c H locs cells slots Q (F0 m pc ls (.int i :: .ref a :: rest)) := by
  unfold oQ at h
  obtain ⟨⟨hkd, hi⟩, h⟩ := og_ h
  have h1 := th_one T.2.2.2 (q := a) (by omega)
  rw [th_eR hkd h16.1] at h1
  refine va_aldq C.1 C.2.1 T.1.1 h1 0 (ci - 12) rfl ht hi hdg ?_
  rw [h]
  exact kk
theorem th_alen (C : CallFix p m c cc nL s args th_ws own) (T : th_R G s H locs σ μ) {a : Nat} {v : Int32} (h : oL σ a = some v) (hdg : decode cc pc = .ok (.arraylength, 1))
    (kk : W p l e R s m args below meth c H locs cells slots Q (F0 m (pc + 1) ls (.int v :: rest))) : W p l e R s m args below meth c H locs cells slots Q (F0 m pc ls (.ref a :: rest)) := by
  unfold oL at h
  obtain ⟨⟨hk1, hk2⟩, h⟩ := og_ h
  cases h
  have h1 := th_one T.2.2.2 (q := a) hk2
  by_cases hkd : σ.1 a = 12
  · rw [th_eI hkd] at h1
    exact va_alen C.1 C.2.1 T.1.1 h1 0 0 rfl (ty := .int) rfl rfl hdg kk
  · rw [th_eR rfl (by omega)] at h1
    rcases (show σ.1 a = 13 ∨ σ.1 a = 14 ∨ σ.1 a = 15 by omega) with hk | hk | hk
    · rw [hk] at h1
      exact va_alen C.1 C.2.1 T.1.1 h1 0 1 rfl (ty := .object RX0) rfl rfl hdg kk
    · rw [hk] at h1
      exact va_alen C.1 C.2.1 T.1.1 h1 0 2 rfl (ty := .object RX5) rfl rfl hdg kk
    · rw [hk] at h1
      exact va_alen C.1 C.2.1 T.1.1 h1 0 3 rfl (ty := .object RX6) rfl rfl hdg kk
theorem th_iast (C : CallFix p m c cc nL s args th_ws own) (T : th_R G s H locs σ μ) {a : Nat} {i v : Int32} (h : oS σ μ a i v = some μ') (hdg : decode cc pc = .ok (.iastore, 1))
    (kk : ∀ (H : Heap) (locs : List Loc), th_R G s H locs σ μ' → W p l e R s m args below meth c H locs cells slots Q (F0 m (pc + 1) ls rest)) : W p l e R s m args below meth c H locs cells slots Q (F0 m pc ls (.int v :: .int i :: .ref a :: rest)) := by
  unfold oS at h
  obtain ⟨⟨hkd, hin⟩, h⟩ := og_ h
  cases h
  obtain ⟨tK, tC, tS, tP⟩ := T
  have hA := (tP.2.2 a (by omega)).1
  have ha := (tP.2.2 a (by omega)).2
  rw [th_eI hkd] at ha
  refine W.iast C.1 C.2.1 ha ((tK.1.2 0 _ rfl).1 (σ.2.1 a) (fun j => .int (μ a j))) (fun q => by cases q) (by show ¬ (i < 0 ∨ (arrV _ _ _).slots.size ≤ _); rw [arrV_size]; exact hin) rfl rfl hdg fun H1 e z oq => ?_
  refine kk H1 _ ⟨tK, tC, tS.put z oq hA, tP.upd (a := a) (by omega) z oq rfl rfl (fun q hq => ?_) ?_⟩
  · simp only [th_e, th_f, th_w_ne μ v hq]
  · rw [th_eI hkd]
    show H1[a]? = some (vp_cell _ _)
    rw [e]
    show some ((vp_cell _ _).setSlot _ _) = _
    rw [vp_cell_i, vp_cell_i, arrV_store]
    congr 2
    funext q
    by_cases hq : q = i.toNatClampNeg
    · subst hq
      simp [updV, th_w_at]
    · simp [updV, th_w_at, hq]
theorem th_aast (C : CallFix p m c cc nL s args th_ws own) (T : th_R G s H locs σ μ) {a b : Nat} {i : Int32} (ci : Nat) {Cn : String} (h : oSQ σ ci a i b = some σ') (h16 : 12 < ci ∧ ci < 16) (ht : (th_ty G)[ci - 12]? = some (G.2.1 ci, .object Cn)) (hcast : ∀ cb, th_c ci cb = true → cb < 12 ∧ ∃ q : vw_C, vwCl[cb]? = some q ∧ (q.1 = Cn ∨ (Cond.castable q.1 Cn) ∈ th_nws)) (hdg : decode cc pc = .ok (.aastore, 1))
    (kk : ∀ (H : Heap) (locs : List Loc), th_R G s H locs σ' μ → W p l e R s m args below meth c H locs cells slots Q (F0 m (pc + 1) ls rest)) : W p l e R s m args below meth c H locs cells slots Q (F0 m pc ls (.ref b :: .int i :: .ref a :: rest)) := by
  unfold oSQ at h
  obtain ⟨⟨hkd, hcb, hin⟩, h⟩ := og_ h
  cases h
  have hlt : i.toNatClampNeg < σ.2.1 a := Nat.not_le.mp fun q => hin (Or.inr q)
  have h0 : ¬ i < 0 := fun q => hin (Or.inl q)
  obtain ⟨hb12, q, hq, hqc⟩ := hcast _ hcb
  obtain ⟨cellV, g1, g2, g3⟩ := th_own T hq hb12 rfl
  obtain ⟨tK, tC, tS, tP⟩ := T
  have hA := (tP.2.2 a (by omega)).1
  have ha := (tP.2.2 a (by omega)).2
  rw [th_eR hkd h16.1] at ha
  obtain ⟨kA, comp, k1, k2, k3, -⟩ := (tK.1.2 (ci - 12) _ ht).2
  obtain ⟨kC, hkC, -⟩ := Vm.findClass_spec k3
  obtain ⟨kV, hkV, -⟩ := Vm.findClass_spec g3
  have hasg : s.vm.assignable cellV.cls comp = true := by
    rcases hqc with e | e
    · rw [e, k3] at g3
      cases g3
      exact va_asg _ _
    · obtain ⟨c0, t0, f1, f2, f3⟩ := Cond.castable_spec (va_Nw.use (A := args) rfl (tK.2.2.2.1 _ e))
      cases g3.symm.trans f1
      cases k3.symm.trans f2
      exact f3
  refine W.aast C.1 C.2.1 ha (fun q h => by cases h) (fun h => by cases h) k1 k2 rfl hkC ⟨h0, by show _ < (arrV _ _ _).slots.size; rw [arrV_size]; exact hlt⟩ g1 (fun q h => by rw [h] at g2; cases g2) hkV hasg rfl rfl hdg fun H1 e z oq => ?_
  refine kk H1 _ ⟨tK, tC, tS.put z oq hA, tP.upd (a := a) (by omega) z oq rfl rfl (fun q hq => ?_) ?_⟩
  · simp only [th_e, th_f, th_wR, va_up, if_neg hq]
  · rw [th_eR (show (th_wR σ a i.toNatClampNeg b).1 a = ci from hkd) h16.1]
    show H1[a]? = some (vp_cell _ _)
    rw [e]
    show some ((vp_cell _ _).setSlot _ _) = _
    rw [vp_cell_q, vp_cell_q, arrV_store]
    congr 2
    funext q
    by_cases hq : q = i.toNatClampNeg
    · subst hq
      simp [updV, th_wR, va_up, va_rf]
    · simp [updV, th_wR, va_up, hq]
/-- new cells -/
theorem th_new (C : CallFix p m c cc nL s args th_ws own) (T : th_R G s H locs σ μ) {index a : Nat} (ci : Nat) {Cn : String} {Tn : u_T} {tyn : Nat → FieldType} (h : oN σ μ ci (th_N ci) = some (a, σ', μ')) (h12 : ci < 12) (hc : vwCl[ci]? = some (Cn, Tn, th_N ci)) (hin : ∀ w ∈ u_ws Cn Tn (th_N ci), w ∈ th_ws) (hty : ∀ k, k < th_N ci → parseFieldDescriptor (Tn k).2.2.1 = some (tyn k)) (hcl : Cond.classLink own index Cn ∈ th_ws) (hinst : Cond.instantiable Cn (th_N ci) ∈ th_ws) (hini : Cond.initialized Cn ∈ th_ws) (hdef : ∀ j, j < th_N ci → defaultValue (tyn j) = if th_I ci j = true then Value.int 0 else .null) (hcells : cells + 1 ≤ R.cells) (hslots : slots + th_N ci ≤ R.slots) (hdg : decode cc pc = .ok (.new index, 3))
    (kk : ∀ (H : Heap), th_R G s H locs σ' μ' → W p l e R s m args below meth c H locs (cells + 1) (slots + th_N ci) Q (F0 m (pc + 3) ls (.ref a :: rest))) : W p l e R s m args below meth c H locs cells slots Q (F0 m pc ls rest) := by
  cases h
  obtain ⟨tK, tC, tS, tP⟩ := T
  have hKn := tK.1.1 ci _ hc
  have hN := tP.1
  refine W.newcK C.1 C.2.1 C.2.2.2.1 (C.2.2.2.2 _ hcl) (C.2.2.2.2 _ hinst) (C.2.2.2.2 _ hini) rfl hdg hcells hslots hKn.2.1 hN fun H1 kC hkC e1 z1 o1 => ?_
  refine kk H1 ⟨tK, tC, ⟨Nat.le_trans tS.1 (by omega), fun x h1 h2 => (o1 x (by have := tS.1; omega)).trans (tS.2.1 x h1 h2), tS.2.2⟩, tP.push (by omega) (fun q hq => o1 q (by omega)) ?_⟩
  rw [hN, th_eO (c := ci) (by simp [th_nS, va_up]) h12]
  refine ⟨_, hc, (u_born tyn C.2.2.2.2 hin hKn hkC e1 hty).to (fun j hj => ?_)⟩
  rw [th_f_V hj, hdef j hj]
  simp [th_nS, th_nM, va_up, va_rf]
theorem th_newaG (C : CallFix p m c cc nL s args th_ws own) (T : th_R G s H locs σ μ) {n : Int32} {k : Nat} (hn : ¬ n < 0) (hk : n.toNatClampNeg = k) (hb : k ≤ 100000) (harr : Cond.arrayClass .int ∈ th_ws) (hcells : cells + 1 ≤ R.cells) (hslots : slots + k ≤ R.slots) (hdg : decode cc pc = .ok (.newarray .int, 2))
    (kk : ∀ (H : Heap), th_R G s H locs (th_nS σ 12 k) (th_nM σ μ) → W p l e R s m args below meth c H locs (cells + 1) (slots + k) Q (F0 m (pc + 2) ls (.ref σ.2.2.2 :: rest))) : W p l e R s m args below meth c H locs cells slots Q (F0 m pc ls (.int n :: rest)) := by
  obtain ⟨tK, tC, tS, tP⟩ := T
  have hN := tP.1
  refine va_newaK (atype := .int) C.1 C.2.1 (C.2.2.2.2 _ harr) rfl hdg rfl hn hk (by show k * 4 ≤ _; omega) hcells hslots hN fun H1 cA e1 z1 o1 hAr hNm => ?_
  have hcA : cA = G.2.1 12 := Option.some.inj (hNm.symm.trans (tK.1.2 0 _ rfl).2)
  subst hcA
  refine kk H1 ⟨tK, tC, ⟨Nat.le_trans tS.1 (by omega), fun x h1 h2 => (o1 x (by have := tS.1; omega)).trans (tS.2.1 x h1 h2), tS.2.2⟩, tP.push (by omega) (fun q hq => o1 q (by omega)) ?_⟩
  rw [hN, th_eI (by simp [th_nS, va_up])]
  show H1[_]? = some (vp_cell _ _)
  rw [e1, vp_cell_i]
  congr 2
  · simp [th_nS, va_up]
  · funext j
    simp [th_nM, va_up]
    rfl
theorem th_newa (C : CallFix p m c cc nL s args th_ws own) (T : th_R G s H locs σ μ) {n : Int32} {a : Nat} (k : Nat) (h : oN σ μ 12 k = some (a, σ', μ')) (hn : ¬ n < 0) (hk : n.toNatClampNeg = k) (hb : k ≤ 100000) (harr : Cond.arrayClass .int ∈ th_ws) (hcells : cells + 1 ≤ R.cells) (hslots : slots + k ≤ R.slots) (hdg : decode cc pc = .ok (.newarray .int, 2))
    (kk : ∀ (H : Heap), th_R G s H locs σ' μ' → W p l e R s m args below meth c H locs (cells + 1) (slots + k) Q (F0 m (pc + 2) ls (.ref a :: rest))) : W p l e R s m args below meth c H locs cells slots Q (F0 m pc ls (.int n :: rest)) := by
  cases h
  exact th_newaG C T hn hk hb harr hcells hslots hdg kk
theorem th_newaV (C : CallFix p m c cc nL s args th_ws own) (T : th_R G s H locs σ μ) {n : Int32} {a : Nat} {M : Nat} (h : oNA σ μ n M = some (a, σ', μ')) (hM : M ≤ 100000) (harr : Cond.arrayClass .int ∈ th_ws) (hcells : cells + 1 ≤ R.cells) (hslots : slots + M ≤ R.slots) (hdg : decode cc pc = .ok (.newarray .int, 2))
    (kk : ∀ (H : Heap), th_R G s H locs σ' μ' → W p l e R s m args below meth c H locs (cells + 1) (slots + M) Q (F0 m (pc + 2) ls (.ref a :: rest))) : W p l e R s m args below meth c H locs cells slots Q (F0 m pc ls (.int n :: rest)) := by
  unfold oNA at h
  obtain ⟨⟨h1, h2⟩, h⟩ := og_ h
  cases h
  exact th_newaG C T h1 rfl (by omega) harr hcells (by omega) hdg (fun H T => W.widen (Nat.le_refl _) (by omega) (kk H T))
theorem th_newq (C : CallFix p m c cc nL s args th_ws own) (T : th_R G s H locs σ μ) {n : Int32} {a index : Nat} {Cn : String} (ci k : Nat) (h : oN σ μ ci k = some (a, σ', μ')) (h16 : 12 < ci ∧ ci < 16) (ht : (th_ty G)[ci - 12]? = some (G.2.1 ci, .object Cn)) (hn : ¬ n < 0) (hk : n.toNatClampNeg = k) (hb : k ≤ 100000) (hcl : Cond.classLink own index Cn ∈ th_ws) (hover : Cn ∈ [RX0, RX5, RX6]) (hcells : cells + 1 ≤ R.cells) (hslots : slots + k ≤ R.slots) (hdg : decode cc pc = .ok (.anewarray index, 3))
    (kk : ∀ (H : Heap), th_R G s H locs σ' μ' → W p l e R s m args below meth c H locs (cells + 1) (slots + k) Q (F0 m (pc + 3) ls (.ref a :: rest))) : W p l e R s m args below meth c H locs cells slots Q (F0 m pc ls (.int n :: rest)) := by
  cases h
  obtain ⟨tK, tC, tS, tP⟩ := T
  have hN := tP.1
  subst hk
  refine W.anew C.1 C.2.1 C.2.2.2.1 (C.2.2.2.2 _ hcl) (va_AO.use (tK.2.2.2.2 _ hover)) rfl hdg rfl hn (by omega) hcells hslots fun cA kA comp f1 f2 f3 f4 => ?_
  generalize hH1 : H.push ({ cls := cA, slots := Array.replicate n.toNatClampNeg .null, vm := .none } : Cell) = H1
  have z1 : H1.size = H.size + 1 := by rw [← hH1, Array.size_push]
  have e1 : H1[H.size]? = some (arrV cA n.toNatClampNeg (fun _ => .null)) := by rw [← hH1, Array.getElem?_push_size, ← arrV_new]
  have o1 : ∀ q : Nat, q < H.size → H1[q]? = H[q]? := fun q hq => by rw [← hH1, Array.getElem?_push, if_neg (Nat.ne_of_lt hq)]
  have hcA : cA = G.2.1 ci := by
    obtain ⟨kA', comp', g1, g2, g3, g4⟩ := (tK.1.2 (ci - 12) _ ht).2
    exact Option.some.inj (f1.symm.trans g4)
  subst hcA
  have hkk := kk H1 ⟨tK, tC, ⟨Nat.le_trans tS.1 (by omega), fun x h1 h2 => (o1 x (by have := tS.1; omega)).trans (tS.2.1 x h1 h2), tS.2.2⟩, tP.push z1 o1 (by
    rw [hN, th_eR (c := ci) (by simp [th_nS, va_up]) h16.1]
    show H1[_]? = some (vp_cell _ _)
    rw [← hN, e1, vp_cell_q]
    congr 2
    · simp [th_nS, va_up, hN]
    · funext j
      simp [th_nS, va_up, va_rf, hN])⟩
  rw [hN]
  exact hkk
/-- arraycopy -/
theorem th_copy (C : CallFix p m c cc nL s args th_ws own) (T : th_R G s H locs σ μ) {a0 a1 index : Nat} {sp dp n : Int32} (h : oX σ μ a0 sp a1 dp n = some μ') (hls : ls.size = nL) (hlink : Cond.methodLink own index arraycopyName ∈ th_ws) (hnat : Cond.native arraycopyName ∈ th_ws) (hstat : Cond.static arraycopyName ∈ th_ws) (hini : Cond.initialized "java/lang/System" ∈ th_ws) (hframes : 1 ≤ R.frames) (hlocals : (rest.map fun v => v.category).sum + (nativeFrameWords "java/lang/System" "arraycopy" 5 + 11) ≤ R.locals) (hdg : decode cc pc = .ok (.invokestatic index, 3))
    (kk : ∀ (H : Heap) (locs : List Loc), th_R G s H locs σ μ' → W p l e R s m args below meth c H locs cells slots Q (F0 m (pc + 3) ls rest)) : W p l e R s m args below meth c H locs cells slots Q (F0 m pc ls (.int n :: .int dp :: .ref a1 :: .int sp :: .ref a0 :: rest)) := by
  unfold oX at h
  obtain ⟨⟨hk0, hk1, h1, h2, h3, h4, h5⟩, h⟩ := og_ h
  cases h
  obtain ⟨tK, tC, tS, tP⟩ := T
  have nn : ∀ z : Int32, ¬ z < 0 → z.toInt = (z.toNatClampNeg : Int) := by
    intro z hz
    have hz0 : (0 : Int) ≤ z.toInt := by
      have := Int32.not_lt.mp hz
      simpa using Int32.le_iff_toInt_le.mp this
    show z.toInt = ((z.toInt.toNat : Nat) : Int)
    omega
  have hA := (tP.2.2 a1 (by omega)).1
  have hc0 := (tP.2.2 a0 (by omega)).2
  rw [th_eI hk0] at hc0
  have hc1 := (tP.2.2 a1 (by omega)).2
  rw [th_eI hk1] at hc1
  have hc0 : H[a0]? = some (vp_cell (G.2.1 12) (σ.2.1 a0, .inl (μ a0))) := hc0
  have hc1 : H[a1]? = some (vp_cell (G.2.1 12) (σ.2.1 a1, .inl (μ a1))) := hc1
  obtain ⟨-, k0, hk0', cm0, hkk0⟩ := (tK.1.2 0 _ rfl).1 (σ.2.1 a0) (fun j => .int (μ a0 j))
  obtain ⟨-, k1, hk1', cm1, hkk1⟩ := (tK.1.2 0 _ rfl).1 (σ.2.1 a1) (fun j => .int (μ a1 j))
  intro U hU X
  obtain ⟨vm', X', step⟩ := X.arraycopy C.1 C.2.2.2.1 (C.2.2.2.2 _ hlink) (C.2.2.2.2 _ hnat) (C.2.2.2.2 _ hstat) (C.2.2.2.2 _ hini) (src := a0) (dst := a1) (cs := vp_cell (G.2.1 12) (σ.2.1 a0, .inl (μ a0))) (cd := vp_cell (G.2.1 12) (σ.2.1 a1, .inl (μ a1))) (srcPos := sp) (destPos := dp) (n := n) (by rw [hU]; exact hc0) (by rw [hU]; exact hc1)
    (fun _ h => by cases h) (fun _ h => by cases h) (fun h => by cases h) (fun h => by cases h) hk0' hk1' hkk0 hkk1 (by simp [refKind]) h1 h2 h3
    (by rw [nn sp h1, nn n h3]; show ¬ _ > ((arrV (G.2.1 12) (σ.2.1 a0) (fun j => .int (μ a0 j))).slots.size : Int); rw [arrV_size]; omega)
    (by rw [nn dp h2, nn n h3]; show ¬ _ > ((arrV (G.2.1 12) (σ.2.1 a1) (fun j => .int (μ a1 j))).slots.size : Int); rw [arrV_size]; omega)
    (fun vm₁ _ i hi => by
      have e : (vp_cell (G.2.1 12) (σ.2.1 a0, .inl (μ a0))).slots.getD (sp.toNatClampNeg + i) .null = .int (μ a0 (sp.toNatClampNeg + i)) := by
        show (arrV (G.2.1 12) (σ.2.1 a0) (fun j => .int (μ a0 j))).slots.getD _ _ = _
        rw [Array.getD_eq_getD_getElem?, arrV_read _ _ (by omega)]
        rfl
      refine ⟨?_, ?_⟩
      · rw [e]
        rfl
      · rw [e]
        exact trivial)
    (g := F0 m pc ls (.int n :: .int dp :: .ref a1 :: .int sp :: .ref a0 :: rest)) rfl (by rw [C.2.2.1]; exact hls) (rest := rest) rfl (by rw [C.2.1]; exact hdg) hframes (by show 2 * 0 + _ + _ ≤ _; omega)
  have e1 : copied (vp_cell (G.2.1 12) (σ.2.1 a0, .inl (μ a0))) (vp_cell (G.2.1 12) (σ.2.1 a1, .inl (μ a1))) sp dp n = vp_cell (G.2.1 12) (σ.2.1 a1, .inl (va_cpy (μ a0) (μ a1) sp.toNatClampNeg dp.toNatClampNeg n.toNatClampNeg)) := va_copied (fun z => .int z) _ _ (μ a0) (μ a1) h4
  rw [e1] at X' step
  have hl : a1 < H.size := (Array.getElem?_eq_some_iff.mp hc1).1
  have hheap : ((U.setVm vm').setCell a1 (vp_cell (G.2.1 12) (σ.2.1 a1, .inl (va_cpy (μ a0) (μ a1) sp.toNatClampNeg dp.toNatClampNeg n.toNatClampNeg)))).heap = H.setIfInBounds a1 (vp_cell (G.2.1 12) (σ.2.1 a1, .inl (va_cpy (μ a0) (μ a1) sp.toNatClampNeg dp.toNatClampNeg n.toNatClampNeg))) := by rw [← hU]; rfl
  have oq : ∀ q : Nat, q ≠ a1 → (H.setIfInBounds a1 (vp_cell (G.2.1 12) (σ.2.1 a1, .inl (va_cpy (μ a0) (μ a1) sp.toNatClampNeg dp.toNatClampNeg n.toNatClampNeg))))[q]? = H[q]? := fun q hq => by simp [Array.getElem?_setIfInBounds, Ne.symm hq]
  obtain ⟨t, b1, b2⟩ := kk _ _ ⟨tK, tC, ⟨by simp; exact tS.1, fun q g1 g2 => by
      rw [oq q (fun e => g2 (by rw [e]; exact hA))]
      exact tS.2.1 q g1 g2, fun q hq => by
      rcases List.mem_append.mp hq with h | h
      · exact tS.2.2 q h
      · obtain ⟨z, -, hz⟩ := List.mem_map.mp h
        rw [← hz]
        exact hA⟩, tP.upd (a := a1) (by omega) (by simp) oq rfl rfl (fun q hq => by simp only [th_e, th_f, va_up, if_neg hq]) (by
      rw [th_eI hk1]
      show (H.setIfInBounds a1 _)[a1]? = some _
      simp [Array.getElem?_setIfInBounds, hl, va_up])⟩ _ hheap X'
  exact ⟨t, step t b1, b2⟩
/-- statics, String constants -/
theorem th_least_ (C : CallFix p m c cc nL s args th_ws own) (T : th_R G s H locs σ μ) {index : Nat} (hlink : Cond.fieldLink own index RX10 "LEAST" "[I" ∈ th_ws) (hdg : decode cc pc = .ok (.getstatic index, 3))
    (kk : W p l e R s m args below meth c H locs cells slots Q (F0 m (pc + 3) ls (.ref (G.2.2.2.2.2 0) :: rest))) : W p l e R s m args below meth c H locs cells slots Q (F0 m pc ls rest) :=
  va_gets C.1 C.2.1 T.2.1.2.1.1 T.2.2.1 C.2.2.2.1 (C.2.2.2.2 _ hlink) (fun _ h => h) hdg kk
theorem th_most_ (C : CallFix p m c cc nL s args th_ws own) (T : th_R G s H locs σ μ) {index : Nat} (hlink : Cond.fieldLink own index RX10 "MOST" "[I" ∈ th_ws) (hdg : decode cc pc = .ok (.getstatic index, 3))
    (kk : W p l e R s m args below meth c H locs cells slots Q (F0 m (pc + 3) ls (.ref (G.2.2.2.2.2 1) :: rest))) : W p l e R s m args below meth c H locs cells slots Q (F0 m pc ls rest) :=
  va_gets C.1 C.2.1 T.2.1.2.2.1.1 T.2.2.1 C.2.2.2.1 (C.2.2.2.2 _ hlink) (fun _ h => h) hdg kk
theorem th_leastI (C : CallFix p m c cc nL s args th_ws own) (T : th_R G s H locs σ μ) {i v : Int32} (h : oZ th_least i = some v) (hdg : decode cc pc = .ok (.iaload, 1))
    (kk : W p l e R s m args below meth c H locs cells slots Q (F0 m (pc + 1) ls (.int v :: rest))) : W p l e R s m args below meth c H locs cells slots Q (F0 m pc ls (.int i :: .ref (G.2.2.2.2.2 0) :: rest)) := by
  unfold oZ at h
  obtain ⟨hi, h⟩ := og_ h
  cases h
  exact va_ti C.1 C.2.1 T.2.1.2.1.2 T.2.2.1 hi rfl hdg kk
theorem th_mostI (C : CallFix p m c cc nL s args th_ws own) (T : th_R G s H locs σ μ) {i v : Int32} (h : oZ th_most i = some v) (hdg : decode cc pc = .ok (.iaload, 1))
    (kk : W p l e R s m args below meth c H locs cells slots Q (F0 m (pc + 1) ls (.int v :: rest))) : W p l e R s m args below meth c H locs cells slots Q (F0 m pc ls (.int i :: .ref (G.2.2.2.2.2 1) :: rest)) := by
  unfold oZ at h
  obtain ⟨hi, h⟩ := og_ h
  cases h
  exact va_ti C.1 C.2.1 T.2.1.2.2.1.2 T.2.2.1 hi rfl hdg kk
theorem th_ldcS (C : CallFix p m c cc nL s args th_ws own) (T : th_R G s H locs σ μ) {index j : Nat} {tx : String} (i : Nat) (h : th_str[i]? = some (own, index, tx, j)) (hdg : decode cc pc = .ok (.ldc index, 2))
    (kk : W p l e R s m args below meth c H locs cells slots Q (F0 m (pc + 2) ls (.ref (G.2.2.2.1 j) :: rest))) : W p l e R s m args below meth c H locs cells slots Q (F0 m pc ls rest) :=
  va_ldcS C.1 C.2.1 C.2.2.2.1 (T.1.2.1 _ (List.mem_of_getElem? h)) hdg kk
theorem th_max (C : CallFix p m c cc nL s args th_ws own) {index : Nat} {x y : Int32} (hls : ls.size = nL) (hlink : Cond.methodLink own index Lib.Math.max.name ∈ th_ws) (hstat : Cond.static Lib.Math.max.name ∈ th_ws) (hini : Cond.initialized "java/lang/Math" ∈ th_ws) (hcode : Cond.code Lib.Math.max.name Lib.Math.max.code 2 (some .int) ∈ th_ws) (hf : 1 ≤ R.frames) (hl : (rest.map fun v => v.category).sum + 13 ≤ R.locals) (hc : cells ≤ R.cells) (hs : slots ≤ R.slots) (hdg : decode cc pc = .ok (.invokestatic index, 3))
    (kk : W p l e R s m args below meth c H locs cells slots Q (F0 m (pc + 3) ls (.int (jmax x y) :: rest))) : W p l e R s m args below meth c H locs cells slots Q (F0 m pc ls (.int y :: .int x :: rest)) :=
  va_mmax C.1 C.2.1 (by rw [C.2.2.1, hls]) C.2.2.2.1 (C.2.2.2.2 _ hlink) (C.2.2.2.2 _ hstat) (C.2.2.2.2 _ hini) (C.2.2.2.2 _ hcode) hf hl hc hs hdg kk
theorem th_min (C : CallFix p m c cc nL s args th_ws own) {index : Nat} {x y : Int32} (hls : ls.size = nL) (hlink : Cond.methodLink own index Lib.Math.min.name ∈ th_ws) (hstat : Cond.static Lib.Math.min.name ∈ th_ws) (hini : Cond.initialized "java/lang/Math" ∈ th_ws) (hcode : Cond.code Lib.Math.min.name Lib.Math.min.code 2 (some .int) ∈ th_ws) (hf : 1 ≤ R.frames) (hl : (rest.map fun v => v.category).sum + 13 ≤ R.locals) (hc : cells ≤ R.cells) (hs : slots ≤ R.slots) (hdg : decode cc pc = .ok (.invokestatic index, 3))
    (kk : W p l e R s m args below meth c H locs cells slots Q (F0 m (pc + 3) ls (.int (jmin x y) :: rest))) : W p l e R s m args below meth c H locs cells slots Q (F0 m pc ls (.int y :: .int x :: rest)) :=
  va_mmin C.1 C.2.1 (by rw [C.2.2.1, hls]) C.2.2.2.1 (C.2.2.2.2 _ hlink) (C.2.2.2.2 _ hstat) (C.2.2.2.2 _ hini) (C.2.2.2.2 _ hcode) hf hl hc hs hdg kk
theorem th_abs (C : CallFix p m c cc nL s args th_ws own) {index : Nat} {x : Int32} (hls : ls.size = nL) (hlink : Cond.methodLink own index Lib.Math.abs.name ∈ th_ws) (hstat : Cond.static Lib.Math.abs.name ∈ th_ws) (hini : Cond.initialized "java/lang/Math" ∈ th_ws) (hcode : Cond.code Lib.Math.abs.name Lib.Math.abs.code 1 (some .int) ∈ th_ws) (hf : 1 ≤ R.frames) (hl : (rest.map fun v => v.category).sum + 13 ≤ R.locals) (hc : cells ≤ R.cells) (hs : slots ≤ R.slots) (hdg : decode cc pc = .ok (.invokestatic index, 3))
    (kk : W p l e R s m args below meth c H locs cells slots Q (F0 m (pc + 3) ls (.int (jabs x) :: rest))) : W p l e R s m args below meth c H locs cells slots Q (F0 m pc ls (.int x :: rest)) :=
  va_mabs C.1 C.2.1 (by rw [C.2.2.1, hls]) C.2.2.2.1 (C.2.2.2.2 _ hlink) (C.2.2.2.2 _ hstat) (C.2.2.2.2 _ hini) (C.2.2.2.2 _ hcode) hf hl hc hs hdg kk
/-- instanceof, of a boat -/
theorem th_inst (C : CallFix p m c cc nL s args th_ws own) (T : th_R G s H locs σ μ) {a index : Nat} {v : Int32} {nm : String} {ys : Nat → Bool} (h : oIn σ a ys = some v) (hlink : Cond.classLink own index nm ∈ th_ws) (hys : ∀ ci, th_b ci = true → ∃ q : vw_C, vwCl[ci]? = some q ∧ ((ys ci = true ∧ (q.1 = nm ∨ Cond.castable q.1 nm ∈ th_nws)) ∨ (ys ci = false ∧ (q.1, nm) ∈ th_nc))) (hdg : decode cc pc = .ok (.instanceof index, 3))
    (kk : W p l e R s m args below meth c H locs cells slots Q (F0 m (pc + 3) ls (.int v :: rest))) : W p l e R s m args below meth c H locs cells slots Q (F0 m pc ls (.ref a :: rest)) := by
  unfold oIn at h
  obtain ⟨hb, h⟩ := og_ h
  cases h
  obtain ⟨q, hq, hqc⟩ := hys _ hb
  have h12 : σ.1 a < 12 := by
    rcases th_b6 hb with e | e | e | e | e | e <;> omega
  have hr := th_own T hq h12 rfl
  rcases hqc with ⟨hy, e | e⟩ | ⟨hy, e⟩
  · rw [if_pos hy] at kk
    rw [e] at hr
    obtain ⟨cell, g1, g2, g3⟩ := hr
    obtain ⟨kc, hkc, -⟩ := Vm.findClass_spec g3
    exact va_instE C.1 C.2.1 C.2.2.2.1 (C.2.2.2.2 _ hlink) ⟨cell, g1, g2, g3⟩ hdg kk
  · rw [if_pos hy] at kk
    exact va_instY C.1 C.2.1 C.2.2.2.1 (C.2.2.2.2 _ hlink) (T.1.2.2.2.1 _ e) hr hdg kk
  · rw [if_neg (by rw [hy]; decide)] at kk
    exact va_instNo C.1 C.2.1 C.2.2.2.1 (C.2.2.2.2 _ hlink) (T.1.2.2.1 _ e) hr hdg kk
/-- switches -/
theorem th_tabIn (C : CallFix p m c cc nL s args th_ws own) {dflt lo hi : Int} {offs : Array Int} {len : Nat} {x : Int32} (k : Int32) {off : Int} {tgt : Nat} (hxk : x = k) (hdg : decode cc pc = .ok (.tableswitch dflt lo hi offs, len)) (h1 : ¬ k.toInt < lo) (h2 : ¬ hi < k.toInt) (ho : offs[(k.toInt - lo).toNat]? = some off) (ht : (pc : Int) + off = (tgt : Int))
    (kk : W p l e R s m args below meth c H locs cells slots Q (F0 m tgt ls rest)) : W p l e R s m args below meth c H locs cells slots Q (F0 m pc ls (.int x :: rest)) := by
  subst hxk
  exact lv_tableIn C.1 C.2.1 hdg h1 h2 ho ht kk
theorem th_look (C : CallFix p m c cc nL s args th_ws own) {dflt : Int} {ps : Array (Int × Int)} {len : Nat} {x : Int32} (k : Int32) {off : Int} {tgt : Nat} (hxk : x = k) (hdg : decode cc pc = .ok (.lookupswitch dflt ps, len)) (hp : (ps.toList.zip (ps.toList.drop 1)).all (fun (a, next) => a.1 < next.1) = true) (ho : Op.lookupswitch.offset ps.toList dflt k.toInt = off) (ht : (pc : Int) + off = (tgt : Int))
    (kk : W p l e R s m args below meth c H locs cells slots Q (F0 m tgt ls rest)) : W p l e R s m args below meth c H locs cells slots Q (F0 m pc ls (.int x :: rest)) := by
  subst hxk
  exact lv_lookup C.1 C.2.1 hdg hp ho ht kk
theorem th_ne {x k : Int32} {n : Int} (h : ¬ x = k) (hn : k.toInt = n) : x.toInt ≠ n := fun e => h (Int32.toInt_inj.mp (e.trans hn.symm))
/-- a call, behind it -/
theorem th_back {mc ms : Nat} {a : Array Value} {g0 : List Value} {res : Option Value} (T : th_R G s H locs σ μ) (hr : va_Run p l e R s m args below meth c H locs cells slots mc ms (F0 m pc ls g0) rest (th_Q G res σ' μ' a) (th_A G))
    (kk : ∀ (H : Heap) (locs : List Loc), th_R G s H locs σ' μ' → W p l e R s m args below meth c H locs (cells + mc) (slots + ms) Q (F0 m (pc + 3) ls (res.toList ++ rest))) : W p l e R s m args below meth c H locs cells slots Q (F0 m pc ls g0) := by
  obtain ⟨tK, tC, tS, tP⟩ := T
  intro U hU X
  obtain ⟨v, st₀, t, T', L, h0, X', hL, e1, e2, ⟨hv, hp, hz, hk⟩, st⟩ := hr U hU X
  cases hv
  rw [h0] at hz hk
  obtain ⟨t2, a1, b1⟩ := kk T'.heap (locs ++ L) ⟨tK, tC, ⟨Nat.le_trans tS.1 (by rw [e1]; exact hz), fun q h1 h2 => by rw [e1, hk q (Nat.lt_of_lt_of_le h1 tS.1) h2]; exact tS.2.1 q h1 h2, fun q hq => by
      rcases List.mem_append.mp hq with h | h
      · exact tS.2.2 q h
      · exact hL q h⟩, by rw [e1]; exact hp⟩ T' rfl X'
  exact ⟨t2, st t2 a1, b1⟩
theorem th_pre (T : th_R G s H locs σ μ) (av : List Value) (U : State) (hU : U.heap = H) (hW : s.WarmedH U.vm) : va_Pc av (th_B G σ μ) av.toArray U := by
  obtain ⟨tK, tC, tS, tP⟩ := T
  exact ⟨rfl, tK.moved hW, by rw [hU]; exact (tC.kept tS.2.1).moved hW.alike, by rw [hU]; exact tP⟩
end TH
/-- the callee's words -/
theorem th_good {y : MethodName} {cy : ByteArray} {nLy : Nat} {ret : Option FieldType} (h : Cond.code y cy nLy ret ∈ th_ws) : GoodIn th_ws (.code y cy nLy ret :: th_ws) := th_ws_good (fun w hw => by
  rcases List.mem_cons.mp hw with e | e
  · rw [e]; exact h
  · exact e)
/-- what is known of a call's place: static, virtual of one class, virtual of an inherited or an overriding method, constructor, super -/
def th_LS (own : String) (index : Nat) (y : MethodName) (cy : ByteArray) (nLy : Nat) (ret : Option FieldType) (n : Nat) : Prop := Cond.methodLink own index y ∈ th_ws ∧ Cond.static y ∈ th_ws ∧ Cond.initialized y.cls ∈ th_ws ∧ Cond.code y cy nLy ret ∈ th_ws ∧ (y.cls ≠ "java/lang/invoke/MethodHandle" ∧ y.cls ≠ "java/lang/invoke/VarHandle" ∧ (parseMethodDescriptor y.desc).map (fun d => d.parameters.length) = some n)
def th_LV (own : String) (index : Nat) (y : MethodName) (cy : ByteArray) (nLy : Nat) (ret : Option FieldType) (n : Nat) : Prop := Cond.methodLink own index y ∈ th_ws ∧ Cond.instanceMethod y ∈ th_ws ∧ Cond.selects y.cls y y ∈ th_ws ∧ Cond.initialized y.cls ∈ th_ws ∧ Cond.code y cy nLy ret ∈ th_ws ∧ (y.cls ≠ "java/lang/invoke/MethodHandle" ∧ y.cls ≠ "java/lang/invoke/VarHandle" ∧ (parseMethodDescriptor y.desc).map (fun d => d.parameters.length) = some n)
def th_LU (own : String) (index : Nat) (Cn owner : String) (x y : MethodName) (cy : ByteArray) (nLy : Nat) (ret : Option FieldType) (n : Nat) : Prop := Cond.methodLink own index x ∈ th_ws ∧ Cond.sameMethod x.cls owner x.name x.desc ∈ th_ws ∧ Cond.selects Cn x y ∈ th_ws ∧ Cond.instanceMethod y ∈ th_ws ∧ Cond.initialized y.cls ∈ th_ws ∧ Cond.code y cy nLy ret ∈ th_ws ∧ (y = ⟨owner, x.name, x.desc⟩ ∨ (Cond.instanceMethod ⟨owner, x.name, x.desc⟩ ∈ th_ws ∧ ∃ b0 m0 r0, Cond.code ⟨owner, x.name, x.desc⟩ b0 m0 r0 ∈ th_ws)) ∧ (owner ≠ "java/lang/invoke/MethodHandle" ∧ owner ≠ "java/lang/invoke/VarHandle" ∧ (parseMethodDescriptor x.desc).map (fun d => d.parameters.length) = some n)
def th_LI (own : String) (index : Nat) (y : MethodName) (cy : ByteArray) (nLy : Nat) (n : Nat) : Prop := Cond.methodLink own index y ∈ th_ws ∧ Cond.instanceMethod y ∈ th_ws ∧ Cond.initialized y.cls ∈ th_ws ∧ Cond.code y cy nLy none ∈ th_ws ∧ y.name = "<init>" ∧ (y.cls ≠ "java/lang/invoke/MethodHandle" ∧ y.cls ≠ "java/lang/invoke/VarHandle" ∧ (parseMethodDescriptor y.desc).map (fun d => d.parameters.length) = some n)
def th_LIN (own : String) (index : Nat) (y : MethodName) (host : String) (cy : ByteArray) (nLy : Nat) (n : Nat) : Prop := Cond.methodLinkNest own index y host ∈ th_nws ∧ Cond.instanceMethod y ∈ th_ws ∧ Cond.initialized y.cls ∈ th_ws ∧ Cond.code y cy nLy none ∈ th_ws ∧ y.name = "<init>" ∧ (y.cls ≠ "java/lang/invoke/MethodHandle" ∧ y.cls ≠ "java/lang/invoke/VarHandle" ∧ (parseMethodDescriptor y.desc).map (fun d => d.parameters.length) = some n)
def th_LSN (own : String) (index : Nat) (y : MethodName) (host : String) (cy : ByteArray) (nLy : Nat) (ret : Option FieldType) (n : Nat) : Prop := Cond.methodLinkNest own index y host ∈ th_nws ∧ Cond.static y ∈ th_ws ∧ Cond.initialized y.cls ∈ th_ws ∧ Cond.code y cy nLy ret ∈ th_ws ∧ (y.cls ≠ "java/lang/invoke/MethodHandle" ∧ y.cls ≠ "java/lang/invoke/VarHandle" ∧ (parseMethodDescriptor y.desc).map (fun d => d.parameters.length) = some n)
def th_LP (own : String) (index : Nat) (y : MethodName) (cy : ByteArray) (nLy : Nat) (ret : Option FieldType) (n : Nat) : Prop := Cond.methodLink own index y ∈ th_ws ∧ Cond.sameMethod y.cls y.cls y.name y.desc ∈ th_ws ∧ Cond.superclass own y.cls ∈ th_ws ∧ Cond.instanceMethod y ∈ th_ws ∧ Cond.initialized y.cls ∈ th_ws ∧ Cond.code y cy nLy ret ∈ th_ws ∧ (y.name ≠ "<init>" ∧ (parseMethodDescriptor y.desc).map (fun d => d.parameters.length) = some n)
section TC
variable {p : Program} {l : Launch} {e : Env} {R : Room} {s : State} {m : MethodId} {args : Array Value} {below : List Frame} {meth : Method} {c : Code} {H : Heap} {locs : List Loc} {cells slots : Nat} {Q : State → Prop}
variable {cc : ByteArray} {pc nL : Nat} {ls : Array Slot} {rest st0 st1 : List Value} {cells1 slots1 : Nat} {G : th_G} {σ σ' : th_S} {μ μ' : th_M} {own host Cn owner : String} {index nLy n : Nat} {x y : MethodName} {cy : ByteArray} {ret : Option FieldType} {rm : Room} {As : List Value} {b : Nat} {res : Option Value}
theorem th_callS (C : CallFix p m c cc nL s args th_ws own) (T : th_R G s H locs σ μ) (hM : th_Met l G y cy nLy ret rm As σ μ res σ' μ') (hL : th_LS own index y cy nLy ret n) (hn : As.length = n) (hls : ls.size = nL) (hst : As.reverse ++ rest = st0) (hst1 : res.toList ++ rest = st1) (h1c : cells + rm.cells = cells1) (h1s : slots + rm.slots = slots1) (h8 : (rest.map fun v => v.category).sum ≤ 8) (hR : rm.frames + 1 ≤ R.frames ∧ 8 + (nLy + 11) + rm.locals ≤ R.locals) (hf : cells + rm.cells ≤ R.cells ∧ slots + rm.slots ≤ R.slots) (hdg : decode cc pc = .ok (.invokestatic index, 3))
    (kk : ∀ (H : Heap) (locs : List Loc), th_R G s H locs σ' μ' → W p l e R s m args below meth c H locs cells1 slots1 Q (F0 m (pc + 3) ls st1)) : W p l e R s m args below meth c H locs cells slots Q (F0 m pc ls st0) := by
  obtain ⟨h1, h2, h3, h4, h5⟩ := hL
  exact th_back T (va_runS (As := As) (rest := rest) C hM ⟨callB_of n C.2.2.2.2 (th_good h4) rfl rfl rfl (C.2.2.2.2 _ h3) (C.2.2.2.2 _ h1) h5 hR, C.2.2.2.2 _ h2⟩ ⟨th_B.blind, th_pre T As⟩ rfl hn hls hst.symm (lv_room h8) hdg hf) (by rw [h1c, h1s, hst1]; exact kk)
theorem th_callV (C : CallFix p m c cc nL s args th_ws own) (T : th_R G s H locs σ μ) (hM : th_Met l G y cy nLy ret rm (.ref b :: As) σ μ res σ' μ') (hL : th_LV own index y cy nLy ret n) (ci : Nat) {q : vw_C} (hq : vwCl[ci]? = some q) (hqc : q.1 = y.cls) (h12 : ci < 12) (hb : σ.1 b = ci) (hn : As.length = n) (hls : ls.size = nL) (hst : As.reverse ++ .ref b :: rest = st0) (hst1 : res.toList ++ rest = st1) (h1c : cells + rm.cells = cells1) (h1s : slots + rm.slots = slots1) (h8 : (rest.map fun v => v.category).sum ≤ 8) (hR : rm.frames + 1 ≤ R.frames ∧ 8 + (nLy + 11) + rm.locals ≤ R.locals) (hf : cells + rm.cells ≤ R.cells ∧ slots + rm.slots ≤ R.slots) (hdg : decode cc pc = .ok (.invokevirtual index, 3))
    (kk : ∀ (H : Heap) (locs : List Loc), th_R G s H locs σ' μ' → W p l e R s m args below meth c H locs cells1 slots1 Q (F0 m (pc + 3) ls st1)) : W p l e R s m args below meth c H locs cells slots Q (F0 m pc ls st0) := by
  obtain ⟨h1, h2, h3, h4, h5, h6⟩ := hL
  have hr := th_own T hq h12 hb
  rw [hqc] at hr
  exact th_back T (va_runV (As := As) (rest := rest) (C := y.cls) C hM ⟨callB_of n C.2.2.2.2 (th_good h5) rfl rfl rfl (C.2.2.2.2 _ h4) (C.2.2.2.2 _ h1) h6 hR, C.2.2.2.2 _ h2, C.2.2.2.2 _ h3⟩ ⟨th_B.blind, hr, th_pre T _⟩ rfl hn hls hst.symm (lv_room h8) hdg hf) (by rw [h1c, h1s, hst1]; exact kk)
theorem th_callU (C : CallFix p m c cc nL s args th_ws own) (T : th_R G s H locs σ μ) (hM : th_Met l G y cy nLy ret rm (.ref b :: As) σ μ res σ' μ') (hL : th_LU own index Cn owner x y cy nLy ret n) (ci : Nat) {q : vw_C} (hq : vwCl[ci]? = some q) (hqc : q.1 = Cn) (h12 : ci < 12) (hb : σ.1 b = ci) (hn : As.length = n) (hls : ls.size = nL) (hst : As.reverse ++ .ref b :: rest = st0) (hst1 : res.toList ++ rest = st1) (h1c : cells + rm.cells = cells1) (h1s : slots + rm.slots = slots1) (h8 : (rest.map fun v => v.category).sum ≤ 8) (hR : rm.frames + 1 ≤ R.frames ∧ 8 + (nLy + 11) + rm.locals ≤ R.locals) (hf : cells + rm.cells ≤ R.cells ∧ slots + rm.slots ≤ R.slots) (hdg : decode cc pc = .ok (.invokevirtual index, 3))
    (kk : ∀ (H : Heap) (locs : List Loc), th_R G s H locs σ' μ' → W p l e R s m args below meth c H locs cells1 slots1 Q (F0 m (pc + 3) ls st1)) : W p l e R s m args below meth c H locs cells slots Q (F0 m pc ls st0) := by
  obtain ⟨h1, h2, h3, h4, h5, h6, h7, h9⟩ := hL
  have hr := th_own T hq h12 hb
  rw [hqc] at hr
  have hcu : va_CU R s args own Cn owner index x y cy nLy ret (.code y cy nLy ret :: th_ws) rm rm.cells rm.slots n := by
    rcases h7 with e | ⟨g1, b0, m0, r0, g2⟩
    · refine va_cwU (ws' := th_ws) n C.2.2.2.2 (th_ws_good (fun w hw => ?_)) rfl rfl rfl e h9 hR
      simp only [va_wsU, List.mem_append, List.mem_cons, List.not_mem_nil, or_false] at hw
      rcases hw with (rfl | rfl | rfl | rfl | rfl) | rfl | hw <;> assumption
    · refine va_cwO (ws' := th_ws) n C.2.2.2.2 (th_ws_good (fun w hw => ?_)) rfl rfl rfl g2 h9 hR
      simp only [va_wsO, List.mem_append, List.mem_cons, List.not_mem_nil, or_false] at hw
      rcases hw with (rfl | rfl | rfl | rfl | rfl | rfl) | rfl | hw <;> assumption
  exact th_back T (va_runU (As := As) (rest := rest) (C := Cn) C hM hcu ⟨th_B.blind, hr, th_pre T _⟩ rfl hn hls hst.symm (lv_room h8) hdg hf) (by rw [h1c, h1s, hst1]; exact kk)
theorem th_callI (C : CallFix p m c cc nL s args th_ws own) (T : th_R G s H locs σ μ) (hM : th_Met l G y cy nLy none rm (.ref b :: As) σ μ res σ' μ') (hL : th_LI own index y cy nLy n) (hn : As.length = n) (hls : ls.size = nL) (hst : As.reverse ++ .ref b :: rest = st0) (hst1 : res.toList ++ rest = st1) (h1c : cells + rm.cells = cells1) (h1s : slots + rm.slots = slots1) (h8 : (rest.map fun v => v.category).sum ≤ 8) (hR : rm.frames + 1 ≤ R.frames ∧ 8 + (nLy + 11) + rm.locals ≤ R.locals) (hf : cells + rm.cells ≤ R.cells ∧ slots + rm.slots ≤ R.slots) (hdg : decode cc pc = .ok (.invokespecial index, 3))
    (kk : ∀ (H : Heap) (locs : List Loc), th_R G s H locs σ' μ' → W p l e R s m args below meth c H locs cells1 slots1 Q (F0 m (pc + 3) ls st1)) : W p l e R s m args below meth c H locs cells slots Q (F0 m pc ls st0) := by
  obtain ⟨h1, h2, h3, h4, h5, h6⟩ := hL
  exact th_back T (va_runI (As := As) (rest := rest) (b := b) C hM ⟨callB_of n C.2.2.2.2 (th_good h4) rfl rfl rfl (C.2.2.2.2 _ h3) (C.2.2.2.2 _ h1) h6 hR, h5, C.2.2.2.2 _ h2⟩ ⟨th_B.blind, th_pre T _⟩ rfl hn hls hst.symm (lv_room h8) hdg hf) (by rw [h1c, h1s, hst1]; exact kk)
theorem th_callIN (C : CallFix p m c cc nL s args th_ws own) (T : th_R G s H locs σ μ) (hM : th_Met l G y cy nLy none rm (.ref b :: As) σ μ res σ' μ') (hL : th_LIN own index y host cy nLy n) (hn : As.length = n) (hls : ls.size = nL) (hst : As.reverse ++ .ref b :: rest = st0) (hst1 : res.toList ++ rest = st1) (h1c : cells + rm.cells = cells1) (h1s : slots + rm.slots = slots1) (h8 : (rest.map fun v => v.category).sum ≤ 8) (hR : rm.frames + 1 ≤ R.frames ∧ 8 + (nLy + 11) + rm.locals ≤ R.locals) (hf : cells + rm.cells ≤ R.cells ∧ slots + rm.slots ≤ R.slots) (hdg : decode cc pc = .ok (.invokespecial index, 3))
    (kk : ∀ (H : Heap) (locs : List Loc), th_R G s H locs σ' μ' → W p l e R s m args below meth c H locs cells1 slots1 Q (F0 m (pc + 3) ls st1)) : W p l e R s m args below meth c H locs cells slots Q (F0 m pc ls st0) := by
  obtain ⟨h1, h2, h3, h4, h5, h6⟩ := hL
  exact th_back T (va_runIN (As := As) (rest := rest) (b := b) C hM ⟨va_cnB n C.2.2.2.2 (th_good h4) rfl rfl rfl (T.1.2.2.2.1 _ h1) (C.2.2.2.2 _ h3) h6 hR, h5, C.2.2.2.2 _ h2⟩ ⟨th_B.blind, th_pre T _⟩ rfl hn hls hst.symm (lv_room h8) hdg hf) (by rw [h1c, h1s, hst1]; exact kk)
theorem th_callSN (C : CallFix p m c cc nL s args th_ws own) (T : th_R G s H locs σ μ) (hM : th_Met l G y cy nLy ret rm As σ μ res σ' μ') (hL : th_LSN own index y host cy nLy ret n) (hn : As.length = n) (hls : ls.size = nL) (hst : As.reverse ++ rest = st0) (hst1 : res.toList ++ rest = st1) (h1c : cells + rm.cells = cells1) (h1s : slots + rm.slots = slots1) (h8 : (rest.map fun v => v.category).sum ≤ 8) (hR : rm.frames + 1 ≤ R.frames ∧ 8 + (nLy + 11) + rm.locals ≤ R.locals) (hf : cells + rm.cells ≤ R.cells ∧ slots + rm.slots ≤ R.slots) (hdg : decode cc pc = .ok (.invokestatic index, 3))
    (kk : ∀ (H : Heap) (locs : List Loc), th_R G s H locs σ' μ' → W p l e R s m args below meth c H locs cells1 slots1 Q (F0 m (pc + 3) ls st1)) : W p l e R s m args below meth c H locs cells slots Q (F0 m pc ls st0) := by
  obtain ⟨h1, h2, h3, h4, h6⟩ := hL
  exact th_back T (va_runSN (As := As) (rest := rest) C hM ⟨va_cnB n C.2.2.2.2 (th_good h4) rfl rfl rfl (T.1.2.2.2.1 _ h1) (C.2.2.2.2 _ h3) h6 hR, C.2.2.2.2 _ h2, trivial⟩ ⟨th_B.blind, th_pre T _⟩ rfl hn hls hst.symm (lv_room h8) hdg hf) (by rw [h1c, h1s, hst1]; exact kk)
theorem th_callP (C : CallFix p m c cc nL s args th_ws own) (T : th_R G s H locs σ μ) (hM : th_Met l G y cy nLy ret rm (.ref b :: As) σ μ res σ' μ') (hL : th_LP own index y cy nLy ret n) (ci : Nat) {q : vw_C} (hq : vwCl[ci]? = some q) (h12 : ci < 12) (hb : σ.1 b = ci) (hn : As.length = n) (hls : ls.size = nL) (hst : As.reverse ++ .ref b :: rest = st0) (hst1 : res.toList ++ rest = st1) (h1c : cells + rm.cells = cells1) (h1s : slots + rm.slots = slots1) (h8 : (rest.map fun v => v.category).sum ≤ 8) (hR : rm.frames + 1 ≤ R.frames ∧ 8 + (nLy + 11) + rm.locals ≤ R.locals) (hf : cells + rm.cells ≤ R.cells ∧ slots + rm.slots ≤ R.slots) (hdg : decode cc pc = .ok (.invokespecial index, 3))
    (kk : ∀ (H : Heap) (locs : List Loc), th_R G s H locs σ' μ' → W p l e R s m args below meth c H locs cells1 slots1 Q (F0 m (pc + 3) ls st1)) : W p l e R s m args below meth c H locs cells slots Q (F0 m pc ls st0) := by
  obtain ⟨h1, h2, h3, h4, h5, h6, h7⟩ := hL
  have hr := th_own T hq h12 hb
  have hat := (T.1.1.1 ci q hq).2
  have hcs : va_CS R s args own index y cy nLy ret (.code y cy nLy ret :: th_ws) rm rm.cells rm.slots n := by
    refine va_cwSU (ws' := th_ws) n C.2.2.2.2 (th_ws_good (fun w hw => ?_)) rfl rfl rfl h7 hR
    simp only [va_wsSU, List.mem_append, List.mem_cons, List.not_mem_nil, or_false] at hw
    rcases hw with (rfl | rfl | rfl | rfl | rfl) | rfl | hw <;> assumption
  exact th_back T (va_runSU (As := As) (rest := rest) (C := q.1) hat C hM hcs ⟨th_B.blind, hr, th_pre T _⟩ rfl hn hls hst.symm (lv_room h8) hdg hf) (by rw [h1c, h1s, hst1]; exact kk)
end TC
