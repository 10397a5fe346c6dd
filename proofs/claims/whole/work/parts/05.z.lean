/-- Arrays.copyOf of ints: a new row of n, the old one's numbers as far as both go -/
def oCp (σ : th_S) (μ : th_M) (a : Nat) (n : Int32) : Option (Nat × th_S × th_M) := if σ.1 a = 12 ∧ ¬ n < 0 ∧ n.toNatClampNeg ≤ σ.2.1 a ∧ σ.2.1 a ≤ 200 then some (σ.2.2.2, th_nS σ 12 n.toNatClampNeg, va_up μ σ.2.2.2 (μ a)) else none
theorem os1 {α : Type} {a r : α} (h : some a = some r) : r = a := (Option.some.inj h).symm
theorem os2 {α β : Type} {a r : α} {b s : β} (h : some (a, b) = some (r, s)) : r = a ∧ s = b := by
  have h := Option.some.inj h
  exact ⟨(congrArg Prod.fst h).symm, (congrArg Prod.snd h).symm⟩
theorem os3 {α β γ : Type} {a r : α} {b s : β} {c t : γ} (h : some (a, b, c) = some (r, s, t)) : r = a ∧ s = b ∧ t = c := by
  have h := Option.some.inj h
  exact ⟨(congrArg Prod.fst h).symm, (congrArg (fun x => x.2.1) h).symm, (congrArg (fun x => x.2.2) h).symm⟩
/-! places that are written numbers -/
def oAn (σ : th_S) (μ : th_M) (a k : Nat) : Option Int32 := if σ.1 a = 12 ∧ k < σ.2.1 a then some (μ a k) else none
def oSn (σ : th_S) (μ : th_M) (a k : Nat) (v : Int32) : Option th_M := if σ.1 a = 12 ∧ k < σ.2.1 a then some (th_w μ a k v) else none
def oXn (σ : th_S) (μ : th_M) (a0 a1 n : Nat) : Option th_M := if σ.1 a0 = 12 ∧ σ.1 a1 = 12 ∧ n ≤ σ.2.1 a0 ∧ n ≤ σ.2.1 a1 then some (va_up μ a1 (fun k => if k < n then μ a0 k else μ a1 k)) else none
def jrem (x y : Int32) : Int32 := x - x / y * y
def jremL (x y : Int64) : Int64 := x - x / y * y
def jshl (x y : Int32) : Int32 := x <<< (y &&& 31)
def jshr (x y : Int32) : Int32 := x >>> (y &&& 31)
section TN
variable {p : Program} {l : Launch} {e : Env} {R : Room} {s : State} {m : MethodId} {args : Array Value} {below : List Frame} {meth : Method} {c : Code} {H : Heap} {locs : List Loc} {cells slots : Nat} {Q : State → Prop}
variable {cc : ByteArray} {pc nL : Nat} {ls : Array Slot} {rest : List Value} {G : th_G} {σ : th_S} {μ μ' : th_M} {own : String}
theorem th_ialdn (C : CallFix p m c cc nL s args th_ws own) (T : th_R G s H locs σ μ) {a k : Nat} {i v : Int32} (h : oAn σ μ a k = some v) (hi : ¬ i < 0) (hk : i.toNatClampNeg = k) (hdg : decode cc pc = .ok (.iaload, 1))
    (kk : W p l e R s m args below meth c H locs cells slots Q (F0 m (pc + 1) ls (.int v :: rest))) : W p l e R s m args below meth c H locs cells slots Q (F0 m pc ls (.int i :: .ref a :: rest)) := by
  unfold oAn at h
  obtain ⟨⟨h1, h2⟩, h⟩ := og_ h
  refine th_iald C T (i := i) (v := v) ?_ hdg kk
  unfold oA
  rw [if_pos ⟨h1, by rw [hk]; exact fun q => q.elim hi (fun q => absurd h2 (Nat.not_lt.mpr q))⟩, hk]
  exact h
theorem th_iastn (C : CallFix p m c cc nL s args th_ws own) (T : th_R G s H locs σ μ) {a k : Nat} {i v : Int32} (h : oSn σ μ a k v = some μ') (hi : ¬ i < 0) (hk : i.toNatClampNeg = k) (hdg : decode cc pc = .ok (.iastore, 1))
    (kk : ∀ (H : Heap) (locs : List Loc), th_R G s H locs σ μ' → W p l e R s m args below meth c H locs cells slots Q (F0 m (pc + 1) ls rest)) : W p l e R s m args below meth c H locs cells slots Q (F0 m pc ls (.int v :: .int i :: .ref a :: rest)) := by
  unfold oSn at h
  obtain ⟨⟨h1, h2⟩, h⟩ := og_ h
  refine th_iast C T (i := i) (v := v) (μ' := μ') ?_ hdg kk
  unfold oS
  rw [if_pos ⟨h1, by rw [hk]; exact fun q => q.elim hi (fun q => absurd h2 (Nat.not_lt.mpr q))⟩, hk]
  exact h
theorem th_copyn (C : CallFix p m c cc nL s args th_ws own) (T : th_R G s H locs σ μ) {a0 a1 index k : Nat} {n : Int32} (h : oXn σ μ a0 a1 k = some μ') (hn : ¬ n < 0) (hk : n.toNatClampNeg = k) (hls : ls.size = nL) (hlink : Cond.methodLink own index arraycopyName ∈ th_ws) (hnat : Cond.native arraycopyName ∈ th_ws) (hstat : Cond.static arraycopyName ∈ th_ws) (hini : Cond.initialized "java/lang/System" ∈ th_ws) (hframes : 1 ≤ R.frames) (hlocals : (rest.map fun v => v.category).sum + (nativeFrameWords "java/lang/System" "arraycopy" 5 + 11) ≤ R.locals) (hdg : decode cc pc = .ok (.invokestatic index, 3))
    (kk : ∀ (H : Heap) (locs : List Loc), th_R G s H locs σ μ' → W p l e R s m args below meth c H locs cells slots Q (F0 m (pc + 3) ls rest)) : W p l e R s m args below meth c H locs cells slots Q (F0 m pc ls (.int n :: .int 0 :: .ref a1 :: .int 0 :: .ref a0 :: rest)) := by
  unfold oXn at h
  obtain ⟨⟨h1, h2, h3, h4⟩, h⟩ := og_ h
  cases h
  refine th_copy C T (μ' := va_up μ a1 (fun k_1 => if k_1 < k then μ a0 k_1 else μ a1 k_1)) ?_ hls hlink hnat hstat hini hframes hlocals hdg kk
  unfold oX
  have z0 : (0 : Int32).toNatClampNeg = 0 := by decide
  rw [if_pos ⟨h1, h2, by decide, by decide, hn, by rw [z0, hk, Nat.zero_add]; exact h3, by rw [z0, hk, Nat.zero_add]; exact h4⟩, z0, hk]
  congr 2
  funext j
  simp [va_cpy]
theorem th_irem (C : CallFix p m c cc nL s args th_ws own) {x y : Int32} (hdg : decode cc pc = .ok (.irem, 1)) (hne : ¬ y = 0) (k : W p l e R s m args below meth c H locs cells slots Q (F0 m (pc + 1) ls (.int (jrem x y) :: rest))) : W p l e R s m args below meth c H locs cells slots Q (F0 m pc ls (.int y :: .int x :: rest)) := lv_irem C.1 C.2.1 hdg hne k
theorem th_lrem (C : CallFix p m c cc nL s args th_ws own) {x y : Int64} (hdg : decode cc pc = .ok (.lrem, 1)) (hne : ¬ y = 0) (k : W p l e R s m args below meth c H locs cells slots Q (F0 m (pc + 1) ls (.long (jremL x y) :: rest))) : W p l e R s m args below meth c H locs cells slots Q (F0 m pc ls (.long y :: .long x :: rest)) := lv_lrem C.1 C.2.1 hdg hne k
theorem th_ishl (C : CallFix p m c cc nL s args th_ws own) {x y : Int32} (hdg : decode cc pc = .ok (.ishl, 1)) (k : W p l e R s m args below meth c H locs cells slots Q (F0 m (pc + 1) ls (.int (jshl x y) :: rest))) : W p l e R s m args below meth c H locs cells slots Q (F0 m pc ls (.int y :: .int x :: rest)) := lv_ishl C.1 C.2.1 hdg k
theorem th_ishr (C : CallFix p m c cc nL s args th_ws own) {x y : Int32} (hdg : decode cc pc = .ok (.ishr, 1)) (k : W p l e R s m args below meth c H locs cells slots Q (F0 m (pc + 1) ls (.int (jshr x y) :: rest))) : W p l e R s m args below meth c H locs cells slots Q (F0 m pc ls (.int y :: .int x :: rest)) := lv_ishr C.1 C.2.1 hdg k
end TN
