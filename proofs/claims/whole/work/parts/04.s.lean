/-! more rows: the boats' fields and supers, the words of each class among the tables' -/
theorem th_inOf {Cn : String} {Tn : u_T} {N : Nat} (h : (u_ws Cn Tn N).all (fun w => decide (w ∈ tables_1) && goodWord w) = true) : ∀ w ∈ u_ws Cn Tn N, w ∈ th_ws := fun w hw => by
  have h1 := List.all_eq_true.mp h w hw
  simp only [Bool.and_eq_true, decide_eq_true_eq] at h1
  exact List.mem_filter.mpr ⟨List.mem_append_right _ h1.1, h1.2⟩
theorem in_0 : ∀ w ∈ u_ws RX0 TX0 (th_N 0), w ∈ th_ws := th_inOf (by decide +kernel)
theorem in_1 : ∀ w ∈ u_ws RX1 TX1 (th_N 1), w ∈ th_ws := th_inOf (by decide +kernel)
theorem in_2 : ∀ w ∈ u_ws RX2 TX2 (th_N 2), w ∈ th_ws := th_inOf (by decide +kernel)
theorem in_3 : ∀ w ∈ u_ws RX3 TX3 (th_N 3), w ∈ th_ws := th_inOf (by decide +kernel)
theorem in_4 : ∀ w ∈ u_ws RX4 TX4 (th_N 4), w ∈ th_ws := th_inOf (by decide +kernel)
theorem in_5 : ∀ w ∈ u_ws RX5 TX5 (th_N 5), w ∈ th_ws := th_inOf (by decide +kernel)
theorem in_6 : ∀ w ∈ u_ws RX6 TX6 (th_N 6), w ∈ th_ws := th_inOf (by decide +kernel)
theorem in_7 : ∀ w ∈ u_ws RX7 TX7 (th_N 7), w ∈ th_ws := th_inOf (by decide +kernel)
theorem in_8 : ∀ w ∈ u_ws RX8 TX8 (th_N 8), w ∈ th_ws := th_inOf (by decide +kernel)
theorem in_9 : ∀ w ∈ u_ws RX9 TX9 (th_N 9), w ∈ th_ws := th_inOf (by decide +kernel)
theorem in_10 : ∀ w ∈ u_ws RX10 TX10 (th_N 10), w ∈ th_ws := th_inOf (by decide +kernel)
theorem in_11 : ∀ w ∈ u_ws RX11 TX11 (th_N 11), w ∈ th_ws := th_inOf (by decide +kernel)
theorem th_fitI (ty : FieldType) (v : Int32) (h : ty = .int) : narrow ty (.int v) = .int v ∧ fits ty (.int v) = true := by
  subst h; exact ⟨rfl, rfl⟩
section TS
variable {p : Program} {l : Launch} {e : Env} {R : Room} {s : State} {m : MethodId} {args : Array Value} {below : List Frame} {meth : Method} {c : Code} {H : Heap} {locs : List Loc} {cells slots : Nat} {Q : State → Prop}
variable {cc : ByteArray} {pc nL : Nat} {ls : Array Slot} {rest st0 st1 : List Value} {cells1 slots1 : Nat} {G : th_G} {σ σ' : th_S} {μ μ' : th_M} {own host Cn owner : String} {index nLy n : Nat} {x y : MethodName} {cy : ByteArray} {ret : Option FieldType} {rm : Room} {As : List Value} {a b : Nat} {res : Option Value} {g : JFrame}
theorem W.eqc {c1 s1 : Nat} (h1 : cells = c1) (h2 : slots = s1) (k : W p l e R s m args below meth c H locs c1 s1 Q g) : W p l e R s m args below meth c H locs cells slots Q g := by
  subst h1; subst h2; exact k
theorem th_getB (C : CallFix p m c cc nL s args th_ws own) (T : th_R G s H locs σ μ) {ref : String} {k : Nat} (hk : k < 2) (h : oB σ a k = some b) (hlink : Cond.fieldLink own index ref (TX0 k).2.1 (TX0 k).2.2.1 ∈ th_ws) (hsame : ∀ x, s.fieldFound? (TX0 k).1 (TX0 k).2.1 (TX0 k).2.2.1 = some x → s.fieldFound? ref (TX0 k).2.1 (TX0 k).2.2.1 = some x) (hdg : decode cc pc = .ok (.getfield index, 3))
    (kk : W p l e R s m args below meth c H locs cells slots Q (F0 m (pc + 3) ls (.ref b :: rest))) : W p l e R s m args below meth c H locs cells slots Q (F0 m pc ls (.ref a :: rest)) := by
  unfold oB at h
  obtain ⟨hb, h⟩ := og_ h
  rcases th_b6 hb with e | e | e | e | e | e
  · exact th_getR C T 0 (Tn := TX0) (by unfold oR; rw [if_pos e]; exact h) (by decide) rfl in_0 hk rfl hlink hsame hdg kk
  · exact th_getR C T 1 (Tn := TX1) (by unfold oR; rw [if_pos e]; exact h) (by decide) rfl in_1 hk rfl hlink hsame hdg kk
  · exact th_getR C T 2 (Tn := TX2) (by unfold oR; rw [if_pos e]; exact h) (by decide) rfl in_2 hk rfl hlink hsame hdg kk
  · exact th_getR C T 3 (Tn := TX3) (by unfold oR; rw [if_pos e]; exact h) (by decide) rfl in_3 hk rfl hlink hsame hdg kk
  · exact th_getR C T 4 (Tn := TX4) (by unfold oR; rw [if_pos e]; exact h) (by decide) rfl in_4 hk rfl hlink hsame hdg kk
  · exact th_getR C T 7 (Tn := TX7) (by unfold oR; rw [if_pos e]; exact h) (by decide) rfl in_7 hk rfl hlink hsame hdg kk
theorem th_putB (C : CallFix p m c cc nL s args th_ws own) (T : th_R G s H locs σ μ) {ref : String} {k : Nat} (hk : k < 2) (h : oPB σ a k b = some σ') (hlink : Cond.fieldLink own index ref (TX0 k).2.1 (TX0 k).2.2.1 ∈ th_ws) (hsame : ∀ x, s.fieldFound? (TX0 k).1 (TX0 k).2.1 (TX0 k).2.2.1 = some x → s.fieldFound? ref (TX0 k).2.1 (TX0 k).2.2.1 = some x) (hfin : meth.name = "<init>" ∧ (TX0 k).1 = own) (hdg : decode cc pc = .ok (.putfield index, 3))
    (kk : ∀ (H : Heap) (locs : List Loc), th_R G s H locs σ' μ → W p l e R s m args below meth c H locs cells slots Q (F0 m (pc + 3) ls rest)) : W p l e R s m args below meth c H locs cells slots Q (F0 m pc ls (.ref b :: .ref a :: rest)) := by
  unfold oPB at h
  obtain ⟨hb, h⟩ := og_ h
  have hF : (TX0 k).2.2.2 = true := by
    rcases (show k = 0 ∨ k = 1 by omega) with e | e <;> subst e <;> rfl
  have hty : ∀ (tyn : Nat → FieldType), (tyn = tyX0) → narrow (tyn k) (.ref b) = .ref b ∧ fits (tyn k) (.ref b) = true := by
    intro tyn e; subst e
    rcases (show k = 0 ∨ k = 1 by omega) with e | e <;> subst e <;> exact ⟨rfl, rfl⟩
  rcases th_b6 hb with e | e | e | e | e | e
  · exact th_putR C T 0 (Tn := TX0) (tyn := tyX0) (by unfold oPR; rw [if_pos e]; exact h) (by decide) rfl in_0 tyX0_ok nmX0 hk rfl hlink hsame (Or.inr ⟨hF, hfin⟩) (hty _ rfl).1 (hty _ rfl).2 hdg kk
  · exact th_putR C T 1 (Tn := TX1) (tyn := tyX1) (by unfold oPR; rw [if_pos e]; exact h) (by decide) rfl in_1 tyX1_ok nmX1 hk rfl hlink hsame (Or.inr ⟨hF, hfin⟩) (hty _ rfl).1 (hty _ rfl).2 hdg kk
  · exact th_putR C T 2 (Tn := TX2) (tyn := tyX2) (by unfold oPR; rw [if_pos e]; exact h) (by decide) rfl in_2 tyX2_ok nmX2 hk rfl hlink hsame (Or.inr ⟨hF, hfin⟩) (hty _ rfl).1 (hty _ rfl).2 hdg kk
  · exact th_putR C T 3 (Tn := TX3) (tyn := tyX3) (by unfold oPR; rw [if_pos e]; exact h) (by decide) rfl in_3 tyX3_ok nmX3 hk rfl hlink hsame (Or.inr ⟨hF, hfin⟩) (hty _ rfl).1 (hty _ rfl).2 hdg kk
  · exact th_putR C T 4 (Tn := TX4) (tyn := tyX4) (by unfold oPR; rw [if_pos e]; exact h) (by decide) rfl in_4 tyX4_ok nmX4 hk rfl hlink hsame (Or.inr ⟨hF, hfin⟩) (hty _ rfl).1 (hty _ rfl).2 hdg kk
  · exact th_putR C T 7 (Tn := TX7) (tyn := tyX7) (by unfold oPR; rw [if_pos e]; exact h) (by decide) rfl in_7 tyX7_ok nmX7 hk rfl hlink hsame (Or.inr ⟨hF, hfin⟩) (hty _ rfl).1 (hty _ rfl).2 hdg kk
theorem th_callPB (C : CallFix p m c cc nL s args th_ws own) (T : th_R G s H locs σ μ) (hM : th_Met l G y cy nLy ret rm (.ref b :: As) σ μ res σ' μ') (hL : th_LP own index y cy nLy ret n) (hb : th_b (σ.1 b) = true) (hn : As.length = n) (hls : ls.size = nL) (hst : As.reverse ++ .ref b :: rest = st0) (hst1 : res.toList ++ rest = st1) (h1c : cells + rm.cells = cells1) (h1s : slots + rm.slots = slots1) (h8 : (rest.map fun v => v.category).sum ≤ 8) (hR : rm.frames + 1 ≤ R.frames ∧ 8 + (nLy + 11) + rm.locals ≤ R.locals) (hf : cells + rm.cells ≤ R.cells ∧ slots + rm.slots ≤ R.slots) (hdg : decode cc pc = .ok (.invokespecial index, 3))
    (kk : ∀ (H : Heap) (locs : List Loc), th_R G s H locs σ' μ' → W p l e R s m args below meth c H locs cells1 slots1 Q (F0 m (pc + 3) ls st1)) : W p l e R s m args below meth c H locs cells slots Q (F0 m pc ls st0) := by
  rcases th_b6 hb with e | e | e | e | e | e
  · exact th_callP C T hM hL 0 rfl (by decide) e hn hls hst hst1 h1c h1s h8 hR hf hdg kk
  · exact th_callP C T hM hL 1 rfl (by decide) e hn hls hst hst1 h1c h1s h8 hR hf hdg kk
  · exact th_callP C T hM hL 2 rfl (by decide) e hn hls hst hst1 h1c h1s h8 hR hf hdg kk
  · exact th_callP C T hM hL 3 rfl (by decide) e hn hls hst hst1 h1c h1s h8 hR hf hdg kk
  · exact th_callP C T hM hL 4 rfl (by decide) e hn hls hst hst1 h1c h1s h8 hR hf hdg kk
  · exact th_callP C T hM hL 7 rfl (by decide) e hn hls hst hst1 h1c h1s h8 hR hf hdg kk
end TS
/-- what may lie in the rows of objects -/
theorem th_cast13 : ∀ cb, th_c 13 cb = true → cb < 12 ∧ ∃ q : vw_C, vwCl[cb]? = some q ∧ (q.1 = RX0 ∨ (Cond.castable q.1 RX0) ∈ th_nws) := by
  intro cb h
  rcases th_b6 h with e | e | e | e | e | e <;> subst e
  · exact ⟨by decide, _, rfl, Or.inl rfl⟩
  · exact ⟨by decide, _, rfl, Or.inr (by decide +kernel)⟩
  · exact ⟨by decide, _, rfl, Or.inr (by decide +kernel)⟩
  · exact ⟨by decide, _, rfl, Or.inr (by decide +kernel)⟩
  · exact ⟨by decide, _, rfl, Or.inr (by decide +kernel)⟩
  · exact ⟨by decide, _, rfl, Or.inr (by decide +kernel)⟩
theorem th_cast14 : ∀ cb, th_c 14 cb = true → cb < 12 ∧ ∃ q : vw_C, vwCl[cb]? = some q ∧ (q.1 = RX5 ∨ (Cond.castable q.1 RX5) ∈ th_nws) := by
  intro cb h
  have e : cb = 5 := by simpa [th_c] using h
  subst e
  exact ⟨by decide, _, rfl, Or.inl rfl⟩
theorem th_cast15 : ∀ cb, th_c 15 cb = true → cb < 12 ∧ ∃ q : vw_C, vwCl[cb]? = some q ∧ (q.1 = RX6 ∨ (Cond.castable q.1 RX6) ∈ th_nws) := by
  intro cb h
  have e : cb = 6 := by simpa [th_c] using h
  subst e
  exact ⟨by decide, _, rfl, Or.inl rfl⟩
def is_7 (c : Nat) : Bool := c == 7 || c == 2
def is_4 (c : Nat) : Bool := c == 4 || c == 1
def is_2 (c : Nat) : Bool := c == 2
def is_1 (c : Nat) : Bool := c == 1
def is_3 (c : Nat) : Bool := c == 3
theorem is_7_ok : ∀ ci, th_b ci = true → ∃ q : vw_C, vwCl[ci]? = some q ∧ ((is_7 ci = true ∧ (q.1 = RX7 ∨ Cond.castable q.1 RX7 ∈ th_nws)) ∨ (is_7 ci = false ∧ (q.1, RX7) ∈ th_nc)) := by
  intro ci h
  rcases th_b6 h with e | e | e | e | e | e <;> subst e <;> refine ⟨_, rfl, ?_⟩
  all_goals first
    | exact Or.inl ⟨rfl, Or.inl rfl⟩
    | exact Or.inl ⟨rfl, Or.inr (by decide +kernel)⟩
    | exact Or.inr ⟨rfl, by decide +kernel⟩
theorem is_4_ok : ∀ ci, th_b ci = true → ∃ q : vw_C, vwCl[ci]? = some q ∧ ((is_4 ci = true ∧ (q.1 = RX4 ∨ Cond.castable q.1 RX4 ∈ th_nws)) ∨ (is_4 ci = false ∧ (q.1, RX4) ∈ th_nc)) := by
  intro ci h
  rcases th_b6 h with e | e | e | e | e | e <;> subst e <;> refine ⟨_, rfl, ?_⟩
  all_goals first
    | exact Or.inl ⟨rfl, Or.inl rfl⟩
    | exact Or.inl ⟨rfl, Or.inr (by decide +kernel)⟩
    | exact Or.inr ⟨rfl, by decide +kernel⟩
theorem is_2_ok : ∀ ci, th_b ci = true → ∃ q : vw_C, vwCl[ci]? = some q ∧ ((is_2 ci = true ∧ (q.1 = RX2 ∨ Cond.castable q.1 RX2 ∈ th_nws)) ∨ (is_2 ci = false ∧ (q.1, RX2) ∈ th_nc)) := by
  intro ci h
  rcases th_b6 h with e | e | e | e | e | e <;> subst e <;> refine ⟨_, rfl, ?_⟩
  all_goals first
    | exact Or.inl ⟨rfl, Or.inl rfl⟩
    | exact Or.inr ⟨rfl, by decide +kernel⟩
theorem is_1_ok : ∀ ci, th_b ci = true → ∃ q : vw_C, vwCl[ci]? = some q ∧ ((is_1 ci = true ∧ (q.1 = RX1 ∨ Cond.castable q.1 RX1 ∈ th_nws)) ∨ (is_1 ci = false ∧ (q.1, RX1) ∈ th_nc)) := by
  intro ci h
  rcases th_b6 h with e | e | e | e | e | e <;> subst e <;> refine ⟨_, rfl, ?_⟩
  all_goals first
    | exact Or.inl ⟨rfl, Or.inl rfl⟩
    | exact Or.inr ⟨rfl, by decide +kernel⟩
theorem is_3_ok : ∀ ci, th_b ci = true → ∃ q : vw_C, vwCl[ci]? = some q ∧ ((is_3 ci = true ∧ (q.1 = RX3 ∨ Cond.castable q.1 RX3 ∈ th_nws)) ∨ (is_3 ci = false ∧ (q.1, RX3) ∈ th_nc)) := by
  intro ci h
  rcases th_b6 h with e | e | e | e | e | e <;> subst e <;> refine ⟨_, rfl, ?_⟩
  all_goals first
    | exact Or.inl ⟨rfl, Or.inl rfl⟩
    | exact Or.inr ⟨rfl, by decide +kernel⟩
