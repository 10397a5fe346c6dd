/-- Arrays.copyOf of ints: a new row of n, the old one's numbers as far as both go -/
def oCp (σ : th_S) (μ : th_M) (a : Nat) (n : Int32) : Option (Nat × th_S × th_M) := if σ.1 a = 12 ∧ ¬ n < 0 ∧ n.toNatClampNeg ≤ σ.2.1 a ∧ σ.2.1 a ≤ 200 then some (σ.2.2.2, th_nS σ 12 n.toNatClampNeg, va_up μ σ.2.2.2 (μ a)) else none
theorem os1 {α : Type} {a r : α} (h : some a = some r) : r = a := (Option.some.inj h).symm
theorem os2 {α β : Type} {a r : α} {b s : β} (h : some (a, b) = some (r, s)) : r = a ∧ s = b := by
  have h := Option.some.inj h
  exact ⟨(congrArg Prod.fst h).symm, (congrArg Prod.snd h).symm⟩
theorem os3 {α β γ : Type} {a r : α} {b s : β} {c t : γ} (h : some (a, b, c) = some (r, s, t)) : r = a ∧ s = b ∧ t = c := by
  have h := Option.some.inj h
  exact ⟨(congrArg Prod.fst h).symm, (congrArg (fun x => x.2.1) h).symm, (congrArg (fun x => x.2.2) h).symm⟩
