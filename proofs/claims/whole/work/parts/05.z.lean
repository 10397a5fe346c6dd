/-- Arrays.copyOf of ints: a new row of n, the old one's numbers as far as both go -/
def oCp (σ : th_S) (μ : th_M) (a : Nat) (n : Int32) : Option (Nat × th_S × th_M) := if σ.1 a = 12 ∧ ¬ n < 0 ∧ n.toNatClampNeg ≤ 200 ∧ n.toNatClampNeg ≤ σ.2.1 a then some (σ.2.2.2, th_nS σ 12 n.toNatClampNeg, va_up μ σ.2.2.2 (μ a)) else none
