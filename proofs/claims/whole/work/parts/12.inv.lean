/-! THE PURE INVARIANT: JX (the class's cells tell A), JM (the reference's cells tell A); A has the reference's layout: A 0 its ints, A p its row at base + 27 + p -/
def scr (p k : Nat) : Prop := p = 11 ∨ p = 12 ∨ p = 13 ∨ p = 14 ∨ p = 15 ∨ p = 20 ∨ (p = 0 ∧ ((21 ≤ k ∧ k ≤ 26) ∨ k = 29))
def JM (z : Nat) (Y : th_M) (μ A : th_M) : Prop := (∀ p k, p ≤ 20 → ¬ scr p k → μ (z + (27 + p)) k = A p k) ∧ ∀ q, (q < z + 27 ∨ z + 48 ≤ q ∨ q = z + 42) → μ q = Y q
def kcls (k : Int32) : Nat := if k = 0 then 0 else if k = 1 then 7 else if k = 2 then 4 else if k = 3 then 2 else if k = 4 then 1 else 3
def rg (v : Int32) (m : Nat) : Prop := ∃ k : Nat, k ≤ m ∧ v = nI k
def tk (m : Int32) : Int32 := if m = -11 then -10 else if m = -12 then -11 else if m = -13 then -12 else if m = -14 then -61 else if m = -15 then -62 else if m = -16 then -44 else if m = -17 then -46 else if m = -18 then -43 else if m = -19 then -14 else m
def tkOk (m : Int32) : Prop := 0 ≤ m ∨ ((-7 : Int32) < m ∧ m < 0) ∨ ((-20 : Int32) < m ∧ m < -10)
/-- heights as a clause is reckoned: k things from i on, h waiting -/
def hg (c : Nat → Int32) : Nat → Nat → Nat → Prop
  | 0, _, h => h = 1
  | k + 1, i, h => tkOk (c i) ∧ (if (-7 : Int32) < c i then h < 31 ∧ hg c k (i + 1) (h + 1) else if c i = -13 ∨ c i = -19 then 1 ≤ h ∧ hg c k (i + 1) h else 2 ≤ h ∧ hg c k (i + 1) (h - 1))
/-- the shape, the boats and texts with it; ω tells which cell is which -/
def SH (z : Nat) (σ : th_S) (B U ω : Nat → Nat) (n nt : Nat) (K : Nat → Int32) : Prop :=
  (SX σ z) ∧
  (∀ b, b < n → σ.2.2.1 (z + 1) b = some (B b)) ∧
  (∀ b, b < n → σ.1 (B b) = kcls (K b)) ∧
  (∀ b, b < n → rg (K b) 5) ∧
  (∀ b, b < n → σ.2.2.1 (B b) 0 = some (B b + 1) ∧ σ.2.2.1 (B b) 1 = some (B b + 2)) ∧
  (∀ b, b < n → σ.1 (B b + 1) = 12 ∧ σ.2.1 (B b + 1) = 6) ∧
  (∀ b, b < n → σ.1 (B b + 2) = 12 ∧ σ.2.1 (B b + 2) = 6) ∧
  (∀ b, b < n → B b + 3 ≤ σ.2.2.2) ∧
  (n ≤ 7) ∧
  (∀ k, k < 48 → (k < 23 ∨ 27 ≤ k) → ω (z + k) = k) ∧
  (∀ b, b < n → ∀ j, j < 3 → ω (B b + j) = 1000 + 10 * b + j) ∧
  (∀ t, t < nt → ∀ j, j < 4 → ω (U t + j) = 2000 + 10 * t + j) ∧
  (1 ≤ nt ∧ nt ≤ 6) ∧
  (∀ t, t < nt → σ.2.2.1 (z + 8) t = some (U t)) ∧
  (∀ t, t < nt → σ.1 (U t) = 5) ∧
  (∀ t, t < nt → σ.2.2.1 (U t) 0 = some (U t + 1) ∧ σ.2.2.1 (U t) 1 = some (U t + 2) ∧ σ.2.2.1 (U t) 2 = some (U t + 3)) ∧
  (∀ t, t < nt → σ.1 (U t + 1) = 12 ∧ σ.2.1 (U t + 1) ≤ 160) ∧
  (∀ t, t < nt → σ.1 (U t + 2) = 12 ∧ σ.2.1 (U t + 2) = 3) ∧
  (∀ t, t < nt → σ.1 (U t + 3) = 12 ∧ σ.2.1 (U t + 3) = 31) ∧
  (∀ t, t < nt → U t + 4 ≤ σ.2.2.2)
theorem SH.sx {z : Nat} {σ : th_S} {B U ω : Nat → Nat} {n nt : Nat} {K : Nat → Int32} (h : SH z σ B U ω n nt K) : SX σ z := h.1
theorem SH.fl {z : Nat} {σ : th_S} {B U ω : Nat → Nat} {n nt : Nat} {K : Nat → Int32} (h : SH z σ B U ω n nt K) : ∀ b, b < n → σ.2.2.1 (z + 1) b = some (B b) := h.2.1
theorem SH.bc {z : Nat} {σ : th_S} {B U ω : Nat → Nat} {n nt : Nat} {K : Nat → Int32} (h : SH z σ B U ω n nt K) : ∀ b, b < n → σ.1 (B b) = kcls (K b) := h.2.2.1
theorem SH.kd {z : Nat} {σ : th_S} {B U ω : Nat → Nat} {n nt : Nat} {K : Nat → Int32} (h : SH z σ B U ω n nt K) : ∀ b, b < n → rg (K b) 5 := h.2.2.2.1
theorem SH.br {z : Nat} {σ : th_S} {B U ω : Nat → Nat} {n nt : Nat} {K : Nat → Int32} (h : SH z σ B U ω n nt K) : ∀ b, b < n → σ.2.2.1 (B b) 0 = some (B b + 1) ∧ σ.2.2.1 (B b) 1 = some (B b + 2) := h.2.2.2.2.1
theorem SH.b1 {z : Nat} {σ : th_S} {B U ω : Nat → Nat} {n nt : Nat} {K : Nat → Int32} (h : SH z σ B U ω n nt K) : ∀ b, b < n → σ.1 (B b + 1) = 12 ∧ σ.2.1 (B b + 1) = 6 := h.2.2.2.2.2.1
theorem SH.b2 {z : Nat} {σ : th_S} {B U ω : Nat → Nat} {n nt : Nat} {K : Nat → Int32} (h : SH z σ B U ω n nt K) : ∀ b, b < n → σ.1 (B b + 2) = 12 ∧ σ.2.1 (B b + 2) = 6 := h.2.2.2.2.2.2.1
theorem SH.bN {z : Nat} {σ : th_S} {B U ω : Nat → Nat} {n nt : Nat} {K : Nat → Int32} (h : SH z σ B U ω n nt K) : ∀ b, b < n → B b + 3 ≤ σ.2.2.2 := h.2.2.2.2.2.2.2.1
theorem SH.n7 {z : Nat} {σ : th_S} {B U ω : Nat → Nat} {n nt : Nat} {K : Nat → Int32} (h : SH z σ B U ω n nt K) : n ≤ 7 := h.2.2.2.2.2.2.2.2.1
theorem SH.wz {z : Nat} {σ : th_S} {B U ω : Nat → Nat} {n nt : Nat} {K : Nat → Int32} (h : SH z σ B U ω n nt K) : ∀ k, k < 48 → (k < 23 ∨ 27 ≤ k) → ω (z + k) = k := h.2.2.2.2.2.2.2.2.2.1
theorem SH.wb {z : Nat} {σ : th_S} {B U ω : Nat → Nat} {n nt : Nat} {K : Nat → Int32} (h : SH z σ B U ω n nt K) : ∀ b, b < n → ∀ j, j < 3 → ω (B b + j) = 1000 + 10 * b + j := h.2.2.2.2.2.2.2.2.2.2.1
theorem SH.wu {z : Nat} {σ : th_S} {B U ω : Nat → Nat} {n nt : Nat} {K : Nat → Int32} (h : SH z σ B U ω n nt K) : ∀ t, t < nt → ∀ j, j < 4 → ω (U t + j) = 2000 + 10 * t + j := h.2.2.2.2.2.2.2.2.2.2.2.1
theorem SH.t6 {z : Nat} {σ : th_S} {B U ω : Nat → Nat} {n nt : Nat} {K : Nat → Int32} (h : SH z σ B U ω n nt K) : 1 ≤ nt ∧ nt ≤ 6 := h.2.2.2.2.2.2.2.2.2.2.2.2.1
theorem SH.ur {z : Nat} {σ : th_S} {B U ω : Nat → Nat} {n nt : Nat} {K : Nat → Int32} (h : SH z σ B U ω n nt K) : ∀ t, t < nt → σ.2.2.1 (z + 8) t = some (U t) := h.2.2.2.2.2.2.2.2.2.2.2.2.2.1
theorem SH.uc {z : Nat} {σ : th_S} {B U ω : Nat → Nat} {n nt : Nat} {K : Nat → Int32} (h : SH z σ B U ω n nt K) : ∀ t, t < nt → σ.1 (U t) = 5 := h.2.2.2.2.2.2.2.2.2.2.2.2.2.2.1
theorem SH.uf {z : Nat} {σ : th_S} {B U ω : Nat → Nat} {n nt : Nat} {K : Nat → Int32} (h : SH z σ B U ω n nt K) : ∀ t, t < nt → σ.2.2.1 (U t) 0 = some (U t + 1) ∧ σ.2.2.1 (U t) 1 = some (U t + 2) ∧ σ.2.2.1 (U t) 2 = some (U t + 3) := h.2.2.2.2.2.2.2.2.2.2.2.2.2.2.2.1
theorem SH.u1 {z : Nat} {σ : th_S} {B U ω : Nat → Nat} {n nt : Nat} {K : Nat → Int32} (h : SH z σ B U ω n nt K) : ∀ t, t < nt → σ.1 (U t + 1) = 12 ∧ σ.2.1 (U t + 1) ≤ 160 := h.2.2.2.2.2.2.2.2.2.2.2.2.2.2.2.2.1
theorem SH.u2 {z : Nat} {σ : th_S} {B U ω : Nat → Nat} {n nt : Nat} {K : Nat → Int32} (h : SH z σ B U ω n nt K) : ∀ t, t < nt → σ.1 (U t + 2) = 12 ∧ σ.2.1 (U t + 2) = 3 := h.2.2.2.2.2.2.2.2.2.2.2.2.2.2.2.2.2.1
theorem SH.u3 {z : Nat} {σ : th_S} {B U ω : Nat → Nat} {n nt : Nat} {K : Nat → Int32} (h : SH z σ B U ω n nt K) : ∀ t, t < nt → σ.1 (U t + 3) = 12 ∧ σ.2.1 (U t + 3) = 31 := h.2.2.2.2.2.2.2.2.2.2.2.2.2.2.2.2.2.2.1
theorem SH.uN {z : Nat} {σ : th_S} {B U ω : Nat → Nat} {n nt : Nat} {K : Nat → Int32} (h : SH z σ B U ω n nt K) : ∀ t, t < nt → U t + 4 ≤ σ.2.2.2 := h.2.2.2.2.2.2.2.2.2.2.2.2.2.2.2.2.2.2.2
/-- the class's cells tell A; Z: the reference's cells, which stay -/
def JX (z : Nat) (σ : th_S) (Z : th_M) (B U ω : Nat → Nat) (n nt : Nat) (μ A : th_M) : Prop :=
  (SH z σ B U ω n nt (A 1)) ∧
  (∀ p, p ≤ 20 → μ (z + (27 + p)) = Z p) ∧
  (μ (z + 13) = Z 21 ∧ ∀ j, j < 7 → μ (z + 12) j = 0) ∧
  (A 0 0 = nI n) ∧
  (μ z 1 = nI n) ∧
  (∀ b, b < n → μ (B b + 1) 0 = A 3 b ∧ μ (B b + 1) 1 = A 4 b ∧ μ (B b + 1) 2 = A 5 b ∧ μ (B b + 1) 3 = A 2 b ∧ μ (B b + 1) 4 = A 6 b ∧ μ (B b + 1) 5 = A 7 b) ∧
  (∀ b, b < n → rg (A 3 b) 47 ∧ rg (A 4 b) 999 ∧ rg (A 5 b) 240 ∧ rg (A 2 b) 9 ∧ rg (A 6 b) 2 ∧ (A 6 b ≠ 0 → rg (A 7 b) 20000)) ∧
  (μ (z + 2) 4 = A 0 8 ∧ μ (z + 2) 5 = A 0 9 ∧ μ (z + 2) 6 = A 0 11 ∧ μ (z + 2) 7 = A 0 12 ∧ μ (z + 2) 8 = A 0 13 ∧ μ (z + 2) 9 = A 0 10 ∧ μ (z + 2) 10 = A 0 14 ∧ μ (z + 2) 11 = A 0 18) ∧
  (rg (A 0 8) 47 ∧ rg (A 0 9) 9 ∧ rg (A 0 10) 9999 ∧ rg (A 0 11) 6 ∧ rg (A 0 12) 9 ∧ rg (A 0 13) 20 ∧ A 0 11 ≠ 0 ∧ A 0 12 ≠ 0) ∧
  (∃ m, m ≤ 160 ∧ A 0 15 = nI m ∧ μ (z + 4) 1 = nI m ∧ ∀ i, i < m → μ (z + 5) i = A 8 i ∧ rg (A 8 i) 255) ∧
  (∀ i, i < 4 → μ (z + (15 + 2 * i)) 1 = A 17 i ∧ (A 17 i = -1 ∨ (rg (A 17 i) 2 ∧ ∃ m, m ≤ 40 ∧ A 18 i = nI m ∧ μ (z + (15 + 2 * i)) 2 = nI m ∧ ∀ k, k < m → μ (z + (16 + 2 * i)) k = A 19 (40 * i + k)))) ∧
  (μ z 7 = nI nt) ∧
  (A 0 17 = nI nt) ∧
  (∃ r, r < nt ∧ A 0 18 = nI r) ∧
  (∀ t, t < nt → ∃ e0 e1 e2, e0 ≤ e1 ∧ e1 ≤ e2 ∧ σ.2.1 (U t + 1) = e2 ∧ μ (U t + 2) 0 = nI e0 ∧ μ (U t + 2) 1 = nI e1 ∧ μ (U t + 2) 2 = nI e2 ∧ A 10 (4 * t) = 0 ∧ A 10 (4 * t + 1) = nI e0 ∧ A 10 (4 * t + 2) = nI e1 ∧ A 10 (4 * t + 3) = nI e2 ∧ (∀ i, i < e2 → μ (U t + 1) i = tk (A 9 (170 * t + i))) ∧ hg (fun i => A 9 (170 * t + i)) e0 0 0 ∧ hg (fun i => A 9 (170 * t + i)) (e1 - e0) e0 0 ∧ hg (fun i => A 9 (170 * t + i)) (e2 - e1) e1 0) ∧
  ((A 0 33 = 0 ∧ μ z 4 = -1) ∨ (A 0 33 = 1 ∧ ∃ no, no ≤ n ∧ A 0 34 = nI no ∧ μ z 4 = nI no ∧ (μ (z + 3) 4 = A 16 42 ∧ μ (z + 3) 5 = A 16 43 ∧ μ (z + 3) 6 = A 16 45 ∧ μ (z + 3) 7 = A 16 46 ∧ μ (z + 3) 8 = A 16 47 ∧ μ (z + 3) 9 = A 16 44 ∧ μ (z + 3) 10 = A 16 48 ∧ μ (z + 3) 11 = A 16 49) ∧ (rg (A 16 42) 47 ∧ rg (A 16 43) 9 ∧ rg (A 16 44) 9999 ∧ rg (A 16 45) 6 ∧ rg (A 16 46) 9 ∧ rg (A 16 47) 20 ∧ A 16 45 ≠ 0 ∧ A 16 46 ≠ 0) ∧ (∃ r, r < nt ∧ A 16 49 = nI r) ∧ ∀ b, b < no → (μ (B b + 2) 0 = A 16 (6 * b + 0) ∧ μ (B b + 2) 1 = A 16 (6 * b + 1) ∧ μ (B b + 2) 2 = A 16 (6 * b + 2) ∧ μ (B b + 2) 3 = A 16 (6 * b + 3) ∧ μ (B b + 2) 4 = A 16 (6 * b + 4) ∧ μ (B b + 2) 5 = A 16 (6 * b + 5)) ∧ rg (A 16 (6 * b)) 47 ∧ rg (A 16 (6 * b + 1)) 999 ∧ rg (A 16 (6 * b + 2)) 240 ∧ rg (A 16 (6 * b + 3)) 9 ∧ rg (A 16 (6 * b + 4)) 2 ∧ (A 16 (6 * b + 4) ≠ 0 → rg (A 16 (6 * b + 5)) 20000)))
theorem JX.sh {z : Nat} {σ : th_S} {Z : th_M} {B U ω : Nat → Nat} {n nt : Nat} {μ A : th_M} (h : JX z σ Z B U ω n nt μ A) : SH z σ B U ω n nt (A 1) := h.1
theorem JX.fz {z : Nat} {σ : th_S} {Z : th_M} {B U ω : Nat → Nat} {n nt : Nat} {μ A : th_M} (h : JX z σ Z B U ω n nt μ A) : ∀ p, p ≤ 20 → μ (z + (27 + p)) = Z p := h.2.1
theorem JX.fof {z : Nat} {σ : th_S} {Z : th_M} {B U ω : Nat → Nat} {n nt : Nat} {μ A : th_M} (h : JX z σ Z B U ω n nt μ A) : μ (z + 13) = Z 21 ∧ ∀ j, j < 7 → μ (z + 12) j = 0 := h.2.2.1
theorem JX.nn {z : Nat} {σ : th_S} {Z : th_M} {B U ω : Nat → Nat} {n nt : Nat} {μ A : th_M} (h : JX z σ Z B U ω n nt μ A) : A 0 0 = nI n := h.2.2.2.1
theorem JX.xn {z : Nat} {σ : th_S} {Z : th_M} {B U ω : Nat → Nat} {n nt : Nat} {μ A : th_M} (h : JX z σ Z B U ω n nt μ A) : μ z 1 = nI n := h.2.2.2.2.1
theorem JX.nw {z : Nat} {σ : th_S} {Z : th_M} {B U ω : Nat → Nat} {n nt : Nat} {μ A : th_M} (h : JX z σ Z B U ω n nt μ A) : ∀ b, b < n → μ (B b + 1) 0 = A 3 b ∧ μ (B b + 1) 1 = A 4 b ∧ μ (B b + 1) 2 = A 5 b ∧ μ (B b + 1) 3 = A 2 b ∧ μ (B b + 1) 4 = A 6 b ∧ μ (B b + 1) 5 = A 7 b := h.2.2.2.2.2.1
theorem JX.rn {z : Nat} {σ : th_S} {Z : th_M} {B U ω : Nat → Nat} {n nt : Nat} {μ A : th_M} (h : JX z σ Z B U ω n nt μ A) : ∀ b, b < n → rg (A 3 b) 47 ∧ rg (A 4 b) 999 ∧ rg (A 5 b) 240 ∧ rg (A 2 b) 9 ∧ rg (A 6 b) 2 ∧ (A 6 b ≠ 0 → rg (A 7 b) 20000) := h.2.2.2.2.2.2.1
theorem JX.lk {z : Nat} {σ : th_S} {Z : th_M} {B U ω : Nat → Nat} {n nt : Nat} {μ A : th_M} (h : JX z σ Z B U ω n nt μ A) : μ (z + 2) 4 = A 0 8 ∧ μ (z + 2) 5 = A 0 9 ∧ μ (z + 2) 6 = A 0 11 ∧ μ (z + 2) 7 = A 0 12 ∧ μ (z + 2) 8 = A 0 13 ∧ μ (z + 2) 9 = A 0 10 ∧ μ (z + 2) 10 = A 0 14 ∧ μ (z + 2) 11 = A 0 18 := h.2.2.2.2.2.2.2.1
theorem JX.rl {z : Nat} {σ : th_S} {Z : th_M} {B U ω : Nat → Nat} {n nt : Nat} {μ A : th_M} (h : JX z σ Z B U ω n nt μ A) : rg (A 0 8) 47 ∧ rg (A 0 9) 9 ∧ rg (A 0 10) 9999 ∧ rg (A 0 11) 6 ∧ rg (A 0 12) 9 ∧ rg (A 0 13) 20 ∧ A 0 11 ≠ 0 ∧ A 0 12 ≠ 0 := h.2.2.2.2.2.2.2.2.1
theorem JX.tp {z : Nat} {σ : th_S} {Z : th_M} {B U ω : Nat → Nat} {n nt : Nat} {μ A : th_M} (h : JX z σ Z B U ω n nt μ A) : ∃ m, m ≤ 160 ∧ A 0 15 = nI m ∧ μ (z + 4) 1 = nI m ∧ ∀ i, i < m → μ (z + 5) i = A 8 i ∧ rg (A 8 i) 255 := h.2.2.2.2.2.2.2.2.2.1
theorem JX.st {z : Nat} {σ : th_S} {Z : th_M} {B U ω : Nat → Nat} {n nt : Nat} {μ A : th_M} (h : JX z σ Z B U ω n nt μ A) : ∀ i, i < 4 → μ (z + (15 + 2 * i)) 1 = A 17 i ∧ (A 17 i = -1 ∨ (rg (A 17 i) 2 ∧ ∃ m, m ≤ 40 ∧ A 18 i = nI m ∧ μ (z + (15 + 2 * i)) 2 = nI m ∧ ∀ k, k < m → μ (z + (16 + 2 * i)) k = A 19 (40 * i + k))) := h.2.2.2.2.2.2.2.2.2.2.1
theorem JX.xt {z : Nat} {σ : th_S} {Z : th_M} {B U ω : Nat → Nat} {n nt : Nat} {μ A : th_M} (h : JX z σ Z B U ω n nt μ A) : μ z 7 = nI nt := h.2.2.2.2.2.2.2.2.2.2.2.1
theorem JX.at {z : Nat} {σ : th_S} {Z : th_M} {B U ω : Nat → Nat} {n nt : Nat} {μ A : th_M} (h : JX z σ Z B U ω n nt μ A) : A 0 17 = nI nt := h.2.2.2.2.2.2.2.2.2.2.2.2.1
theorem JX.ru {z : Nat} {σ : th_S} {Z : th_M} {B U ω : Nat → Nat} {n nt : Nat} {μ A : th_M} (h : JX z σ Z B U ω n nt μ A) : ∃ r, r < nt ∧ A 0 18 = nI r := h.2.2.2.2.2.2.2.2.2.2.2.2.2.1
theorem JX.cd {z : Nat} {σ : th_S} {Z : th_M} {B U ω : Nat → Nat} {n nt : Nat} {μ A : th_M} (h : JX z σ Z B U ω n nt μ A) : ∀ t, t < nt → ∃ e0 e1 e2, e0 ≤ e1 ∧ e1 ≤ e2 ∧ σ.2.1 (U t + 1) = e2 ∧ μ (U t + 2) 0 = nI e0 ∧ μ (U t + 2) 1 = nI e1 ∧ μ (U t + 2) 2 = nI e2 ∧ A 10 (4 * t) = 0 ∧ A 10 (4 * t + 1) = nI e0 ∧ A 10 (4 * t + 2) = nI e1 ∧ A 10 (4 * t + 3) = nI e2 ∧ (∀ i, i < e2 → μ (U t + 1) i = tk (A 9 (170 * t + i))) ∧ hg (fun i => A 9 (170 * t + i)) e0 0 0 ∧ hg (fun i => A 9 (170 * t + i)) (e1 - e0) e0 0 ∧ hg (fun i => A 9 (170 * t + i)) (e2 - e1) e1 0 := h.2.2.2.2.2.2.2.2.2.2.2.2.2.2.1
theorem JX.im {z : Nat} {σ : th_S} {Z : th_M} {B U ω : Nat → Nat} {n nt : Nat} {μ A : th_M} (h : JX z σ Z B U ω n nt μ A) : (A 0 33 = 0 ∧ μ z 4 = -1) ∨ (A 0 33 = 1 ∧ ∃ no, no ≤ n ∧ A 0 34 = nI no ∧ μ z 4 = nI no ∧ (μ (z + 3) 4 = A 16 42 ∧ μ (z + 3) 5 = A 16 43 ∧ μ (z + 3) 6 = A 16 45 ∧ μ (z + 3) 7 = A 16 46 ∧ μ (z + 3) 8 = A 16 47 ∧ μ (z + 3) 9 = A 16 44 ∧ μ (z + 3) 10 = A 16 48 ∧ μ (z + 3) 11 = A 16 49) ∧ (rg (A 16 42) 47 ∧ rg (A 16 43) 9 ∧ rg (A 16 44) 9999 ∧ rg (A 16 45) 6 ∧ rg (A 16 46) 9 ∧ rg (A 16 47) 20 ∧ A 16 45 ≠ 0 ∧ A 16 46 ≠ 0) ∧ (∃ r, r < nt ∧ A 16 49 = nI r) ∧ ∀ b, b < no → (μ (B b + 2) 0 = A 16 (6 * b + 0) ∧ μ (B b + 2) 1 = A 16 (6 * b + 1) ∧ μ (B b + 2) 2 = A 16 (6 * b + 2) ∧ μ (B b + 2) 3 = A 16 (6 * b + 3) ∧ μ (B b + 2) 4 = A 16 (6 * b + 4) ∧ μ (B b + 2) 5 = A 16 (6 * b + 5)) ∧ rg (A 16 (6 * b)) 47 ∧ rg (A 16 (6 * b + 1)) 999 ∧ rg (A 16 (6 * b + 2)) 240 ∧ rg (A 16 (6 * b + 3)) 9 ∧ rg (A 16 (6 * b + 4)) 2 ∧ (A 16 (6 * b + 4) ≠ 0 → rg (A 16 (6 * b + 5)) 20000)) := h.2.2.2.2.2.2.2.2.2.2.2.2.2.2.2
theorem JX.fo {z : Nat} {σ : th_S} {Z : th_M} {B U ω : Nat → Nat} {n nt : Nat} {μ A : th_M} (h : JX z σ Z B U ω n nt μ A) : μ (z + 13) = Z 21 := h.2.2.1.1
theorem JX.f0 {z : Nat} {σ : th_S} {Z : th_M} {B U ω : Nat → Nat} {n nt : Nat} {μ A : th_M} (h : JX z σ Z B U ω n nt μ A) : ∀ j, j < 7 → μ (z + 12) j = 0 := h.2.2.1.2
theorem jm_0 {z k : Nat} {Y μ A : th_M} (h : JM z Y μ A) (hk : ¬ scr 0 k) : μ (z + 27) k = A 0 k := h.1 0 k (by decide) hk
theorem jm_1 {z k : Nat} {Y μ A : th_M} (h : JM z Y μ A) : μ (z + 28) k = A 1 k := h.1 1 k (by decide) (by simp [scr])
theorem jm_2 {z k : Nat} {Y μ A : th_M} (h : JM z Y μ A) : μ (z + 29) k = A 2 k := h.1 2 k (by decide) (by simp [scr])
theorem jm_3 {z k : Nat} {Y μ A : th_M} (h : JM z Y μ A) : μ (z + 30) k = A 3 k := h.1 3 k (by decide) (by simp [scr])
theorem jm_4 {z k : Nat} {Y μ A : th_M} (h : JM z Y μ A) : μ (z + 31) k = A 4 k := h.1 4 k (by decide) (by simp [scr])
theorem jm_5 {z k : Nat} {Y μ A : th_M} (h : JM z Y μ A) : μ (z + 32) k = A 5 k := h.1 5 k (by decide) (by simp [scr])
theorem jm_6 {z k : Nat} {Y μ A : th_M} (h : JM z Y μ A) : μ (z + 33) k = A 6 k := h.1 6 k (by decide) (by simp [scr])
theorem jm_7 {z k : Nat} {Y μ A : th_M} (h : JM z Y μ A) : μ (z + 34) k = A 7 k := h.1 7 k (by decide) (by simp [scr])
theorem jm_8 {z k : Nat} {Y μ A : th_M} (h : JM z Y μ A) : μ (z + 35) k = A 8 k := h.1 8 k (by decide) (by simp [scr])
theorem jm_9 {z k : Nat} {Y μ A : th_M} (h : JM z Y μ A) : μ (z + 36) k = A 9 k := h.1 9 k (by decide) (by simp [scr])
theorem jm_10 {z k : Nat} {Y μ A : th_M} (h : JM z Y μ A) : μ (z + 37) k = A 10 k := h.1 10 k (by decide) (by simp [scr])
theorem jm_16 {z k : Nat} {Y μ A : th_M} (h : JM z Y μ A) : μ (z + 43) k = A 16 k := h.1 16 k (by decide) (by simp [scr])
theorem jm_17 {z k : Nat} {Y μ A : th_M} (h : JM z Y μ A) : μ (z + 44) k = A 17 k := h.1 17 k (by decide) (by simp [scr])
theorem jm_18 {z k : Nat} {Y μ A : th_M} (h : JM z Y μ A) : μ (z + 45) k = A 18 k := h.1 18 k (by decide) (by simp [scr])
theorem jm_19 {z k : Nat} {Y μ A : th_M} (h : JM z Y μ A) : μ (z + 46) k = A 19 k := h.1 19 k (by decide) (by simp [scr])
theorem jm_0_0 {z : Nat} {Y μ A : th_M} (h : JM z Y μ A) : μ (z + 27) 0 = A 0 0 := jm_0 h (by simp [scr])
theorem jm_0_8 {z : Nat} {Y μ A : th_M} (h : JM z Y μ A) : μ (z + 27) 8 = A 0 8 := jm_0 h (by simp [scr])
theorem jm_0_9 {z : Nat} {Y μ A : th_M} (h : JM z Y μ A) : μ (z + 27) 9 = A 0 9 := jm_0 h (by simp [scr])
theorem jm_0_10 {z : Nat} {Y μ A : th_M} (h : JM z Y μ A) : μ (z + 27) 10 = A 0 10 := jm_0 h (by simp [scr])
theorem jm_0_11 {z : Nat} {Y μ A : th_M} (h : JM z Y μ A) : μ (z + 27) 11 = A 0 11 := jm_0 h (by simp [scr])
theorem jm_0_12 {z : Nat} {Y μ A : th_M} (h : JM z Y μ A) : μ (z + 27) 12 = A 0 12 := jm_0 h (by simp [scr])
theorem jm_0_13 {z : Nat} {Y μ A : th_M} (h : JM z Y μ A) : μ (z + 27) 13 = A 0 13 := jm_0 h (by simp [scr])
theorem jm_0_14 {z : Nat} {Y μ A : th_M} (h : JM z Y μ A) : μ (z + 27) 14 = A 0 14 := jm_0 h (by simp [scr])
theorem jm_0_15 {z : Nat} {Y μ A : th_M} (h : JM z Y μ A) : μ (z + 27) 15 = A 0 15 := jm_0 h (by simp [scr])
theorem jm_0_17 {z : Nat} {Y μ A : th_M} (h : JM z Y μ A) : μ (z + 27) 17 = A 0 17 := jm_0 h (by simp [scr])
theorem jm_0_18 {z : Nat} {Y μ A : th_M} (h : JM z Y μ A) : μ (z + 27) 18 = A 0 18 := jm_0 h (by simp [scr])
theorem jm_0_33 {z : Nat} {Y μ A : th_M} (h : JM z Y μ A) : μ (z + 27) 33 = A 0 33 := jm_0 h (by simp [scr])
theorem jm_0_34 {z : Nat} {Y μ A : th_M} (h : JM z Y μ A) : μ (z + 27) 34 = A 0 34 := jm_0 h (by simp [scr])
theorem JM.w {z p k : Nat} {v : Int32} {Y μ A : th_M} (h : JM z Y μ A) (hp : p ≤ 20 ∧ p ≠ 15) : JM z Y (th_w μ (z + (27 + p)) k v) (th_w A p k v) := by
  refine ⟨fun q j hq hs => ?_, fun q hq => ?_⟩
  · rw [th_w_at, th_w_at, h.1 q j hq hs]
    have e : (z + (27 + q) = z + (27 + p) ∧ j = k) ↔ (q = p ∧ j = k) := by omega
    by_cases c : q = p ∧ j = k
    · rw [if_pos c, if_pos (e.mpr c)]
    · rw [if_neg c, if_neg (fun x => c (e.mp x))]
  · rw [th_w_ne _ _ (by omega)]; exact h.2 q hq
theorem JM.s {z p k : Nat} {v : Int32} {Y μ A : th_M} (h : JM z Y μ A) (hp : p ≤ 20 ∧ p ≠ 15) (hs : scr p k) : JM z Y (th_w μ (z + (27 + p)) k v) A := by
  refine ⟨fun q j hq hn => ?_, fun q hq => ?_⟩
  · rw [th_w_at, if_neg, h.1 q j hq hn]
    rintro ⟨c1, c2⟩
    have e : q = p := by omega
    subst e; subst c2
    exact hn hs
  · rw [th_w_ne _ _ (by omega)]; exact h.2 q hq
theorem JM.as {z : Nat} {Y μ A A' : th_M} (h : JM z Y μ A) (e : ∀ p k, p ≤ 20 → ¬ scr p k → A p k = A' p k) : JM z Y μ A' := ⟨fun p k hp hs => by rw [h.1 p k hp hs, e p k hp hs], h.2⟩
