section DC
theorem pc_sb : ∀ s, s < 128 → ∀ l, l < 128 → (∀ i, i < 7 → l.testBit i = true → s.testBit i = true) → pc l ≤ pc s := by decide +kernel
theorem dif_n : ∀ s, s < 128 → ∀ l, l < 128 → nI s &&& (nI l ^^^ (-1)) = nI (s ^^^ (s &&& l)) := by decide +kernel
theorem dif_lt : ∀ s, s < 128 → ∀ l, l < 128 → s ^^^ (s &&& l) < 128 := by decide +kernel
theorem bit_n : ∀ d, d < 128 → ∀ i, i < 7 → (nI d &&& jshl 1 (nI i) = 0 ↔ d.testBit i = false) := by decide +kernel
theorem sb_le : ∀ s, s < 128 → ∀ l, l < 128 → (∀ i, i < 7 → l.testBit i = true → s.testBit i = true) → l ≤ s := by decide +kernel
end DC
