/-! ===== a table ===== -/
theorem tb_lo : ∀ s, s < 256 → ∀ j, j < 256 → ((nI s &&& (nI j ^^^ (-1 : Int32))) = 0 ↔ s &&& j = s) := by decide +kernel
