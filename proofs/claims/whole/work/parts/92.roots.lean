/-! the roots, as both fill them: -1 everywhere, then k at k * k for k below 25 -/
def rtU : Nat → Nat → Int32
  | 0, _ => -1
  | m + 1, j => if j = m * m then nI m else rtU m j
theorem rtU_ok : ∀ j, j < 601 → rtU 25 j = qj (zRt j) := by decide +kernel
