/-! Integer.bitCount of a set of tests -/
def pcN (x : Nat) : Nat := cntB x.testBit 14
theorem bcC_0 : ∀ a, a < 128 → ∀ b, b < 128 → fJ6_bitCount_0f7a4 0 (nI (128 * a + b)) = some (nI (pcN (128 * a + b))) := by decide +kernel
theorem bcC {N x : Nat} (hx : x < 16384) : fJ6_bitCount_0f7a4 N (nI x) = some (nI (pcN x)) := by
  have := bcC_0 (x / 128) (by omega) (x % 128) (by omega)
  rw [show 128 * (x / 128) + x % 128 = x by omega] at this
  exact this
