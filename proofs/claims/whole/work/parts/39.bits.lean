/-! ===== bits ===== -/
def bc4 (d : Nat) : Nat := (d + d / 65536) &&& 63
def bc3 (c : Nat) : Nat := bc4 (c + c / 256)
def bc2 (b : Nat) : Nat := bc3 ((b + b / 16) &&& 252645135)
def bc1 (a : Nat) : Nat := bc2 ((a &&& 858993459) + ((a / 4) &&& 858993459))
def bc0 (x : Nat) : Nat := bc1 (x - ((x / 2) &&& 1431655765))
def pc0 : Nat → Nat → Nat
  | 0, _ => 0
  | k + 1, x => x % 2 + pc0 k (x / 2)
theorem bc_a : ∀ a, a < 64 → ∀ b, b < 256 → bc0 (256 * a + b) = pc0 16 (256 * a + b) := by decide +kernel
theorem bc_b : ∀ a, a < 64 → ∀ b, b < 256 → bc0 (256 * (a + 64) + b) = pc0 16 (256 * (a + 64) + b) := by decide +kernel
theorem bc_c : ∀ a, a < 64 → ∀ b, b < 256 → bc0 (256 * (a + 128) + b) = pc0 16 (256 * (a + 128) + b) := by decide +kernel
theorem bc_d : ∀ a, a < 64 → ∀ b, b < 256 → bc0 (256 * (a + 192) + b) = pc0 16 (256 * (a + 192) + b) := by decide +kernel
theorem bc_eq {x : Nat} (h : x < 65536) : bc0 x = pc0 16 x := by
  have e : x = 256 * (x / 256) + x % 256 := by omega
  have hb : x % 256 < 256 := by omega
  rw [e]
  rcases (show x / 256 < 64 ∨ (64 ≤ x / 256 ∧ x / 256 < 128) ∨ (128 ≤ x / 256 ∧ x / 256 < 192) ∨ (192 ≤ x / 256 ∧ x / 256 < 256) by omega) with h1 | h1 | h1 | h1
  · exact bc_a _ h1 _ hb
  · have := bc_b (x / 256 - 64) (by omega) _ hb
    rw [show x / 256 - 64 + 64 = x / 256 by omega] at this
    exact this
  · have := bc_c (x / 256 - 128) (by omega) _ hb
    rw [show x / 256 - 128 + 128 = x / 256 by omega] at this
    exact this
  · have := bc_d (x / 256 - 192) (by omega) _ hb
    rw [show x / 256 - 192 + 192 = x / 256 by omega] at this
    exact this
