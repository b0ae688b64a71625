/-! bits of a set of at most six -/
def pop (n : Nat) : Nat := n % 2 + n / 2 % 2 + n / 4 % 2 + n / 8 % 2 + n / 16 % 2 + n / 32 % 2
theorem pX9_bits : ∀ n, n < 64 → fX9_bits (nI n) = some (nI (pop n)) := by decide +kernel
theorem pJ6_bits : ∀ n, n < 64 → fJ6_bitCount_0f7a4 (nI n) = some (nI (pop n)) := by decide +kernel
/-- the k-th bit of n, as the machine asks for it -/
theorem bit_at : ∀ n, n < 64 → ∀ k, k < 6 → (nI n >>> (nI k &&& 31)) &&& 1 = nI (n / 2 ^ k % 2) := by decide +kernel
theorem bit_one : ∀ k, k < 6 → (1 : Int32) <<< (nI k &&& 31) = nI (2 ^ k) := by decide +kernel
theorem bit_or : ∀ a, a < 64 → ∀ b, b < 64 → nI a ||| nI b = nI (a ||| b) := by decide +kernel
theorem bit_and : ∀ a, a < 64 → ∀ b, b < 64 → nI a &&& nI b = nI (a &&& b) := by decide +kernel
