/-! COUNTING BITS -/
def bcN (n : Nat) : Nat :=
  let x1 := n - ((n >>> 1) &&& 1431655765)
  let x2 := (x1 &&& 858993459) + ((x1 >>> 2) &&& 858993459)
  let x3 := (x2 + (x2 >>> 4)) &&& 252645135
  let x4 := x3 + (x3 >>> 8)
  let x5 := x4 + (x4 >>> 16)
  x5 &&& 63
def pcN (n : Nat) : Nat := n % 2 + n / 2 % 2 + n / 4 % 2 + n / 8 % 2 + n / 16 % 2 + n / 32 % 2 + n / 64 % 2 + n / 128 % 2
theorem bc_1 : ∀ a, a < 256 → ∀ b, b < 256 → Nat.beq (bcN (256 * a + b)) (pcN a + pcN b) = true := by decide +kernel
