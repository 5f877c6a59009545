theorem bit_z : ∀ x, x < 1024 → ∀ i, i < 10 → ((Int32.ofNat x >>> (Int32.ofNat i &&& 31)) &&& 1 = 0 ↔ x.testBit i = false) := by decide +kernel
theorem bit_s : ∀ x, x < 1024 → ∀ i, i < 10 → (Int32.ofNat x ||| ((1 : Int32) <<< (Int32.ofNat i &&& 31))) = Int32.ofNat (x ||| 2 ^ i) := by decide +kernel
