/-! ===== sets of wishes as bits ===== -/
theorem zand_256 : ∀ x y : Fin 256, zand (x.val : Int) (y.val : Int) = ((x.val &&& y.val : Nat) : Int) := by decide +kernel
theorem zandn_256 : ∀ x y : Fin 256, zand (x.val : Int) (zxor (y.val : Int) (-1)) = ((x.val &&& (255 ^^^ y.val) : Nat) : Int) := by decide +kernel
theorem zor_256 : ∀ x y : Fin 256, zor (x.val : Int) (y.val : Int) = ((x.val ||| y.val : Nat) : Int) := by decide +kernel
theorem zshr_256 : ∀ (x : Fin 256) (i : Fin 8), zand (zshr (x.val : Int) (i.val : Int)) 1 = if x.val.testBit i.val = true then 1 else 0 := by decide +kernel
theorem zshl_8 : ∀ i : Fin 9, zshl 1 (i.val : Int) = ((2 ^ i.val : Nat) : Int) := by decide +kernel
