/-! ===== counting by taking the lowest away ===== -/
set_option maxRecDepth 100000 in
theorem sz_all : ∀ a : Nat, a < 4096 → 0 < a → (kI (a : Int) &&& (kI (a : Int) - kI 1)) = kI ((a &&& (a - 1) : Nat) : Int) ∧ pc (kI ((a &&& (a - 1) : Nat) : Int)) + 1 = pc (kI (a : Int)) := by decide +kernel
