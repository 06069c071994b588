/-! Part 9qz: bits of kinds. -/
theorem kb_ok : ∀ k : Nat, k < 10 → ∀ n : Nat, n < 1024 → 0 ≤ ior32 (n : Int) (ishl32 1 (k : Int)) ∧ ior32 (n : Int) (ishl32 1 (k : Int)) < 1024 := by decide +kernel
theorem pcn_40 : ∀ n : Nat, n < 1024 → (pcn n 10 : Int) = bits40 (n : Int) := by decide +kernel
