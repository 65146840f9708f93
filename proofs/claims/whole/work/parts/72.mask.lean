/-! sets as numbers -/
def mkN (f : Nat → Bool) (n : Nat) : Nat := fo (fun d a => if f d = true then a ||| 2 ^ d else a) 0 n
theorem mk_tb (f : Nat → Bool) (d : Nat) : ∀ n, (mkN f n).testBit d = (decide (d < n) && f d)
  | 0 => by
    show (0 : Nat).testBit d = _
    simp
  | n + 1 => by
    have ih := mk_tb f d n
    show (if f n = true then mkN f n ||| 2 ^ n else mkN f n).testBit d = _
    by_cases e : d = n
    · subst e
      by_cases q : f d = true
      · rw [if_pos q, Nat.testBit_or, ih, Nat.testBit_two_pow]
        simp [q]
      · rw [if_neg q, ih]
        simp [q]
    · have e2 : ¬ n = d := fun x => e x.symm
      have e3 : decide (d < n + 1) = decide (d < n) := decide_eq_decide.mpr (by omega)
      rw [e3, ← ih]
      by_cases q : f n = true
      · rw [if_pos q, Nat.testBit_or, Nat.testBit_two_pow]
        simp [e2]
      · rw [if_neg q]
theorem mk_lt (f : Nat → Bool) : ∀ n, n ≤ 6 → mkN f n < 64
  | 0, _ => by show 0 < 64; decide
  | n + 1, h => by
    have ih := mk_lt f n (by omega)
    show (if f n = true then mkN f n ||| 2 ^ n else mkN f n) < 64
    split
    · exact Nat.or_lt_two_pow (n := 6) ih (Nat.pow_lt_pow_right (by decide) (by omega))
    · exact ih
theorem or64 : ∀ a : Nat, a < 64 → ∀ b : Nat, b < 64 → or32 (a : Int) (b : Int) = ((a ||| b : Nat) : Int) := by decide +kernel
theorem and64 : ∀ a : Nat, a < 64 → ∀ b : Nat, b < 64 → and32 (a : Int) (b : Int) = ((a &&& b : Nat) : Int) := by decide +kernel
theorem shlSix : ∀ k : Nat, k < 6 → shl32 1 (k : Int) = ((2 ^ k : Nat) : Int) := by decide +kernel
theorem sub64 : ∀ a : Nat, a < 64 → ∀ b : Nat, b < 64 → (and32 (a : Int) (xor32 (b : Int) (-1)) = 0 ↔ a &&& b = a) := by decide +kernel
