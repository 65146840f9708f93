/-! the fewest still to walk: the class's loop -/
section FEWEST2
variable {s : St} {T : Tw} {N : Nw} {night : Int}
theorem min_e (s : St) (a b : Int) : JM_min s a b = some (if b < a then b else a, s) := by
  unfold JM_min JM_min_b10; split <;> rfl
theorem th_le : ∀ x : Nat, x < 64 → th3 x ≤ 364 := by decide +kernel
theorem idx_e {F B p : Nat} (hS : Sh s) (h3 : ∀ x : Nat, x < 64 → gI s 51 x = (th3 x : Int)) (hF : F < 64) (hB : B < 64) (hp : p < 6) : X0_indexOf s 50 F B p = some ((((th3 F + th3 B) * 6 + p : Nat) : Int), s) := by
  have a1 := th_le F hF
  have a2 := th_le B hB
  have e1 := h3 F hF
  have e2 := h3 B hB
  have g1 : (F : Int) < 64 := by omega
  have g3 : (B : Int) < 64 := by omega
  have w1 : w32 ((th3 F : Int) + (th3 B : Int)) = (th3 F : Int) + (th3 B : Int) := w32e (by omega)
  have w2 : w32 (((th3 F : Int) + (th3 B : Int)) * 6) = ((th3 F : Int) + (th3 B : Int)) * 6 := w32e (by clear w1; omega)
  have w3 : w32 (((th3 F : Int) + (th3 B : Int)) * 6 + (p : Int)) = ((th3 F : Int) + (th3 B : Int)) * 6 + (p : Int) := w32e (by clear w1 w2; omega)
  unfold X0_indexOf
  simp [tF, isK, shF hS, e1, e2, g1, g3, w1, w2, w3]
end FEWEST2
