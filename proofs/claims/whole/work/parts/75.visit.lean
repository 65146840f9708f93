/-! a visit, on the class's sets -/
section VISIT
variable {T : Tw} {N : Nw} {night : Int}
/-- sets that an errand may have: what is fetched, what of it is brought -/
def FB (T : Tw) (N : Nw) (night : Int) (F B : Nat) : Prop := F < 64 ∧ B < 64 ∧ (∀ d, F.testBit d = true → d < tD T ∧ heN T N night d ≠ tFo T d) ∧ ∀ d, B.testBit d = true → F.testBit d = true
def vF2 (T : Tw) (N : Nw) (night : Int) (p F : Nat) : Nat := F ||| mkN (feB T N night p) (tD T)
def vB2 (T : Tw) (N : Nw) (night : Int) (p F B : Nat) : Nat := B ||| (F &&& mkN (brB T N night p) (tD T))
def cdT (T : Tw) (N : Nw) (night : Int) (F B : Nat) : Nat := cdN (heN T N night) (tFo T) (tD T) F B
theorem fe_tb (p d : Nat) : (mkN (feB T N night p) (tD T)).testBit d = true ↔ d < tD T ∧ heN T N night d ≠ tFo T d ∧ heN T N night d = p := by
  rw [mk_tb]; unfold feB asN; simp
theorem br_tb (p d : Nat) : (mkN (brB T N night p) (tD T)).testBit d = true ↔ d < tD T ∧ heN T N night d ≠ tFo T d ∧ tFo T d = p := by
  rw [mk_tb]; unfold brB asN; simp
theorem FB.vis {F B : Nat} (hD : tD T ≤ 6) (h : FB T N night F B) (p : Nat) : FB T N night (vF2 T N night p F) (vB2 T N night p F B) := by
  obtain ⟨h1, h2, h3, h4⟩ := h
  have m1 := mk_lt (feB T N night p) (tD T) hD
  refine ⟨Nat.or_lt_two_pow (n := 6) h1 m1, Nat.or_lt_two_pow (n := 6) h2 (Nat.lt_of_le_of_lt Nat.and_le_left h1), fun d hd => ?_, fun d hd => ?_⟩
  · unfold vF2 at hd
    rw [Nat.testBit_or, Bool.or_eq_true] at hd
    rcases hd with hd | hd
    · exact h3 d hd
    · have := (fe_tb p d).1 hd; exact ⟨this.1, this.2.1⟩
  · unfold vB2 at hd
    unfold vF2
    rw [Nat.testBit_or, Nat.testBit_and, Bool.or_eq_true, Bool.and_eq_true] at hd
    rw [Nat.testBit_or, Bool.or_eq_true]
    rcases hd with hd | hd
    · exact Or.inl (h4 d hd)
    · exact Or.inl hd.1
theorem FB.be {F B : Nat} (h : FB T N night F B) (p : Nat) : beN (heN T N night) (tFo T) (cdT T N night F B) p (tD T) = cdT T N night (vF2 T N night p F) (vB2 T N night p F B) :=
  cd_be _ _ (fun d hd => by rw [fe_tb]; exact ⟨fun x => x.2, fun x => ⟨hd, x⟩⟩) (fun d hd => by rw [br_tb]; exact ⟨fun x => x.2, fun x => ⟨hd, x⟩⟩) (fun d _ => h.2.2.2 d)
theorem FB.same {F B : Nat} (hD : tD T ≤ 6) (h : FB T N night F B) (p : Nat) : beN (heN T N night) (tFo T) (cdT T N night F B) p (tD T) = cdT T N night F B ↔ vF2 T N night p F = F ∧ vB2 T N night p F B = B := by
  rw [h.be p]
  have hv := h.vis hD p
  constructor
  · intro e
    have := cd_eq (heN T N night) (tFo T) (D := tD T) (F := F) (B := B) (F2 := vF2 T N night p F) (B2 := vB2 T N night p F B) (fun d hd => by unfold vF2; rw [Nat.testBit_or, hd]; rfl) (fun d hd => by unfold vB2; rw [Nat.testBit_or, hd]; rfl) (fun d hd => by
      rcases hd with hd | hd
      · exact hv.2.2.1 d hd
      · exact hv.2.2.1 d (hv.2.2.2 d hd)) e.symm
    exact ⟨this.1.symm, this.2.symm⟩
  · rintro ⟨e1, e2⟩
    rw [e1, e2]
theorem FB.th {F B : Nat} (hD : tD T ≤ 6) (h : FB T N night F B) : th3 F + th3 B + bgC T N night = cdT T N night F B :=
  cd_th (heN T N night) (tFo T) hD h.1 h.2.1 (fun d hd => by
    rcases hd with hd | hd
    · exact h.2.2.1 d hd
    · exact h.2.2.1 d (h.2.2.2 d hd))
end VISIT
