/-! the fewest still to walk, on the class -/
section FEWEST
variable {s : St} {T : Tw} {N : Nw} {night : Int}
def V2 (T : Tw) (N : Nw) (night : Int) (F B : Nat) (h : Int) : Int := vV (heN T N night) (tFo T) (nHo N) (tH T) (tP T) (tD T) (cdT T N night F B) h
theorem as_tb (d : Nat) : (mkN (asN T N night) (tD T)).testBit d = true ↔ d < tD T ∧ heN T N night d ≠ tFo T d := by
  rw [mk_tb]; unfold asN; simp
theorem FB.full {F B : Nat} (h : FB T N night F B) : B = mkN (asN T N night) (tD T) ↔ cdT T N night F B + 1 = 3 ^ tD T := by
  have vf := vl_full (tD T)
  constructor
  · intro e
    have : cdT T N night F B = vl (fun _ => 2) (tD T) := vl_cg (tD T) (fun d hd => by
      unfold cdf bi
      by_cases q : heN T N night d = tFo T d
      · rw [if_pos q]
      · have b1 : B.testBit d = true := by rw [e, as_tb]; exact ⟨hd, q⟩
        rw [if_neg q, if_pos b1, if_pos (h.2.2.2 d b1)])
    rw [this]; exact vf
  · intro e
    have e2 : cdT T N night F B = vl (fun _ => 2) (tD T) := by omega
    refine Nat.eq_of_testBit_eq (fun d => ?_)
    rw [Bool.eq_iff_iff, as_tb]
    constructor
    · intro b; exact h.2.2.1 d (h.2.2.2 d b)
    · rintro ⟨d1, d2⟩
      have g1 : dg (cdT T N night F B) d = _ := cd_dg (heN T N night) (tFo T) F B d1
      rw [e2, vl_dg (f := fun _ => 2) (fun _ => Nat.le_refl _) (tD T) d d1] at g1
      unfold cdf bi at g1
      rw [if_neg d2] at g1
      by_cases b : B.testBit d = true
      · exact b
      · rw [if_neg b] at g1
        split at g1 <;> omega
end FEWEST
