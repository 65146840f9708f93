/-! what is fetched and what is brought, as sets, against the codes in threes -/
def bi (x d : Nat) : Nat := if x.testBit d = true then 1 else 0
theorem bi_le (x d : Nat) : bi x d ≤ 1 := by unfold bi; split <;> omega
theorem th_vl : ∀ x : Nat, x < 64 → th3 x = vl (bi x) 6 := by decide +kernel
theorem vl_ext {f : Nat → Nat} {n : Nat} (h : ∀ d, n ≤ d → f d = 0) : ∀ k, vl f (n + k) = vl f n
  | 0 => rfl
  | k + 1 => by
    show vl f (n + k) + f (n + k) * 3 ^ (n + k) = _
    rw [h (n + k) (by omega), Nat.zero_mul, vl_ext h k, Nat.add_zero]
section SETS
variable (he of : Nat → Nat)
def cdf (F B d : Nat) : Nat := if he d = of d then 2 else bi F d + bi B d
def cdN (D F B : Nat) : Nat := vl (cdf he of F B) D
theorem cdf_le (F B d : Nat) : cdf he of F B d ≤ 2 := by
  have := bi_le F d
  have := bi_le B d
  unfold cdf
  split <;> omega
theorem cdN_lt (D F B : Nat) : cdN he of D F B < 3 ^ D := vl_lt (cdf_le he of F B) D
theorem cd_dg {D d : Nat} (F B : Nat) (hd : d < D) : dg (cdN he of D F B) d = cdf he of F B d := vl_dg (cdf_le he of F B) D d hd
/-- a visit: what waits there is fetched, what was fetched for it is brought -/
theorem cd_be {D F B fe br p : Nat} (hf : ∀ d, d < D → (fe.testBit d = true ↔ he d ≠ of d ∧ he d = p)) (hb : ∀ d, d < D → (br.testBit d = true ↔ he d ≠ of d ∧ of d = p)) (hBF : ∀ d, d < D → B.testBit d = true → F.testBit d = true) :
    beN he of (cdN he of D F B) p D = cdN he of D (F ||| fe) (B ||| (F &&& br)) := by
  rw [beN_vl he of p (cdN_lt he of D F B)]
  refine vl_cg D (fun d hd => ?_)
  have h1 := hf d hd
  have h2 := hb d hd
  have h3 := hBF d hd
  unfold ad1 adB
  rw [cd_dg he of F B hd]
  unfold cdf bi
  rw [Nat.testBit_or, Nat.testBit_or, Nat.testBit_and]
  by_cases e : he d = of d
  · simp [e]
  · generalize F.testBit d = a at *
    generalize B.testBit d = b at *
    generalize fe.testBit d = c at *
    generalize br.testBit d = g at *
    by_cases x : he d = p <;> by_cases y : of d = p <;> cases a <;> cases b <;> cases c <;> cases g <;> simp_all
theorem cd_eq {D F B F2 B2 : Nat} (hF : ∀ d, F.testBit d = true → F2.testBit d = true) (hB : ∀ d, B.testBit d = true → B2.testBit d = true) (hA : ∀ d, F2.testBit d = true ∨ B2.testBit d = true → d < D ∧ he d ≠ of d) (h : cdN he of D F B = cdN he of D F2 B2) : F = F2 ∧ B = B2 := by
  have key : ∀ d, F.testBit d = F2.testBit d ∧ B.testBit d = B2.testBit d := by
    intro d
    have f1 := hF d
    have f2 := hB d
    have f3 := hA d
    by_cases q : d < D ∧ he d ≠ of d
    · have e := cd_dg he of F B q.1
      rw [h, cd_dg he of F2 B2 q.1] at e
      unfold cdf bi at e
      rw [if_neg q.2, if_neg q.2] at e
      generalize F.testBit d = a at *
      generalize B.testBit d = b at *
      generalize F2.testBit d = c at *
      generalize B2.testBit d = g at *
      cases a <;> cases b <;> cases c <;> cases g <;> simp_all
    · have n3 : ¬ (F2.testBit d = true ∨ B2.testBit d = true) := fun x => q (f3 x)
      generalize F.testBit d = a at *
      generalize B.testBit d = b at *
      generalize F2.testBit d = c at *
      generalize B2.testBit d = g at *
      cases a <;> cases b <;> cases c <;> cases g <;> simp_all
  exact ⟨Nat.eq_of_testBit_eq (fun d => (key d).1), Nat.eq_of_testBit_eq (fun d => (key d).2)⟩
/-- the table's index -/
theorem cd_th {D F B : Nat} (hD : D ≤ 6) (hF : F < 64) (hB : B < 64) (hA : ∀ d, F.testBit d = true ∨ B.testBit d = true → d < D ∧ he d ≠ of d) : th3 F + th3 B + vl (fun d => if he d = of d then 2 else 0) D = cdN he of D F B := by
  have z : ∀ x, (∀ d, x.testBit d = true → d < D) → vl (bi x) 6 = vl (bi x) D := fun x hx => by
    have := vl_ext (f := bi x) (n := D) (fun d hd => by
      unfold bi
      exact if_neg (fun q => by have := hx d q; omega)) (6 - D)
    rw [show D + (6 - D) = 6 by omega] at this
    exact this
  rw [th_vl F hF, th_vl B hB, z F (fun d q => (hA d (Or.inl q)).1), z B (fun d q => (hA d (Or.inr q)).1), ← vl_add, ← vl_add]
  refine vl_cg D (fun d hd => ?_)
  have f3 := hA d
  unfold cdf bi
  by_cases e : he d = of d
  · have n1 : ¬ F.testBit d = true := fun q => (f3 (Or.inl q)).2 e
    have n2 : ¬ B.testBit d = true := fun q => (f3 (Or.inr q)).2 e
    rw [if_pos e, if_pos e, if_neg n1, if_neg n2]
  · rw [if_neg e, if_neg e, Nat.add_zero]
end SETS
