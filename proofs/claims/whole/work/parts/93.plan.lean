/-! the class's plan: the table is right for all that may be -/
section PLAN
variable {s s1 : St} {T : Tw} {N : Nw} {night : Int}
/-- one who is at p has fetched and brought there what could be -/
def mayB (T : Tw) (N : Nw) (night : Int) (F B p : Nat) : Prop := mkN (feB T N night p) (tD T) &&& F = mkN (feB T N night p) (tD T) ∧ (mkN (brB T N night p) (tD T) &&& F) &&& B = mkN (brB T N night p) (tD T) &&& F
/-- the table is right where R says -/
def LTb (s : St) (T : Tw) (N : Nw) (night : Int) (R : Nat → Nat → Nat → Prop) : Prop := ∀ F B p, FB T N night F B → p < tP T → mayB T N night F B p → R F B p → gI s 54 ((th3 F + th3 B) * 6 + p) = V2 T N night F B (nHo N p)
theorem or_self_and (a b : Nat) : b &&& (a ||| b) = b := by
  apply Nat.eq_of_testBit_eq; intro i
  simp only [Nat.testBit_and, Nat.testBit_or]
  cases a.testBit i <;> cases b.testBit i <;> rfl
theorem may_vis {F B : Nat} (p : Nat) : mayB T N night (vF2 T N night p F) (vB2 T N night p F B) p := by
  refine ⟨or_self_and _ _, ?_⟩
  apply Nat.eq_of_testBit_eq; intro i
  have h1 := fe_tb (T := T) (N := N) (night := night) p i
  have h2 := br_tb (T := T) (N := N) (night := night) p i
  unfold vF2 vB2
  simp only [Nat.testBit_and, Nat.testBit_or]
  have h3 : ¬ ((mkN (feB T N night p) (tD T)).testBit i = true ∧ (mkN (brB T N night p) (tD T)).testBit i = true) := fun z => by
    have a := h1.1 z.1
    have b := h2.1 z.2
    exact a.2.1 (a.2.2.trans b.2.2.symm)
  generalize (mkN (feB T N night p) (tD T)).testBit i = x at *
  generalize (mkN (brB T N night p) (tD T)).testBit i = y at *
  cases x <;> cases y <;> cases F.testBit i <;> cases B.testBit i <;> simp_all
theorem LTb.lf {F B : Nat} {R : Nat → Nat → Nat → Prop} (hD : tD T ≤ 6) (h : FB T N night F B) (hL : LTb s T N night R) (hR : ∀ F2 B2 p, F < F2 ∨ (F2 = F ∧ B < B2) → R F2 B2 p) : LFb s T N night F B := by
  intro p hp hne
  refine hL _ _ p (h.vis hD p) hp (may_vis p) (hR _ _ _ ?_)
  have l1 : F ≤ vF2 T N night p F := Nat.left_le_or
  have l2 : B ≤ vB2 T N night p F B := Nat.left_le_or
  omega
theorem EC.f54 {n : Nat} (hE : EC s T N night n) (hf : Fr (fun a => a = 54) s s1) : EC s1 T N night n := by
  unfold EC at hE ⊢
  rw [hf.nu (a := 50) (by decide)]
  refine ⟨hE.1, fun p hp => ?_⟩
  rw [hf.nu (a := 52) (by decide), hf.nu (a := 53) (by decide)]
  exact hE.2 p hp
theorem c_work {F B : Nat} {R : Nat → Nat → Nat → Prop} (hW : WC T N s) (hE : EC s T N night (tD T)) (h3 : ∀ x : Nat, x < 64 → gI s 51 x = (th3 x : Int)) (h : FB T N night F B) (hL : LTb s T N night R) (hR : ∀ F2 B2 p, F < F2 ∨ (F2 = F ∧ B < B2) → R F2 B2 p) :
    ∃ s1, X0_workOut s 50 31 F B = some (0, s1) ∧ Fr (fun a => a = 54) s s1 ∧ LTb s1 T N night (fun F2 B2 p => R F2 B2 p ∨ (F2 = F ∧ B2 = B)) := by
  have t5 := hW.2.1.1.2.2.2.2.1
  have t6 := hW.2.1.1.2.2.2.2.2.1
  unfold X0_workOut X0_workOut_b3
  refine iter_inv (Q := fun G => ∃ s1, G = some (0, s1) ∧ Fr (fun a => a = 54) s s1 ∧ LTb s1 T N night (fun F2 B2 p => R F2 B2 p ∨ (F2 = F ∧ B2 = B)))
    (fun (k : Nat) (a : St × Int × Int × Int × Int × Int) => ∃ s2, a = (s2, 50, 31, (F : Int), (B : Int), (k : Int)) ∧ Fr (fun a => a = 54) s s2 ∧ LTb s2 T N night (fun F2 B2 p => R F2 B2 p ∨ (F2 = F ∧ B2 = B ∧ p < k)))
    (tP T) FU (s, 50, 31, (F : Int), (B : Int), 0) (by unfold FU; omega) ⟨s, rfl, Fr.refl _ s, fun F2 B2 p q1 q2 q3 q4 => hL F2 B2 p q1 q2 q3 (by
      rcases q4 with q | q
      · exact q
      · exact absurd q.2.2 (Nat.not_lt_zero _))⟩ (fun k hk a ha => ?_) (fun a ha rec => ?_)
  · obtain ⟨s2, rfl, hf2, hL2⟩ := ha
    have hW2 := hW.cs (hf2.mono (fun a ha => by unfold cS; omega))
    have hS := hW2.1
    have hE2 := hE.f54 hf2
    have h32 : ∀ x : Nat, x < 64 → gI s2 51 x = (th3 x : Int) := fun x hx => (hf2.nu (by decide)).trans (h3 x hx)
    have c2 := hW2.2.2.2.1.1.2.2.1
    have g1 : ¬ tP T ≤ k := by omega
    have g6 : (k : Int) < 6 := by omega
    have ef := (hE2.2 k (by omega)).1
    have eb := (hE2.2 k (by omega)).2
    have m1 := mk_lt (feB T N night k) (tD T) t6
    have m2 := mk_lt (brB T N night k) (tD T) t6
    have u1 := sub64 _ m1 F h.1
    have o2 : and32 ((mkN (brB T N night k) (tD T) : Nat) : Int) (F : Int) = ((mkN (brB T N night k) (tD T) &&& F : Nat) : Int) := and64 _ m2 _ h.1
    have u2 := sub64 (mkN (brB T N night k) (tD T) &&& F) (Nat.lt_of_le_of_lt Nat.and_le_left m2) B h.2.1
    have hw := wk1 (k := k) (by omega)
    by_cases y : mayB T N night F B k
    · have v1 := u1.2 y.1
      have v2 := u2.2 y.2
      have few := c_few (a := k) hW2 hE2 h32 h hk (hL2.lf t6 h (fun F2 B2 p q => Or.inl (hR F2 B2 p q)))
      have ei := idx_e (p := k) hS h32 h.1 h.2.1 (by clear hw; omega)
      have l1 := th_le _ h.1
      have l2 := th_le _ h.2.1
      have gi : (((th3 F + th3 B) * 6 + k : Nat) : Int) < 4374 := by clear hw; omega
      refine ⟨(pI s2 54 ((th3 F + th3 B) * 6 + k) (V2 T N night F B (nHo N k)), 50, 31, (F : Int), (B : Int), ((k + 1 : Nat) : Int)), ⟨_, rfl, hf2.trans (Fr_pI rfl), fun F2 B2 p q1 q2 q3 q4 => ?_⟩, fun rec => ?_⟩
      · rw [gI_pI]
        by_cases z : (th3 F2 + th3 B2) * 6 + p = (th3 F + th3 B) * 6 + k
        · rw [if_pos ⟨rfl, z⟩]
          have zp : p = k ∧ th3 F2 + th3 B2 = th3 F + th3 B := by clear hw; omega
          have e1 := h.th t6
          have e2 := q1.th t6
          have ec : cdT T N night F2 B2 = cdT T N night F B := by rw [← e1, ← e2, zp.2]
          unfold V2
          rw [zp.1, ec]
        · rw [if_neg (fun w => z w.2)]
          refine hL2 F2 B2 p q1 q2 q3 ?_
          rcases q4 with q | ⟨a1, a2, a3⟩
          · exact Or.inl q
          · refine Or.inr ⟨a1, a2, ?_⟩
            rw [a1, a2] at z
            clear hw
            omega
      · generalize (th3 F + th3 B) * 6 + k = ix at *
        simp [X0_workOut_b3_body, X0_workOut_b50, X0_workOut_b79, tF, isK, shF hS, c2, g1, g6, ef, eb, o2, v1, v2, ei, few, gi, hw]
    · refine ⟨(s2, 50, 31, (F : Int), (B : Int), ((k + 1 : Nat) : Int)), ⟨_, rfl, hf2, fun F2 B2 p q1 q2 q3 q4 => ?_⟩, fun rec => ?_⟩
      · refine hL2 F2 B2 p q1 q2 q3 ?_
        rcases q4 with q | ⟨a1, a2, a3⟩
        · exact Or.inl q
        · by_cases z : p = k
          · rw [a1, a2, z] at q3; exact absurd q3 y
          · exact Or.inr ⟨a1, a2, by clear hw; omega⟩
      · by_cases v1 : and32 ((mkN (feB T N night k) (tD T) : Nat) : Int) (xor32 (F : Int) (-1)) = 0
        · have v2 : ¬ and32 ((mkN (brB T N night k) (tD T) &&& F : Nat) : Int) (xor32 (B : Int) (-1)) = 0 := fun z => y ⟨u1.1 v1, u2.1 z⟩
          simp [X0_workOut_b3_body, X0_workOut_b49, X0_workOut_b50, X0_workOut_b79, tF, isK, shF hS, c2, g1, g6, ef, eb, o2, v1, v2, hw]
        · simp [X0_workOut_b3_body, X0_workOut_b49, X0_workOut_b50, X0_workOut_b79, tF, isK, shF hS, c2, g1, g6, ef, eb, v1, hw]
  · obtain ⟨s2, rfl, hf2, hL2⟩ := ha
    have hW2 := hW.cs (hf2.mono (fun a ha => by unfold cS; omega))
    have hS := hW2.1
    have c2 := hW2.2.2.2.1.1.2.2.1
    refine ⟨s2, ?_, hf2, fun F2 B2 p q1 q2 q3 q4 => hL2 F2 B2 p q1 q2 q3 ?_⟩
    · simp [X0_workOut_b3_body, tF, isK, shF hS, c2]
    · rcases q4 with q | ⟨a1, a2⟩
      · exact Or.inl q
      · exact Or.inr ⟨a1, a2, q2⟩
end PLAN
