/-! the class collects who is heard astray -/
def asN (T : Tw) (N : Nw) (night : Int) (d : Nat) : Bool := decide (heN T N night d ≠ tFo T d)
def feB (T : Tw) (N : Nw) (night : Int) (p d : Nat) : Bool := asN T N night d && decide (heN T N night d = p)
def brB (T : Tw) (N : Nw) (night : Int) (p d : Nat) : Bool := asN T N night d && decide (tFo T d = p)
/-- the errand's sets after n dead -/
def EC (s : St) (T : Tw) (N : Nw) (night : Int) (n : Nat) : Prop := gI s 50 4 = ((mkN (asN T N night) n : Nat) : Int) ∧ ∀ p, p < 6 → gI s 52 p = ((mkN (feB T N night p) n : Nat) : Int) ∧ gI s 53 p = ((mkN (brB T N night p) n : Nat) : Int)
section COLLECT
variable {s : St} {T : Tw} {N : Nw} {night : Int}
theorem mk_s (f : Nat → Bool) (n : Nat) : mkN f (n + 1) = if f n = true then mkN f n ||| 2 ^ n else mkN f n := rfl
theorem c_collect (hW : WC T N s) (hn : 0 ≤ night ∧ night ≤ 99) (h0 : EC s T N night 0) : ∃ s1, X0_collect_b35 FU s 50 31 night 0 = some (0, s1) ∧ Fr (fun a => a = 50 ∨ a = 52 ∨ a = 53) s s1 ∧ EC s1 T N night (tD T) := by
  have t5 := hW.2.1.1.2.2.2.2.1
  have t6 := hW.2.1.1.2.2.2.2.2.1
  unfold X0_collect_b35
  refine iter_inv (Q := fun F => ∃ s1, F = some (0, s1) ∧ Fr (fun a => a = 50 ∨ a = 52 ∨ a = 53) s s1 ∧ EC s1 T N night (tD T))
    (fun (d : Nat) (a : St × Int × Int × Int × Int) => ∃ s2, a = (s2, 50, 31, night, (d : Int)) ∧ Fr (fun a => a = 50 ∨ a = 52 ∨ a = 53) s s2 ∧ EC s2 T N night d)
    (tD T) FU (s, 50, 31, night, 0) (by unfold FU; omega) ⟨s, rfl, Fr.refl _ s, h0⟩ (fun d hd a ha => ?_) (fun a ha rec => ?_)
  · obtain ⟨s2, rfl, hf2, e4, ep⟩ := ha
    have hW2 := hW.cs (hf2.mono (fun a ha => by unfold cS; omega))
    have hS := hW2.1
    have el := w_lis hW2 hd hn
    have en := heN_e hW2.2.1 hW2.2.2.1 night d
    rw [← en.1] at el
    have eo := (hW2.2.2.2.1.2.1 d hd).2
    have fo6 := (hW2.2.1.2.1 d hd).2.2
    have c3 := hW2.2.2.2.1.1.2.2.2.1
    have g1 : ¬ tD T ≤ d := by omega
    have g6 : (d : Int) < 6 := by omega
    have gn : ¬ ((heN T N night d : Nat) : Int) < 0 := by omega
    have gh : ((heN T N night d : Nat) : Int) < 6 := by omega
    have gf : ((tFo T d : Nat) : Int) < 6 := by omega
    have hw := wk1 (k := d) (by omega)
    have iq : ((heN T N night d : Nat) : Int) = ((tFo T d : Nat) : Int) ↔ heN T N night d = tFo T d := by clear hw; omega
    by_cases y : heN T N night d = tFo T d
    · have ea : asN T N night d = false := by unfold asN; simp [y]
      refine ⟨(s2, 50, 31, night, ((d + 1 : Nat) : Int)), ⟨s2, rfl, hf2, ?_, fun p hp => ?_⟩, fun rec => ?_⟩
      · rw [mk_s, ea]; exact e4
      · have k1 : feB T N night p d = false := by unfold feB; rw [ea]; rfl
        have k2 : brB T N night p d = false := by unfold brB; rw [ea]; rfl
        rw [mk_s, mk_s, k1, k2]; exact ep p hp
      · simp [X0_collect_b35_body, X0_collect_b115, tF, isK, shF hS, el, eo, c3, g1, g6, hw, y]
    · have ea : asN T N night d = true := by unfold asN; simp [y]
      have ps : 2 ^ d < 64 := Nat.pow_lt_pow_right (n := 6) (by decide) (by clear hw; omega)
      have s1 := shlSix d (by clear hw; omega)
      have o1 := or64 _ (mk_lt (asN T N night) d (by clear hw; omega)) _ ps
      have o2 := or64 _ (mk_lt (feB T N night (heN T N night d)) d (by clear hw; omega)) _ ps
      have o3 := or64 _ (mk_lt (brB T N night (tFo T d)) d (by clear hw; omega)) _ ps
      have ef := (ep (heN T N night d) (by clear hw s1 o1 o2 o3; omega)).1
      have eb := (ep (tFo T d) (by clear hw s1 o1 o2 o3; omega)).2
      refine ⟨(pI (pI (pI s2 50 4 ((mkN (asN T N night) d ||| 2 ^ d : Nat) : Int)) 52 (heN T N night d) ((mkN (feB T N night (heN T N night d)) d ||| 2 ^ d : Nat) : Int)) 53 (tFo T d) ((mkN (brB T N night (tFo T d)) d ||| 2 ^ d : Nat) : Int), 50, 31, night, ((d + 1 : Nat) : Int)), ⟨_, rfl, ?_, ?_, fun p hp => ?_⟩, fun rec => ?_⟩
      · exact hf2.trans (((Fr_pI (Or.inl rfl)).trans (Fr_pI (Or.inr (Or.inl rfl)))).trans (Fr_pI (Or.inr (Or.inr rfl))))
      · rw [mk_s, if_pos ea]
        simp [gI_pI]
      · rw [mk_s, mk_s]
        have e5 := ep p hp
        by_cases x1 : heN T N night d = p <;> by_cases x2 : tFo T d = p
        · exact absurd (x1.trans x2.symm) y
        · have : ¬ p = tFo T d := fun q => x2 q.symm
          simp [gI_pI, feB, brB, ea, x1, x2, this, e5]
        · have : ¬ p = heN T N night d := fun q => x1 q.symm
          simp [gI_pI, feB, brB, ea, x1, x2, this, e5]
        · have q1 : ¬ p = heN T N night d := fun q => x1 q.symm
          have q2 : ¬ p = tFo T d := fun q => x2 q.symm
          simp [gI_pI, feB, brB, ea, x1, x2, q1, q2, e5]
      · have pc : ((2 ^ d : Nat) : Int) = (2 : Int) ^ d := by simp
        rw [pc] at s1 o1 o2 o3
        simp [X0_collect_b35_body, X0_collect_b115, tF, isK, shF hS, gI_pI, el, eo, c3, g1, g6, gn, gh, gf, hw, y, iq, s1, e4, ef, eb, o1, o2, o3]
  · obtain ⟨s2, rfl, hf2, hE⟩ := ha
    have hW2 := hW.cs (hf2.mono (fun a ha => by unfold cS; omega))
    have hS := hW2.1
    have c3 := hW2.2.2.2.1.1.2.2.2.1
    refine ⟨s2, ?_, hf2, hE⟩
    simp [X0_collect_b35_body, tF, isK, shF hS, c3]
end COLLECT
