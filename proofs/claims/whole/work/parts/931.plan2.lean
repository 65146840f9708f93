/-! the plan, whole; the steps from a house -/
section PLAN2
variable {s s1 : St} {T : Tw} {N : Nw} {night : Int}
theorem FB.of {F B : Nat} (hD : tD T ≤ 6) (h1 : F &&& mkN (asN T N night) (tD T) = F) (h2 : B &&& F = B) : FB T N night F B := by
  have m := mk_lt (asN T N night) (tD T) hD
  have f64 : F < 64 := by rw [← h1]; exact Nat.lt_of_le_of_lt Nat.and_le_right m
  have b64 : B < 64 := by rw [← h2]; exact Nat.lt_of_le_of_lt Nat.and_le_right f64
  refine ⟨f64, b64, fun d hd => ?_, fun d hd => ?_⟩
  · rw [← h1, Nat.testBit_and, Bool.and_eq_true] at hd
    exact (as_tb d).1 hd.2
  · rw [← h2, Nat.testBit_and, Bool.and_eq_true] at hd
    exact hd.2
theorem FB.to {F B : Nat} (h : FB T N night F B) : F &&& mkN (asN T N night) (tD T) = F ∧ B &&& F = B := by
  obtain ⟨h1, h2, h3, h4⟩ := h
  constructor
  · apply Nat.eq_of_testBit_eq; intro i
    have a := h3 i
    have b := as_tb (T := T) (N := N) (night := night) i
    rw [Nat.testBit_and]
    cases e : F.testBit i
    · rfl
    · rw [b.2 (a e)]; rfl
  · apply Nat.eq_of_testBit_eq; intro i
    have a := h4 i
    rw [Nat.testBit_and]
    cases e : B.testBit i
    · rfl
    · rw [a e]; rfl
theorem wkm {k : Nat} (h : k ≤ 6000) : w32 ((k : Int) + -1) = (k : Int) - 1 := w32e (by omega)
theorem c_planI {F : Nat} (hW : WC T N s) (hE : EC s T N night (tD T)) (h3 : ∀ x : Nat, x < 64 → gI s 51 x = (th3 x : Int)) (hF : F &&& mkN (asN T N night) (tD T) = F) (hL : LTb s T N night (fun F2 _ _ => F < F2)) :
    ∃ s1, (∀ rk : St → Int → Int → Int → Rs, X0_plan_b29 rk FU s 50 31 F F = rk s1 50 31 ((F : Int) - 1)) ∧ Fr (fun a => a = 54) s s1 ∧ LTb s1 T N night (fun F2 _ _ => F ≤ F2) := by
  have t6 := hW.2.1.1.2.2.2.2.2.1
  have m := mk_lt (asN T N night) (tD T) t6
  have f64 : F < 64 := by rw [← hF]; exact Nat.lt_of_le_of_lt Nat.and_le_right m
  have hgo0 := iter_go (α := St × Int × Int × Int × Int) (body := fun (rk11 : St → Int → Int → Int → Rs) (rec : St × Int × Int × Int × Int → Rs) (a : St × Int × Int × Int × Int) => X0_plan_b29_body rk11 (fun (s : St) (x0 x1 x3 x4 : Int) => rec (s, x0, x1, x3, x4)) a.1 a.2.1 a.2.2.1 a.2.2.2.1 a.2.2.2.2)
    (fun k a => ∃ s2, a = (s2, (50 : Int), (31 : Int), (F : Int), (F : Int) - (k : Int)) ∧ Fr (fun a => a = 54) s s2 ∧ LTb s2 T N night (fun F2 B2 _ => F < F2 ∨ (F2 = F ∧ F < B2 + k))) (F + 1) (s, 50, 31, F, F) ⟨s, by simp, Fr.refl _ s, fun F2 B2 p q1 q2 q3 q4 => hL F2 B2 p q1 q2 q3 (by
      rcases q4 with q | ⟨q, q5⟩
      · exact q
      · have := (FB.to q1).2
        have l : B2 ≤ F2 := by rw [← this]; exact Nat.and_le_right
        omega)⟩ (fun k hk a ha => by
      obtain ⟨s2, rfl, hf2, hL2⟩ := ha
      have hW2 := hW.cs (hf2.mono (fun a ha => by unfold cS; omega))
      have hS := hW2.1
      have hE2 := hE.f54 hf2
      have h32 : ∀ x : Nat, x < 64 → gI s2 51 x = (th3 x : Int) := fun x hx => (hf2.nu (by decide)).trans (h3 x hx)
      obtain ⟨B, hB⟩ : ∃ B : Nat, B = F - k := ⟨_, rfl⟩
      have eB : (F : Int) - (k : Int) = (B : Int) := by omega
      have u1 := sub64 B (by omega) F f64
      have g0 : ¬ (B : Int) < 0 := by omega
      have hw := wkm (k := B) (by omega)
      have en : (B : Int) - 1 = (F : Int) - ((k + 1 : Nat) : Int) := by clear hw; omega
      rw [eB]
      by_cases y : B &&& F = B
      · obtain ⟨s3, e3, f3, l3⟩ := c_work hW2 hE2 h32 (FB.of t6 hF y) hL2 (fun F2 B2 p q => by
          rcases q with q | q
          · exact Or.inl q
          · exact Or.inr ⟨q.1, by clear hw; omega⟩)
        refine ⟨(s3, (50 : Int), (31 : Int), (F : Int), (F : Int) - ((k + 1 : Nat) : Int)), ⟨s3, rfl, hf2.trans f3, fun F2 B2 p q1 q2 q3 q4 => l3 F2 B2 p q1 q2 q3 ?_⟩, fun rk rec => ?_⟩
        · rcases q4 with q | ⟨q, q5⟩
          · exact Or.inl (Or.inl q)
          · by_cases z : B2 = B
            · exact Or.inr ⟨q, z⟩
            · exact Or.inl (Or.inr ⟨q, by clear hw; omega⟩)
        · have v := u1.2 y
          rw [← en]
          simp [X0_plan_b29_body, X0_plan_b51, tF, isK, shF hS, g0, v, e3, hw]
      · refine ⟨(s2, (50 : Int), (31 : Int), (F : Int), (F : Int) - ((k + 1 : Nat) : Int)), ⟨s2, rfl, hf2, fun F2 B2 p q1 q2 q3 q4 => hL2 F2 B2 p q1 q2 q3 ?_⟩, fun rk rec => ?_⟩
        · rcases q4 with q | ⟨q, q5⟩
          · exact Or.inl q
          · by_cases z : B2 = B
            · have := (FB.to q1).2
              rw [q, z] at this
              exact absurd this y
            · exact Or.inr ⟨q, by clear hw; omega⟩
        · have v : ¬ and32 (B : Int) (xor32 (F : Int) (-1)) = 0 := fun z => y (u1.1 z)
          rw [← en]
          simp [X0_plan_b29_body, X0_plan_b51, tF, isK, shF hS, g0, v, hw])
  obtain ⟨a0, ⟨s2, rfl, hf2, hL2⟩, hgo⟩ := hgo0
  refine ⟨s2, fun rk => ?_, hf2, fun F2 B2 p q1 q2 q3 q4 => hL2 F2 B2 p q1 q2 q3 (by omega)⟩
  refine (hgo rk FU (by unfold FU; omega)).trans ?_
  have g0 : (F : Int) - ((F + 1 : Nat) : Int) < 0 := by omega
  have hw := wkm (k := F) (by omega)
  simp only [X0_plan_b29_body, X0_plan_b57]
  rw [if_pos g0, hw]
theorem c_plan (hW : WC T N s) (h3 : ∀ x : Nat, x < 64 → gI s 51 x = (th3 x : Int)) (hn : 0 ≤ night ∧ night ≤ 99) : ∃ s1, X0_plan s 50 31 night = some (0, s1) ∧ Fr (fun a => a = 50 ∨ a = 52 ∨ a = 53 ∨ a = 54) s s1 ∧ EC s1 T N night (tD T) ∧ LTb s1 T N night (fun _ _ _ => True) := by
  have hS0 := hW.1
  obtain ⟨s0, e0, f0, hE0⟩ := c_collectW hW hn
  have f0' : Fr (fun a => a = 50 ∨ a = 52 ∨ a = 53 ∨ a = 54) s s0 := f0.mono (fun a ha => by omega)
  have hW0 := hW.cs (f0.mono (fun a ha => by unfold cS; omega))
  have hSS := hW0.1
  have h30 : ∀ x : Nat, x < 64 → gI s0 51 x = (th3 x : Int) := fun x hx => (f0.nu (by decide)).trans (h3 x hx)
  have t6 := hW.2.1.1.2.2.2.2.2.1
  have m := mk_lt (asN T N night) (tD T) t6
  have main : ∃ s1, X0_plan_b11 FU s0 50 31 ((mkN (asN T N night) (tD T) : Nat) : Int) = some (0, s1) ∧ Fr (fun a => a = 54) s0 s1 ∧ LTb s1 T N night (fun _ _ _ => True) := by
    generalize hA : mkN (asN T N night) (tD T) = A at *
    unfold X0_plan_b11
    refine iter_inv (Q := fun G => ∃ s1, G = some (0, s1) ∧ Fr (fun a => a = 54) s0 s1 ∧ LTb s1 T N night (fun _ _ _ => True))
      (fun (k : Nat) (a : St × Int × Int × Int) => ∃ s2, a = (s2, 50, 31, (A : Int) - (k : Int)) ∧ Fr (fun a => a = 54) s0 s2 ∧ LTb s2 T N night (fun F2 _ _ => A < F2 + k))
      (A + 1) FU (s0, 50, 31, (A : Int)) (by unfold FU; omega) ⟨s0, by simp, Fr.refl _ s0, fun F2 B2 p q1 q2 q3 q4 => by
        exfalso
        have := (FB.to q1).1
        rw [hA] at this
        have l : F2 ≤ A := by rw [← this]; exact Nat.and_le_right
        omega⟩ (fun k hk a ha => ?_) (fun a ha rec => ?_)
    · obtain ⟨s2, rfl, hf2, hL2⟩ := ha
      have hW2 := hW0.cs (hf2.mono (fun a ha => by unfold cS; omega))
      have hS := hW2.1
      have hE2 := hE0.f54 hf2
      have h32 : ∀ x : Nat, x < 64 → gI s2 51 x = (th3 x : Int) := fun x hx => (hf2.nu (by decide)).trans (h30 x hx)
      have e4 := hE2.1
      rw [hA] at e4
      obtain ⟨F, hF⟩ : ∃ F : Nat, F = A - k := ⟨_, rfl⟩
      have eF : (A : Int) - (k : Int) = (F : Int) := by omega
      have u1 := sub64 F (by omega) A m
      have g0 : ¬ (F : Int) < 0 := by omega
      have hw := wkm (k := F) (by omega)
      have en : (F : Int) - 1 = (A : Int) - ((k + 1 : Nat) : Int) := by clear hw; omega
      rw [eF]
      by_cases y : F &&& A = F
      · have hy : F &&& mkN (asN T N night) (tD T) = F := by rw [hA]; exact y
        obtain ⟨s3, e3, f3, l3⟩ := c_planI hW2 hE2 h32 hy (fun F2 B2 p q1 q2 q3 q4 => hL2 F2 B2 p q1 q2 q3 (by clear hw; omega))
        refine ⟨(s3, (50 : Int), (31 : Int), (A : Int) - ((k + 1 : Nat) : Int)), ⟨s3, rfl, hf2.trans f3, fun F2 B2 p q1 q2 q3 q4 => l3 F2 B2 p q1 q2 q3 (by clear hw; omega)⟩, fun rec => ?_⟩
        have v := u1.2 y
        rw [← en]
        simp [X0_plan_b11_body, tF, isK, shF hS, g0, e4, v, e3]
      · refine ⟨(s2, (50 : Int), (31 : Int), (A : Int) - ((k + 1 : Nat) : Int)), ⟨s2, rfl, hf2, fun F2 B2 p q1 q2 q3 q4 => hL2 F2 B2 p q1 q2 q3 ?_⟩, fun rec => ?_⟩
        · by_cases z : F2 = F
          · have := (FB.to q1).1
            rw [hA, z] at this
            exact absurd this y
          · clear hw; omega
        · have v : ¬ and32 (F : Int) (xor32 (A : Int) (-1)) = 0 := fun z => y (u1.1 z)
          rw [← en]
          simp [X0_plan_b11_body, X0_plan_b57, tF, isK, shF hS, g0, e4, v, hw]
    · obtain ⟨s2, rfl, hf2, hL2⟩ := ha
      have g0 : (A : Int) - ((A + 1 : Nat) : Int) < 0 := by omega
      refine ⟨s2, ?_, hf2, fun F2 B2 p q1 q2 q3 q4 => hL2 F2 B2 p q1 q2 q3 (by omega)⟩
      simp only [X0_plan_b11_body]
      rw [if_pos g0]
  obtain ⟨s1, e1, f1, l1⟩ := main
  refine ⟨s1, ?_, f0'.trans (f1.mono (fun a ha => by omega)), hE0.f54 f1, l1⟩
  unfold X0_plan
  simp [tF, isK, shF hS0, shF hSS, e0, hE0.1, e1]
theorem FB0 (T : Tw) (N : Nw) (night : Int) : FB T N night 0 0 := ⟨by decide, by decide, fun d hd => by simp at hd, fun d hd => by simp at hd⟩
theorem v0F (p : Nat) : vF2 T N night p 0 = mkN (feB T N night p) (tD T) := by unfold vF2; simp
theorem v0B (p : Nat) : vB2 T N night p 0 0 = 0 := by unfold vB2; simp
theorem cd0 (hD : tD T ≤ 6) : cdT T N night 0 0 = bgC T N night := by
  rw [← (FB0 T N night).th hD]
  show 0 + 0 + _ = _
  omega
theorem c_steps {fr : Int} (hW : WC T N s) (hE : EC s T N night (tD T)) (h3 : ∀ x : Nat, x < 64 → gI s 51 x = (th3 x : Int)) (hL : LTb s T N night (fun _ _ _ => True)) (hfr : 0 ≤ fr ∧ fr < tH T) : X0_stepsFrom s 50 fr 31 = some (brF T N night fr, s) := by
  have hS := hW.1
  have t1 := hW.2.1.1.1
  have t2 := hW.2.1.1.2.1
  have t5 := hW.2.1.1.2.2.2.2.1
  have t6 := hW.2.1.1.2.2.2.2.2.1
  have c2 := hW.2.2.2.1.1.2.2.1
  have hp2 : ∀ d, d < tD T → heN T N night d < tP T ∧ tFo T d < tP T := fun d hd => ⟨(heN_e hW.2.1 hW.2.2.1 night d).2, (hW.2.1.2.1 d hd).2.2⟩
  have hc0 := cd0 (T := T) (N := N) (night := night) t6
  have h0 := FB0 T N night
  have hlt : cdT T N night 0 0 < 3 ^ tD T := cdN_lt _ _ _ _ _
  have ve : brF T N night fr = if cdT T N night 0 0 + 1 = 3 ^ tD T then 0 else fwF T N night 0 0 fr (tP T) := by
    unfold brF
    rw [← hc0]
    exact vV_e _ _ _ _ _ _ fr hlt
  have hfull := h0.full
  have hA : (mkN (asN T N night) (tD T) : Int) = 0 ↔ 0 = mkN (asN T N night) (tD T) := by omega
  unfold X0_stepsFrom
  rw [ve]
  by_cases q : 0 = mkN (asN T N night) (tD T)
  · have q2 : gI s 50 4 = 0 := by rw [hE.1]; exact hA.2 q
    rw [if_pos (hfull.1 q)]
    simp [tF, isK, shF hS, q2]
  · have q2 : ¬ gI s 50 4 = 0 := by rw [hE.1]; exact fun z => q (hA.1 z)
    rw [if_neg (fun x => q (hfull.2 x))]
    have loop : X0_stepsFrom_b15 FU s 50 fr 31 1000000 0 = some (fwF T N night 0 0 fr (tP T), s) := by
      unfold X0_stepsFrom_b15
      refine iter_run (tP T) FU (fun p : Nat => (s, (50 : Int), fr, (31 : Int), fwF T N night 0 0 fr p, (p : Int))) (by unfold FU; omega) (fun p hp rec => ?_) (fun rec => ?_)
      · have es : fwF T N night 0 0 fr (p + 1) = if beN (heN T N night) (tFo T) (cdT T N night 0 0) p (tD T) = cdT T N night 0 0 then fwF T N night 0 0 fr p else if dstF (tH T) fr (nHo N p) + vV (heN T N night) (tFo T) (nHo N) (tH T) (tP T) (tD T) (beN (heN T N night) (tFo T) (cdT T N night 0 0) p (tD T)) (nHo N p) < fwF T N night 0 0 fr p then dstF (tH T) fr (nHo N p) + vV (heN T N night) (tFo T) (nHo N) (tH T) (tP T) (tD T) (beN (heN T N night) (tFo T) (cdT T N night 0 0) p (tD T)) (nHo N p) else fwF T N night 0 0 fr p := rfl
        have sm := h0.same t6 p
        have be := h0.be p
        have hv := h0.vis t6 p
        have lf := hL _ _ p hv hp (may_vis p) trivial
        rw [v0F, v0B] at sm be hv lf
        have ef := (hE.2 p (by omega)).1
        have g1 : ¬ tP T ≤ p := by omega
        have g6 : (p : Int) < 6 := by omega
        have hp1 := hW.2.2.2.2.1.1 p hp
        have np := hW.2.2.1.2.1 p hp
        have ed := distance_e (a := fr) (b := nHo N p) hW (by omega) (by omega)
        have db := dst_b (H := tH T) (by omega) (by omega) fr (nHo N p)
        have ei := idx_e (p := p) hS h3 hv.1 hv.2.1 (by omega)
        have l1 := th_le _ hv.1
        have l2 := th_le _ hv.2.1
        have gi : (((th3 (mkN (feB T N night p) (tD T)) + th3 0) * 6 + p : Nat) : Int) < 4374 := by omega
        have vb := vV_b (ho := nHo N) (he := heN T N night) (of := tFo T) (H := tH T) (P := tP T) (D := tD T) (by omega) (by omega) t6 hp2 (3 ^ tD T) (cdT T N night (mkN (feB T N night p) (tD T)) 0) (nHo N p) (cdN_lt _ _ _ _ _) (by omega)
        have hw := wk1 (k := p) (by omega)
        rw [es]
        rw [be] at sm ⊢
        unfold V2 at lf
        generalize vV (heN T N night) (tFo T) (nHo N) (tH T) (tP T) (tD T) (cdT T N night (mkN (feB T N night p) (tD T)) 0) (nHo N p) = v at *
        have wv : w32 (dstF (tH T) fr (nHo N p) + v) = dstF (tH T) fr (nHo N p) + v := w32e (by clear hw; omega)
        generalize (th3 (mkN (feB T N night p) (tD T)) + th3 0) * 6 + p = ix at *
        by_cases y : mkN (feB T N night p) (tD T) = 0
        · rw [if_pos (sm.2 ⟨y, rfl⟩)]
          rw [y] at ef
          simp [X0_stepsFrom_b15_body, X0_stepsFrom_b84, tF, isK, shF hS, c2, g1, g6, ef, hw]
        · rw [if_neg (fun x => y (sm.1 x).1)]
          have ne : ¬ ((mkN (feB T N night p) (tD T) : Nat) : Int) = 0 := by clear hw; omega
          have ei0 : X0_indexOf s 50 ((mkN (feB T N night p) (tD T) : Nat) : Int) 0 (p : Int) = some ((ix : Int), s) := ei
          simp [X0_stepsFrom_b15_body, X0_stepsFrom_b84, tF, isK, shF hS, c2, g1, g6, ef, y, hp1, ed, ei0, gi, lf, wv, min_e, hw]
      · simp [X0_stepsFrom_b15_body, tF, isK, shF hS, c2]
    simp [tF, isK, shF hS, q2, loop]
end PLAN2
