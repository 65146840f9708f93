/-! the fewest still to walk: the loop, whole -/
section FEWEST3
variable {s : St} {T : Tw} {N : Nw} {night : Int}
/-- the table holds what a visit leads to -/
def LFb (s : St) (T : Tw) (N : Nw) (night : Int) (F B : Nat) : Prop := ∀ p, p < tP T → ¬ (vF2 T N night p F = F ∧ vB2 T N night p F B = B) → gI s 54 ((th3 (vF2 T N night p F) + th3 (vB2 T N night p F B)) * 6 + p) = V2 T N night (vF2 T N night p F) (vB2 T N night p F B) (nHo N p)
def fwF (T : Tw) (N : Nw) (night : Int) (F B : Nat) (h : Int) (n : Nat) : Int := fo (fun p m => if beN (heN T N night) (tFo T) (cdT T N night F B) p (tD T) = cdT T N night F B then m else if dstF (tH T) h (nHo N p) + vV (heN T N night) (tFo T) (nHo N) (tH T) (tP T) (tD T) (beN (heN T N night) (tFo T) (cdT T N night F B) p (tD T)) (nHo N p) < m then dstF (tH T) h (nHo N p) + vV (heN T N night) (tFo T) (nHo N) (tH T) (tP T) (tD T) (beN (heN T N night) (tFo T) (cdT T N night F B) p (tD T)) (nHo N p) else m) (1000000 : Int) n
theorem c_few {F B a : Nat} (hW : WC T N s) (hE : EC s T N night (tD T)) (h3 : ∀ x : Nat, x < 64 → gI s 51 x = (th3 x : Int)) (h : FB T N night F B) (ha : a < tP T) (hL : LFb s T N night F B) : X0_fewestOn s 50 31 F B a = some (V2 T N night F B (nHo N a), s) := by
  have hS := hW.1
  have t1 := hW.2.1.1.1
  have t2 := hW.2.1.1.2.1
  have t5 := hW.2.1.1.2.2.2.2.1
  have t6 := hW.2.1.1.2.2.2.2.2.1
  have c2 := hW.2.2.2.1.1.2.2.1
  have hp2 : ∀ d, d < tD T → heN T N night d < tP T ∧ tFo T d < tP T := fun d hd => ⟨(heN_e hW.2.1 hW.2.2.1 night d).2, (hW.2.1.2.1 d hd).2.2⟩
  have hlt : cdT T N night F B < 3 ^ tD T := cdN_lt _ _ _ _ _
  have ve : V2 T N night F B (nHo N a) = if cdT T N night F B + 1 = 3 ^ tD T then 0 else fwF T N night F B (nHo N a) (tP T) := vV_e _ _ _ _ _ _ (nHo N a) hlt
  have hfull := h.full
  have bA : ((B : Nat) : Int) = gI s 50 4 ↔ B = mkN (asN T N night) (tD T) := by rw [hE.1]; omega
  unfold X0_fewestOn
  rw [ve]
  by_cases q : B = mkN (asN T N night) (tD T)
  · have q2 := bA.2 q
    rw [if_pos (hfull.1 q)]
    simp [tF, isK, shF hS, q2]
  · have q2 : ¬ ((B : Nat) : Int) = gI s 50 4 := fun x => q (bA.1 x)
    rw [if_neg (fun x => q (hfull.2 x))]
    have loop : X0_fewestOn_b17 FU s 50 31 F B a 1000000 0 = some (fwF T N night F B (nHo N a) (tP T), s) := by
      unfold X0_fewestOn_b17
      refine iter_run (tP T) FU (fun p : Nat => (s, (50 : Int), (31 : Int), (F : Int), (B : Int), (a : Int), fwF T N night F B (nHo N a) p, (p : Int))) (by unfold FU; omega) (fun p hp rec => ?_) (fun rec => ?_)
      · have es : fwF T N night F B (nHo N a) (p + 1) = if beN (heN T N night) (tFo T) (cdT T N night F B) p (tD T) = cdT T N night F B then fwF T N night F B (nHo N a) p else if dstF (tH T) (nHo N a) (nHo N p) + vV (heN T N night) (tFo T) (nHo N) (tH T) (tP T) (tD T) (beN (heN T N night) (tFo T) (cdT T N night F B) p (tD T)) (nHo N p) < fwF T N night F B (nHo N a) p then dstF (tH T) (nHo N a) (nHo N p) + vV (heN T N night) (tFo T) (nHo N) (tH T) (tP T) (tD T) (beN (heN T N night) (tFo T) (cdT T N night F B) p (tD T)) (nHo N p) else fwF T N night F B (nHo N a) p := rfl
        have sm := h.same t6 p
        have be := h.be p
        have hv := h.vis t6 p
        have lf := hL p hp
        have ef := (hE.2 p (by omega)).1
        have eb := (hE.2 p (by omega)).2
        have m1 := mk_lt (feB T N night p) (tD T) t6
        have m2 := mk_lt (brB T N night p) (tD T) t6
        have o1 : or32 (F : Int) ((mkN (feB T N night p) (tD T) : Nat) : Int) = ((vF2 T N night p F : Nat) : Int) := or64 _ h.1 _ m1
        have o2 : and32 (F : Int) ((mkN (brB T N night p) (tD T) : Nat) : Int) = ((F &&& mkN (brB T N night p) (tD T) : Nat) : Int) := and64 _ h.1 _ m2
        have o3 : or32 (B : Int) ((F &&& mkN (brB T N night p) (tD T) : Nat) : Int) = ((vB2 T N night p F B : Nat) : Int) := or64 _ h.2.1 _ (Nat.lt_of_le_of_lt Nat.and_le_left h.1)
        have g1 : ¬ tP T ≤ p := by omega
        have g6 : (p : Int) < 6 := by omega
        have ga : (a : Int) < 6 := by omega
        have ha1 := hW.2.2.2.2.1.1 a ha
        have hp1 := hW.2.2.2.2.1.1 p hp
        have na := hW.2.2.1.2.1 a ha
        have np := hW.2.2.1.2.1 p hp
        have ed := distance_e (a := nHo N a) (b := nHo N p) hW (by omega) (by omega)
        have db := dst_b (H := tH T) (by omega) (by omega) (nHo N a) (nHo N p)
        have ei := idx_e (p := p) hS h3 hv.1 hv.2.1 (by omega)
        have l1 := th_le _ hv.1
        have l2 := th_le _ hv.2.1
        have gi : (((th3 (vF2 T N night p F) + th3 (vB2 T N night p F B)) * 6 + p : Nat) : Int) < 4374 := by omega
        have vb := vV_b (ho := nHo N) (he := heN T N night) (of := tFo T) (H := tH T) (P := tP T) (D := tD T) (by omega) (by omega) t6 hp2 (3 ^ tD T) (cdT T N night (vF2 T N night p F) (vB2 T N night p F B)) (nHo N p) (cdN_lt _ _ _ _ _) (by omega)
        have hw := wk1 (k := p) (by omega)
        rw [es]
        rw [be] at sm ⊢
        unfold V2 at lf
        have i1 : ((vF2 T N night p F : Nat) : Int) = (F : Int) ↔ vF2 T N night p F = F := by clear hw; omega
        have i2 : ((vB2 T N night p F B : Nat) : Int) = (B : Int) ↔ vB2 T N night p F B = B := by clear hw; omega
        generalize vV (heN T N night) (tFo T) (nHo N) (tH T) (tP T) (tD T) (cdT T N night (vF2 T N night p F) (vB2 T N night p F B)) (nHo N p) = v at *
        have wv : w32 (dstF (tH T) (nHo N a) (nHo N p) + v) = dstF (tH T) (nHo N a) (nHo N p) + v := w32e (by clear hw; omega)
        generalize (th3 (vF2 T N night p F) + th3 (vB2 T N night p F B)) * 6 + p = ix at *
        by_cases y : vF2 T N night p F = F ∧ vB2 T N night p F B = B
        · rw [if_pos (sm.2 y)]
          have y1 := i1.2 y.1
          have y2 := i2.2 y.2
          simp only [X0_fewestOn_b17_body, X0_fewestOn_b119]
          simp [tF, isK, shF hS, c2, g1, g6, ef, eb, o1, o2, o3, y1, y2, hw]
        · rw [if_neg (fun x => y (sm.1 x))]
          have lv := lf y
          have b65 : X0_fewestOn_b65 (fun (s : St) (x0 x1 x2 x3 x4 x5 x6 : Int) => rec (s, x0, x1, x2, x3, x4, x5, x6)) s 50 31 F B a (fwF T N night F B (nHo N a) p) p ((vF2 T N night p F : Nat) : Int) ((vB2 T N night p F B : Nat) : Int) = rec (s, (50 : Int), (31 : Int), (F : Int), (B : Int), (a : Int), (if dstF (tH T) (nHo N a) (nHo N p) + v < fwF T N night F B (nHo N a) p then dstF (tH T) (nHo N a) (nHo N p) + v else fwF T N night F B (nHo N a) p), ((p + 1 : Nat) : Int)) := by
            unfold X0_fewestOn_b65 X0_fewestOn_b119
            simp [tF, isK, shF hS, ga, g6, ha1, hp1, ed, ei, gi, lv, wv, min_e, hw]
          simp only [X0_fewestOn_b17_body, X0_fewestOn_b119]
          by_cases y1 : vF2 T N night p F = F
          · have y2 : ¬ vB2 T N night p F B = B := fun x => y ⟨y1, x⟩
            have z1 := i1.2 y1
            have z2 : ¬ ((vB2 T N night p F B : Nat) : Int) = (B : Int) := fun x => y2 (i2.1 x)
            rw [z1] at b65
            simp [tF, isK, shF hS, c2, g1, g6, ef, eb, o1, o2, o3, z1, z2, b65]
          · have z1 : ¬ ((vF2 T N night p F : Nat) : Int) = (F : Int) := fun x => y1 (i1.1 x)
            simp [tF, isK, shF hS, c2, g1, g6, ef, eb, o1, o2, o3, z1, b65]
      · simp [X0_fewestOn_b17_body, tF, isK, shF hS, c2]
    simp [tF, isK, shF hS, q2, loop]
end FEWEST3
