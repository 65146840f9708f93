/-! the class's inner functions in its world -/
theorem fuel7 {n : Nat} (h : n ≤ 7) : n < FU := by unfold FU; omega
theorem wk1 {k : Nat} (h : k ≤ 6000) : w32 ((k : Int) + 1) = (k : Int) + 1 := w32e (by omega)
theorem wk0 {k : Nat} (h : k ≤ 6000) : w32 (k : Int) = (k : Int) := w32e (by omega)
section CIN
variable {s : St} {T : Tw} {N : Nw} {v st r sl mi x o l : Int} {d : Nat} {night aim : Int}
theorem rightBits_e (hv : vcOK v st r sl mi x o l) (hS : Sh s) (hT : TOK T) (hN : NOK T N) (hC : CT s T) (hV : CV s T N r sl mi x o l) (hn : 0 ≤ night ∧ night ≤ 99) : X10_rightBits s v night = some (((bst (fun d => rigT T N d night) (tD T) : Nat) : Int), s) := by
  have t6 := hT.1.2.2.2.2.2.1
  have c4 := hC.1.2.2.2.1
  unfold X10_rightBits X10_rightBits_b4
  refine iter_run (tD T) FU (fun k : Nat => (s, v, night, ((bst (fun d => rigT T N d night) k : Nat) : Int), (k : Int))) (fuel7 (by omega)) (fun k hk rec => ?_) (fun rec => ?_)
  · have e := listener_e hv hS hT hN hC hV hk hn
    obtain ⟨-, c2⟩ := hC.2.1 k hk
    have hw := wk1 (k := k) (by omega)
    have ho := or_bst (P := fun d => rigT T N d night) (d := k) (by omega)
    by_cases h : rigT T N k night = true
    · have hb := bst_s1 (P := fun d => rigT T N d night) h
      have h' : heaT T N k night = (tFo T k : Int) := of_decide_eq_true h
      rcases hv with ⟨rfl, rfl, rfl, rfl, rfl, rfl, rfl, rfl⟩ | ⟨rfl, rfl, rfl, rfl, rfl, rfl, rfl, rfl⟩ <;>
      simp [X10_rightBits_b4_body, X10_rightBits_b39, tF, isK, shF hS, c4, c2, e, h', ho, hb, hw, show ¬ tD T ≤ k by omega, show (k : Int) < 6 by omega]
    · have hb := bst_s0 (P := fun d => rigT T N d night) h
      have h' : ¬ heaT T N k night = (tFo T k : Int) := fun q => h (decide_eq_true q)
      rcases hv with ⟨rfl, rfl, rfl, rfl, rfl, rfl, rfl, rfl⟩ | ⟨rfl, rfl, rfl, rfl, rfl, rfl, rfl, rfl⟩ <;>
      simp [X10_rightBits_b4_body, X10_rightBits_b39, tF, isK, shF hS, c4, c2, e, h', hb, hw, show ¬ tD T ≤ k by omega, show (k : Int) < 6 by omega]
  · rcases hv with ⟨rfl, rfl, rfl, rfl, rfl, rfl, rfl, rfl⟩ | ⟨rfl, rfl, rfl, rfl, rfl, rfl, rfl, rfl⟩ <;>
    simp [X10_rightBits_b4_body, tF, isK, shF hS, c4]
def ricT (T : Tw) (N : Nw) (night : Int) : Nat := cnt (fun d => rigT T N d night) (tD T)
theorem rightCount_e (hv : vcOK v st r sl mi x o l) (hS : Sh s) (hT : TOK T) (hN : NOK T N) (hC : CT s T) (hV : CV s T N r sl mi x o l) (hn : 0 ≤ night ∧ night ≤ 99) : X10_rightCount s v night = some ((ricT T N night : Int), s) := by
  have e := rightBits_e hv hS hT hN hC hV hn
  have t6 := hT.1.2.2.2.2.2.1
  have e2 := bitCount_e (s := s) (bst_64 (P := fun d => rigT T N d night) t6)
  rw [pcn_bst _ _ t6] at e2
  unfold X10_rightCount ricT
  rcases hv with ⟨rfl, rfl, rfl, rfl, rfl, rfl, rfl, rfl⟩ | ⟨rfl, rfl, rfl, rfl, rfl, rfl, rfl, rfl⟩ <;>
  simp [tF, isK, shF hS, e, e2]
def hebT (T : Tw) (N : Nw) (p night : Int) : Nat := bst (fun d => decide (heaT T N d night = p)) (tD T)
theorem heardBits_e {p : Int} (hW : WC T N s) (hn : 0 ≤ night ∧ night ≤ 99) : X10_heardBits s 31 p night = some ((hebT T N p night : Int), s) := by
  have hS := hW.1
  have t6 := hW.2.1.1.2.2.2.2.2.1
  have c4 := hW.2.2.2.1.1.2.2.2.1
  unfold X10_heardBits X10_heardBits_b5 hebT
  refine iter_run (tD T) FU (fun k : Nat => (s, 31, p, night, ((bst (fun d => decide (heaT T N d night = p)) k : Nat) : Int), (k : Int))) (fuel7 (by omega)) (fun k hk rec => ?_) (fun rec => ?_)
  · have e := w_lis hW hk hn
    have hw := wk1 (k := k) (by omega)
    have ho := or_bst (P := fun d => decide (heaT T N d night = p)) (d := k) (by omega)
    by_cases h : heaT T N k night = p
    · have hb := bst_s1 (P := fun d => decide (heaT T N d night = p)) (d := k) (by simp [h])
      simp [X10_heardBits_b5_body, X10_heardBits_b35, tF, isK, shF hS, c4, e, h, ho, hb, hw, show ¬ tD T ≤ k by omega]
    · have hb := bst_s0 (P := fun d => decide (heaT T N d night = p)) (d := k) (by simp [h])
      simp [X10_heardBits_b5_body, X10_heardBits_b35, tF, isK, shF hS, c4, e, h, hb, hw, show ¬ tD T ≤ k by omega]
  · simp [X10_heardBits_b5_body, tF, isK, shF hS, c4]
def defT (T : Tw) (p : Int) : Nat := bst (fun d => decide ((tFo T d : Int) = p)) (tD T)
theorem deadFor_e {p : Int} (hW : WC T N s) : X9_deadFor s 19 p = some ((defT T p : Int), s) := by
  have hS := hW.1
  have t6 := hW.2.1.1.2.2.2.2.2.1
  have c4 := hW.2.2.2.1.1.2.2.2.1
  unfold X9_deadFor X9_deadFor_b4 defT
  refine iter_run (tD T) FU (fun k : Nat => (s, 19, p, ((bst (fun d => decide ((tFo T d : Int) = p)) k : Nat) : Int), (k : Int))) (fuel7 (by omega)) (fun k hk rec => ?_) (fun rec => ?_)
  · have e := (hW.2.2.2.1.2.1 k hk).2
    have hw := wk1 (k := k) (by omega)
    have ho := or_bst (P := fun d => decide ((tFo T d : Int) = p)) (d := k) (by omega)
    by_cases h : (tFo T k : Int) = p
    · have hb := bst_s1 (P := fun d => decide ((tFo T d : Int) = p)) (d := k) (by simp [h])
      simp [X9_deadFor_b4_body, X9_deadFor_b28, tF, isK, shF hS, c4, e, h, ho, hb, hw, show ¬ tD T ≤ k by omega, show (k : Int) < 6 by omega]
    · have hb := bst_s0 (P := fun d => decide ((tFo T d : Int) = p)) (d := k) (by simp [h])
      simp [X9_deadFor_b4_body, X9_deadFor_b28, tF, isK, shF hS, c4, e, h, hb, hw, show ¬ tD T ≤ k by omega, show (k : Int) < 6 by omega]
  · simp [X9_deadFor_b4_body, tF, isK, shF hS, c4]
def fdfT (T : Tw) (p : Int) : Int := match fnd (fun d => decide ((tFo T d : Int) = p)) (tD T) with | some d => (d : Int) | none => -2
theorem firstDeadFor_e {p : Int} (hW : WC T N s) : X9_firstDeadFor s 19 p = some (fdfT T p, s) := by
  have hS := hW.1
  have t6 := hW.2.1.1.2.2.2.2.2.1
  have c4 := hW.2.2.2.1.1.2.2.2.1
  unfold X9_firstDeadFor X9_firstDeadFor_b2
  refine (iter_fnd (fun k : Nat => (s, 19, p, (k : Int))) (tD T) (fun d => decide ((tFo T d : Int) = p)) (fun k => some ((k : Int), s)) (some (-2, s)) FU (fuel7 (by omega)) (fun k hk rec => ?_) (fun rec => ?_)).trans ?_
  · have e := (hW.2.2.2.1.2.1 k hk).2
    have hw := wk1 (k := k) (by omega)
    by_cases h : (tFo T k : Int) = p <;>
    simp [X9_firstDeadFor_b2_body, tF, isK, shF hS, c4, e, h, hw, show ¬ tD T ≤ k by omega, show (k : Int) < 6 by omega]
  · simp [X9_firstDeadFor_b2_body, tF, isK, shF hS, c4]
  · unfold fdfT
    split <;> simp_all
def nxtT (T : Tw) (N : Nw) (p night : Int) : Int := match fnd (fun d => decide ((tFo T d : Int) = p)) (tD T) with | some d => heaT T N d night | none => -2
theorem nextInRing_e {p : Int} (hW : WC T N s) (hn : 0 ≤ night ∧ night ≤ 99) : X11_nextInRing s 0 p night = some (nxtT T N p night, s) := by
  have hS := hW.1
  have e := firstDeadFor_e (p := p) hW
  unfold X11_nextInRing nxtT fdfT at *
  cases h : fnd (fun d => decide ((tFo T d : Int) = p)) (tD T) with
  | none =>
    rw [h] at e
    simp [tF, isK, shF hS, e, X11_nextInRing_b27]
  | some q =>
    rw [h] at e
    have e2 := w_lis hW (fnd_some h).1 hn
    simp [tF, isK, shF hS, e, e2, X11_nextInRing_b27]
theorem lisAimed_e (hW : WC T N s) (hd : d < tD T) (ha : 0 ≤ aim ∧ aim ≤ 100) (hn : 0 ≤ night ∧ night ≤ 99) : X10_listenerAimed s 31 d aim night = some (lisT T N (outT T N d aim night), s) := by
  have hS := hW.1
  have e := w_landA hW hd ha hn
  have e2 := listenerAt_e vc1.st hS hW.2.2.2.2.1.2.2 hW.2.1.1.2.1 (outT_b hW.2.1 N d aim night)
  unfold X10_listenerAimed lisT
  simp [tF, isK, shF hS, e, e2]
def furT (T : Tw) (N : Nw) (d : Nat) (night : Int) : Int := lisT T N ((outT T N d (aimT T N d) night + 1) % tH T)
theorem furtherOn_e (hW : WC T N s) (hd : d < tD T) (hn : 0 ≤ night ∧ night ≤ 99) : X10_listenerFurtherOn s 31 d night = some (furT T N d night, s) := by
  have hS := hW.1
  have t := hW.2.1.1
  have c1 := hW.2.2.2.1.1.1
  have ew := aimOf_e vc1 hS hW.2.1 hW.2.2.2.1 hW.2.2.2.2.1 hd
  have e := aimed_e vc1 hS hW.2.1 hW.2.2.1 hW.2.2.2.1 hW.2.2.2.2.1 hd hn
  have hb := outT_b hW.2.1 N d (aimT T N d) night
  have m1 := Int.emod_nonneg (outT T N d (aimT T N d) night + 1) (b := (tH T : Int)) (by omega)
  have m2 := Int.emod_lt_of_pos (outT T N d (aimT T N d) night + 1) (b := (tH T : Int)) (by omega)
  have ea := around_e (x := outT T N d (aimT T N d) night + 1) hS ⟨by omega, by omega⟩ (by omega) (by omega)
  rw [c1] at ea
  have e2 := listenerAt_e vc1.st hS hW.2.2.2.2.1.2.2 hW.2.1.1.2.1 ⟨m1, m2⟩
  unfold X10_listenerFurtherOn furT lisT
  simp [tF, isK, shF hS, ew, e, w32e (x := outT T N d (aimT T N d) night + 1) (by omega), ea, e2]
def hunT (T : Tw) (N : Nw) (d : Nat) (p night : Int) : Int := (if heaT T N d night = p then 100 - (tL T : Int) else 0) + (if furT T N d night = p then (tL T : Int) else 0)
theorem hunT_b (hT : TOK T) (N : Nw) (d : Nat) (p night : Int) : 0 ≤ hunT T N d p night ∧ hunT T N d p night ≤ 100 := by
  have := hT.1.2.2.1
  unfold hunT
  split <;> split <;> omega
theorem hundredths_e {p : Int} (hW : WC T N s) (hd : d < tD T) (hn : 0 ≤ night ∧ night ≤ 99) : X2_hundredths s 57 31 d p night = some (hunT T N d p night, s) := by
  have hS := hW.1
  have t3 := hW.2.1.1.2.2.1
  have c2 := hW.2.2.2.1.1.2.1
  have e := w_lis hW hd hn
  have e2 := furtherOn_e hW hd hn
  unfold X2_hundredths X2_hundredths_b29 X2_hundredths_b46 hunT
  by_cases h1 : heaT T N d night = p <;> by_cases h2 : furT T N d night = p <;>
  simp [tF, isK, shF hS, e, e2, h1, h2, c2, w32e (x := 100 - (tL T : Int)) (by omega), w32e (x := (tL T : Int)) (by omega), show w32 0 = 0 from rfl, show w32 100 = 100 from rfl]
def mirN (N : Nw) (d : Nat) (h : Int) : Nw := (N.1, N.2.1, N.2.2.1, fun j => if j = d then h else N.2.2.2 j)
def sliN (N : Nw) (d : Nat) (x : Int) : Nw := (N.1, N.2.1, (fun j => if j = d then x else N.2.2.1 j), N.2.2.2)
def houN (N : Nw) (p : Nat) (x : Int) : Nw := (N.1, (fun j => if j = p then x else N.2.1 j), N.2.2.1, N.2.2.2)
def nigN (N : Nw) (x : Int) : Nw := (x, N.2.1, N.2.2.1, N.2.2.2)
theorem isRightWith_e {slip mir : Int} (hW : WC T N s) (hd : d < tD T) (hs : 0 ≤ slip ∧ slip ≤ 39) (hm : -2 ≤ mir ∧ mir ≤ 100) (hn : 0 ≤ night ∧ night ≤ 99) : X10_isRightWith s 31 d slip mir night = some (if rigT T (mirN (sliN N d slip) d mir) d night = true then 1 else 0, s) := by
  have hS := hW.1
  obtain ⟨⟨t1, t2, t3, t4, t5, t6, t7, t8⟩, t9, -⟩ := hW.2.1
  obtain ⟨l1, l2, l3⟩ := t9 d hd
  have hC := hW.2.2.2.1
  obtain ⟨c1, c2⟩ := hC.2.1 d hd
  have h1 := hW.2.2.1.2.1 _ l3
  have h2 := hW.2.2.2.2.1.1 _ l3
  have e := landingWith_e (s := s) (v := 31) (d := (d : Int)) (aim := nHo N (tFo T d)) (slip := slip) (mir := mir) (night := night) hS (by simp) (by rw [hC.1.1]; omega) (by omega) (by rw [Int.toNat_natCast, c1]; exact ⟨l1, l2⟩) (by omega) hs hm hn
  rw [Int.toNat_natCast, c1, hC.1.1] at e
  have e2 := listenerAt_e vc1.st hS hW.2.2.2.2.1.2.2 t2 (outF_b (H := (tH T : Int)) (law := tLaw T d) (slip := slip) (mir := mir) (aim := nHo N (tFo T d)) (night := night) (by omega))
  have hr : rigT T (mirN (sliN N d slip) d mir) d night = decide (hfF (tH T) (tP T) (nHo N) (outF (tH T) (tLaw T d) slip mir (nHo N (tFo T d)) night) = (tFo T d : Int)) := by
    unfold rigT heaT lisT outT aimT mirN sliN nSl nMi nHo
    simp
  rw [hr]
  have ew : X10_aimOf s 31 d = some (nHo N (tFo T d), s) := aimOf_e vc1 hS hW.2.1 hC hW.2.2.2.2.1 hd
  unfold X10_isRightWith
  by_cases h : hfF (tH T) (tP T) (nHo N) (outF (tH T) (tLaw T d) slip mir (nHo N (tFo T d)) night) = (tFo T d : Int) <;>
  simp [tF, isK, shF hS, show (d : Int) < 6 by omega, show ((tFo T d : Nat) : Int) < 6 by omega, c2, h2, ew, e, e2, h, X10_isRightWith_b38]
end CIN
