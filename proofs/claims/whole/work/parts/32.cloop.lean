/-! the class's loops -/
def bestF (c : Nat → Nat) (n : Nat) : Int × Int := fo (fun p b => if b.2 < (c p : Int) then ((p : Int), (c p : Int)) else b) ((0 : Int), (-1 : Int)) n
theorem bestF_1 {c : Nat → Nat} {k : Nat} (h : (bestF c k).2 < (c k : Int)) : bestF c (k + 1) = ((k : Int), (c k : Int)) := by
  show (if (bestF c k).2 < (c k : Int) then ((k : Int), (c k : Int)) else bestF c k) = _
  rw [if_pos h]
theorem bestF_0 {c : Nat → Nat} {k : Nat} (h : ¬ (bestF c k).2 < (c k : Int)) : bestF c (k + 1) = bestF c k := by
  show (if (bestF c k).2 < (c k : Int) then ((k : Int), (c k : Int)) else bestF c k) = _
  rw [if_neg h]
def fnV (P : Nat → Bool) (n : Nat) (f : Nat → Int) : Int := match fnd P n with | some k => f k | none => -2
theorem sliN_self (N : Nw) (d : Nat) : sliN N d (nSl N d) = N := by
  obtain ⟨a, b, c, e⟩ := N
  unfold sliN nSl
  congr 3
  funext j
  by_cases h : j = d <;> simp [h]
theorem mirN_self (N : Nw) (d : Nat) : mirN N d (nMi N d) = N := by
  obtain ⟨a, b, c, e⟩ := N
  unfold mirN nMi
  congr 3
  funext j
  by_cases h : j = d <;> simp [h]
theorem nMi_sliN (N : Nw) (d : Nat) (x : Int) : nMi (sliN N d x) = nMi N := rfl
theorem nSl_mirN (N : Nw) (d : Nat) (x : Int) : nSl (mirN N d x) = nSl N := rfl
def hmT (N : Nw) (d : Nat) : Bool := decide (0 ≤ nMi N d)
section CLOOP
variable {s : St} {T : Tw} {N : Nw} {d : Nat} {night aim p : Int}
def hecT (T : Tw) (N : Nw) (p night : Int) : Nat := cnt (fun d => decide (heaT T N d night = p)) (tD T)
theorem hec_heb (hT : TOK T) (N : Nw) (p night : Int) : pcn (hebT T N p night) = hecT T N p night := pcn_bst _ _ hT.1.2.2.2.2.2.1
theorem heb_64 (hT : TOK T) (N : Nw) (p night : Int) : hebT T N p night < 64 := bst_64 hT.1.2.2.2.2.2.1
theorem l_medium (hW : WC T N s) (hn : 0 ≤ night ∧ night ≤ 99) : X11_medium_b24 FU s 0 night 0 (-1) 0 = some ((bestF (fun p => hecT T N (p : Int) night) (tP T)).1, s) := by
  have hS := hW.1
  obtain ⟨t1, t2, t3, t4, t5, t6, t7, t8⟩ := hW.2.1.1
  obtain ⟨c0, c1, c2, c3, c4, c5⟩ := hW.2.2.2.1.1
  unfold X11_medium_b24
  refine iter_run (tP T) FU (fun k : Nat => (s, 0, night, (bestF (fun p => hecT T N (p : Int) night) k).1, (bestF (fun p => hecT T N (p : Int) night) k).2, (k : Int))) (by unfold FU; omega) (fun k hk rec => ?_) (fun rec => ?_)
  · have hk0 := hk
    have hg0 : ¬ tP T ≤ k := by omega
    have e := heardBits_e (p := (k : Int)) hW hn
    have e2 := bitCount_e (s := s) (heb_64 hW.2.1 N k night)
    rw [hec_heb hW.2.1] at e2
    have hw := wk1 (k := k) (by omega)
    by_cases h : (bestF (fun p => hecT T N (p : Int) night) k).2 < (((fun p => hecT T N (p : Int) night) k : Nat) : Int)
    · have hb := bestF_1 h
      simp only [] at hb h
      simp [X11_medium_b24_body, X11_medium_b63, tF, isK, shF hS, c2, e, e2, hb, hw, hg0, Int.not_le.mpr h]
    · have hb := bestF_0 h
      simp only [] at hb h
      simp [X11_medium_b24_body, X11_medium_b63, tF, isK, shF hS, c2, e, e2, hb, hw, hg0, Int.not_lt.mp h]
  · simp [X11_medium_b24_body, X11_medium_b63, tF, isK, shF hS, c2]
theorem l_silent (hW : WC T N s) (hn : 0 ≤ night ∧ night ≤ 99) : X11_silent_b21 FU s 0 night 0 0 = some (((bst (fun p => decide (hebT T N (p : Int) night = 0)) (tP T) : Nat) : Int), s) := by
  have hS := hW.1
  obtain ⟨t1, t2, t3, t4, t5, t6, t7, t8⟩ := hW.2.1.1
  obtain ⟨c0, c1, c2, c3, c4, c5⟩ := hW.2.2.2.1.1
  unfold X11_silent_b21
  refine iter_run (tP T) FU (fun k : Nat => (s, 0, night, ((bst (fun p => decide (hebT T N (p : Int) night = 0)) k : Nat) : Int), (k : Int))) (by unfold FU; omega) (fun k hk rec => ?_) (fun rec => ?_)
  · have hk0 := hk
    have hg0 : ¬ tP T ≤ k := by omega
    have e := heardBits_e (p := (k : Int)) hW hn
    have hk6 : k ≤ 6000 := by omega
    have hw2 := or_bst (P := (fun p => decide (hebT T N (p : Int) night = 0))) (d := k) (by omega)
    have hw := wk1 hk6
    by_cases h : hebT T N (k : Int) night = 0
    · have hb := bst_s1 (P := (fun p => decide (hebT T N (p : Int) night = 0))) (d := k) (by simp [h])
      simp [X11_silent_b21_body, X11_silent_b50, tF, isK, shF hS, c2, e, h, hb, hw, hw2, hg0]
    · have hb := bst_s0 (P := (fun p => decide (hebT T N (p : Int) night = 0))) (d := k) (by simp [h])
      simp [X11_silent_b21_body, X11_silent_b50, tF, isK, shF hS, c2, e, h, hb, hw, hw2, hg0]
  · simp [X11_silent_b21_body, X11_silent_b50, tF, isK, shF hS, c2]
theorem l_nightsOf (hW : WC T N s) (hd : d < tD T) : X11_nightsOf_b36 FU s 0 p d 0 0 = some (((cnt (fun n => decide (heaT T N d (n : Int) = p)) 100 : Nat) : Int), s) := by
  have hS := hW.1
  obtain ⟨t1, t2, t3, t4, t5, t6, t7, t8⟩ := hW.2.1.1
  obtain ⟨c0, c1, c2, c3, c4, c5⟩ := hW.2.2.2.1.1
  unfold X11_nightsOf_b36
  refine iter_run (100) FU (fun k : Nat => (s, 0, p, (d : Int), ((cnt (fun n => decide (heaT T N d (n : Int) = p)) k : Nat) : Int), (k : Int))) (by unfold FU; omega) (fun k hk rec => ?_) (fun rec => ?_)
  · have hk0 := hk
    have hg0 : ¬ (99 : Int) < k := by omega
    have e := w_lis (night := (k : Int)) hW hd (by omega)
    have hc := cnt_le (fun n => decide (heaT T N d (n : Int) = p)) k
    have hc6 : cnt (fun n => decide (heaT T N d (n : Int) = p)) k ≤ 6000 := by omega
    have hk6 : k ≤ 6000 := by omega
    have hw2 := wk1 hc6
    have hw3 := wk0 hc6
    have hw := wk1 hk6
    by_cases h : heaT T N d (k : Int) = p
    · have hb := cnt_s1 (P := (fun n => decide (heaT T N d (n : Int) = p))) (d := k) (by simp [h])
      simp [X11_nightsOf_b36_body, X11_nightsOf_b60, tF, isK, shF hS, e, h, hb, hw, hw2, hw3, hg0]
    · have hb := cnt_s0 (P := (fun n => decide (heaT T N d (n : Int) = p))) (d := k) (by simp [h])
      simp [X11_nightsOf_b36_body, X11_nightsOf_b60, tF, isK, shF hS, e, h, hb, hw, hw2, hw3, hg0]
  · simp [X11_nightsOf_b36_body, X11_nightsOf_b60, tF, isK, shF hS]
theorem l_perfect (hW : WC T N s) : X11_perfect_b18 FU s 0 0 0 = some (((cnt (fun n => decide (((ricT T N (n : Int) : Nat) : Int) = (tD T : Int))) 100 : Nat) : Int), s) := by
  have hS := hW.1
  obtain ⟨t1, t2, t3, t4, t5, t6, t7, t8⟩ := hW.2.1.1
  obtain ⟨c0, c1, c2, c3, c4, c5⟩ := hW.2.2.2.1.1
  unfold X11_perfect_b18
  refine iter_run (100) FU (fun k : Nat => (s, 0, ((cnt (fun n => decide (((ricT T N (n : Int) : Nat) : Int) = (tD T : Int))) k : Nat) : Int), (k : Int))) (by unfold FU; omega) (fun k hk rec => ?_) (fun rec => ?_)
  · have hk0 := hk
    have hg0 : ¬ (99 : Int) < k := by omega
    have e := rightCount_e (night := (k : Int)) vc1 hS hW.2.1 hW.2.2.1 hW.2.2.2.1 hW.2.2.2.2.1 (by omega)
    have hc := cnt_le (fun n => decide (((ricT T N (n : Int) : Nat) : Int) = (tD T : Int))) k
    have hc6 : cnt (fun n => decide (((ricT T N (n : Int) : Nat) : Int) = (tD T : Int))) k ≤ 6000 := by omega
    have hk6 : k ≤ 6000 := by omega
    have hw2 := wk1 hc6
    have hw3 := wk0 hc6
    have hw := wk1 hk6
    by_cases h : ((ricT T N (k : Int) : Nat) : Int) = (tD T : Int)
    · have hb := cnt_s1 (P := (fun n => decide (((ricT T N (n : Int) : Nat) : Int) = (tD T : Int)))) (d := k) (by simp [h])
      simp [X11_perfect_b18_body, X11_perfect_b45, tF, isK, shF hS, e, c3, h, hb, hw, hw2, hw3, hg0]
    · have hb := cnt_s0 (P := (fun n => decide (((ricT T N (n : Int) : Nat) : Int) = (tD T : Int)))) (d := k) (by simp [h])
      simp [X11_perfect_b18_body, X11_perfect_b45, tF, isK, shF hS, e, c3, h, hb, hw, hw2, hw3, hg0]
  · simp [X11_perfect_b18_body, X11_perfect_b45, tF, isK, shF hS]
theorem l_bestNight (hW : WC T N s) : X11_bestNight_b20 FU s 0 0 (-1) 0 = some ((bestF (fun n => ricT T N (n : Int)) 100).1, s) := by
  have hS := hW.1
  obtain ⟨t1, t2, t3, t4, t5, t6, t7, t8⟩ := hW.2.1.1
  obtain ⟨c0, c1, c2, c3, c4, c5⟩ := hW.2.2.2.1.1
  unfold X11_bestNight_b20
  refine iter_run (100) FU (fun k : Nat => (s, 0, (bestF (fun n => ricT T N (n : Int)) k).1, (bestF (fun n => ricT T N (n : Int)) k).2, (k : Int))) (by unfold FU; omega) (fun k hk rec => ?_) (fun rec => ?_)
  · have hk0 := hk
    have hg0 : ¬ (99 : Int) < k := by omega
    have e := rightCount_e (night := (k : Int)) vc1 hS hW.2.1 hW.2.2.1 hW.2.2.2.1 hW.2.2.2.2.1 (by omega)
    have hw := wk1 (k := k) (by omega)
    by_cases h : (bestF (fun n => ricT T N (n : Int)) k).2 < (((fun n => ricT T N (n : Int)) k : Nat) : Int)
    · have hb := bestF_1 h
      simp only [] at hb h
      simp [X11_bestNight_b20_body, X11_bestNight_b47, tF, isK, shF hS, e, hb, hw, hg0, Int.not_le.mpr h]
    · have hb := bestF_0 h
      simp only [] at hb h
      simp [X11_bestNight_b20_body, X11_bestNight_b47, tF, isK, shF hS, e, hb, hw, hg0, Int.not_lt.mp h]
  · simp [X11_bestNight_b20_body, X11_bestNight_b47, tF, isK, shF hS]
theorem l_together {d2 : Nat} (hW : WC T N s) (hd : d < tD T) (hd2 : d2 < tD T) : X11_together_b38 FU s 0 d d2 0 = some (fnV (fun n => decide (heaT T N d (n : Int) = heaT T N d2 (n : Int))) 100 (fun k => (k : Int)), s) := by
  have hS := hW.1
  obtain ⟨t1, t2, t3, t4, t5, t6, t7, t8⟩ := hW.2.1.1
  obtain ⟨c0, c1, c2, c3, c4, c5⟩ := hW.2.2.2.1.1
  unfold X11_together_b38
  refine (iter_fnd (fun k : Nat => (s, 0, (d : Int), (d2 : Int), (k : Int))) (100) (fun n => decide (heaT T N d (n : Int) = heaT T N d2 (n : Int))) (fun k => some ((k : Int), s)) (some (-2, s)) FU (by unfold FU; omega) (fun k hk rec => ?_) (fun rec => ?_)).trans ?_
  · have hk0 := hk
    have hg0 : ¬ (99 : Int) < k := by omega
    have e := w_lis (night := (k : Int)) hW hd (by omega)
    have e2 := w_lis (night := (k : Int)) hW hd2 (by omega)
    have hw := wk1 (k := k) (by omega)
    by_cases h : heaT T N d (k : Int) = heaT T N d2 (k : Int) <;>
    simp [X11_together_b38_body, tF, isK, shF hS, e, e2, h, hw, hg0]
  · simp [X11_together_b38_body, tF, isK, shF hS]
  · unfold fnV
    split <;> simp_all
theorem l_aimFor (hW : WC T N s) (hd : d < tD T) (hn : 0 ≤ night ∧ night ≤ 99) : X11_aimFor_b37 FU s 0 d p night 0 = some (fnV (fun a => decide (lisT T N (outT T N d (a : Int) night) = p)) (tH T) (fun k => (k : Int)), s) := by
  have hS := hW.1
  obtain ⟨t1, t2, t3, t4, t5, t6, t7, t8⟩ := hW.2.1.1
  obtain ⟨c0, c1, c2, c3, c4, c5⟩ := hW.2.2.2.1.1
  unfold X11_aimFor_b37
  refine (iter_fnd (fun k : Nat => (s, 0, (d : Int), p, night, (k : Int))) (tH T) (fun a => decide (lisT T N (outT T N d (a : Int) night) = p)) (fun k => some ((k : Int), s)) (some (-2, s)) FU (by unfold FU; omega) (fun k hk rec => ?_) (fun rec => ?_)).trans ?_
  · have hk0 := hk
    have hg0 : ¬ tH T ≤ k := by omega
    have e := lisAimed_e (aim := (k : Int)) hW hd (by omega) hn
    have hw := wk1 (k := k) (by omega)
    by_cases h : lisT T N (outT T N d (k : Int) night) = p <;>
    simp [X11_aimFor_b37_body, tF, isK, shF hS, c0, e, h, hw, hg0]
  · simp [X11_aimFor_b37_body, tF, isK, shF hS, c0]
  · unfold fnV
    split <;> simp_all
theorem l_aims (hW : WC T N s) (hd : d < tD T) (hn : 0 ≤ night ∧ night ≤ 99) : X11_aims_b40 FU s 0 d p night 0 0 = some (((cnt (fun a => decide (lisT T N (outT T N d (a : Int) night) = p)) (tH T) : Nat) : Int), s) := by
  have hS := hW.1
  obtain ⟨t1, t2, t3, t4, t5, t6, t7, t8⟩ := hW.2.1.1
  obtain ⟨c0, c1, c2, c3, c4, c5⟩ := hW.2.2.2.1.1
  unfold X11_aims_b40
  refine iter_run (tH T) FU (fun k : Nat => (s, 0, (d : Int), p, night, ((cnt (fun a => decide (lisT T N (outT T N d (a : Int) night) = p)) k : Nat) : Int), (k : Int))) (by unfold FU; omega) (fun k hk rec => ?_) (fun rec => ?_)
  · have hk0 := hk
    have hg0 : ¬ tH T ≤ k := by omega
    have e := lisAimed_e (aim := (k : Int)) hW hd (by omega) hn
    have hc := cnt_le (fun a => decide (lisT T N (outT T N d (a : Int) night) = p)) k
    have hc6 : cnt (fun a => decide (lisT T N (outT T N d (a : Int) night) = p)) k ≤ 6000 := by omega
    have hk6 : k ≤ 6000 := by omega
    have hw2 := wk1 hc6
    have hw3 := wk0 hc6
    have hw := wk1 hk6
    by_cases h : lisT T N (outT T N d (k : Int) night) = p
    · have hb := cnt_s1 (P := (fun a => decide (lisT T N (outT T N d (a : Int) night) = p))) (d := k) (by simp [h])
      simp [X11_aims_b40_body, X11_aims_b70, tF, isK, shF hS, c0, e, h, hb, hw, hw2, hw3, hg0]
    · have hb := cnt_s0 (P := (fun a => decide (lisT T N (outT T N d (a : Int) night) = p))) (d := k) (by simp [h])
      simp [X11_aims_b40_body, X11_aims_b70, tF, isK, shF hS, c0, e, h, hb, hw, hw2, hw3, hg0]
  · simp [X11_aims_b40_body, X11_aims_b70, tF, isK, shF hS, c0]
theorem l_mirrorFor (hW : WC T N s) (hd : d < tD T) (hn : 0 ≤ night ∧ night ≤ 99) : X11_mirrorFor_b20 FU s 0 d night 0 = some (fnV (fun h => rigT T (mirN N d (h : Int)) d night) (tH T) (fun k => (k : Int)), s) := by
  have hS := hW.1
  obtain ⟨t1, t2, t3, t4, t5, t6, t7, t8⟩ := hW.2.1.1
  obtain ⟨c0, c1, c2, c3, c4, c5⟩ := hW.2.2.2.1.1
  obtain ⟨n1, n2⟩ := hW.2.2.1.2.2.2 d hd
  obtain ⟨v1, v2⟩ := hW.2.2.2.2.1.2.1 d hd
  unfold X11_mirrorFor_b20
  refine (iter_fnd (fun k : Nat => (s, 0, (d : Int), night, (k : Int))) (tH T) (fun h => rigT T (mirN N d (h : Int)) d night) (fun k => some ((k : Int), s)) (some (-2, s)) FU (by unfold FU; omega) (fun k hk rec => ?_) (fun rec => ?_)).trans ?_
  · have hk0 := hk
    have hg0 : (d : Int) < 6 := by omega
    have hg1 : ¬ tH T ≤ k := by omega
    have e := isRightWith_e (slip := nSl N d) (mir := (k : Int)) hW hd n1 (by omega) hn
    rw [sliN_self] at e
    have hw := wk1 (k := k) (by omega)
    by_cases h : rigT T (mirN N d (k : Int)) d night = true <;>
    simp [X11_mirrorFor_b20_body, tF, isK, shF hS, c0, e, v1, hg0, h, hw, hg1]
  · simp [X11_mirrorFor_b20_body, tF, isK, shF hS, c0]
  · unfold fnV
    split <;> simp_all
theorem l_slipFor (hW : WC T N s) (hd : d < tD T) (hn : 0 ≤ night ∧ night ≤ 99) : X11_slipFor_b20 FU s 0 d night 0 = some (fnV (fun x => rigT T (sliN N d (x : Int)) d night) 40 (fun k => (k : Int)), s) := by
  have hS := hW.1
  obtain ⟨t1, t2, t3, t4, t5, t6, t7, t8⟩ := hW.2.1.1
  obtain ⟨c0, c1, c2, c3, c4, c5⟩ := hW.2.2.2.1.1
  obtain ⟨n1, n2⟩ := hW.2.2.1.2.2.2 d hd
  obtain ⟨v1, v2⟩ := hW.2.2.2.2.1.2.1 d hd
  unfold X11_slipFor_b20
  refine (iter_fnd (fun k : Nat => (s, 0, (d : Int), night, (k : Int))) (40) (fun x => rigT T (sliN N d (x : Int)) d night) (fun k => some ((k : Int), s)) (some (-2, s)) FU (by unfold FU; omega) (fun k hk rec => ?_) (fun rec => ?_)).trans ?_
  · have hk0 := hk
    have hg0 : (d : Int) < 6 := by omega
    have hg1 : ¬ (39 : Int) < k := by omega
    have e := isRightWith_e (slip := (k : Int)) (mir := nMi N d) hW hd (by omega) (by omega) hn
    rw [← nMi_sliN N d (k : Int), mirN_self, nMi_sliN] at e
    have hw := wk1 (k := k) (by omega)
    by_cases h : rigT T (sliN N d (k : Int)) d night = true <;>
    simp [X11_slipFor_b20_body, tF, isK, shF hS, e, v2, hg0, h, hw, hg1]
  · simp [X11_slipFor_b20_body, tF, isK, shF hS]
  · unfold fnV
    split <;> simp_all
theorem l_rightNights {h0 : Nat} (hW : WC T N s) (hd : d < tD T) (hh : h0 < tH T) : X10_rightNightsWith s 31 d h0 = some (((cnt (fun n => rigT T (mirN N d (h0 : Int)) d (n : Int)) 100 : Nat) : Int), s) := by
  have hS := hW.1
  obtain ⟨t1, t2, t3, t4, t5, t6, t7, t8⟩ := hW.2.1.1
  obtain ⟨c0, c1, c2, c3, c4, c5⟩ := hW.2.2.2.1.1
  obtain ⟨n1, n2⟩ := hW.2.2.1.2.2.2 d hd
  obtain ⟨v1, v2⟩ := hW.2.2.2.2.1.2.1 d hd
  unfold X10_rightNightsWith X10_rightNightsWith_b5
  refine iter_run (100) FU (fun k : Nat => (s, 31, (d : Int), (h0 : Int), ((cnt (fun n => rigT T (mirN N d (h0 : Int)) d (n : Int)) k : Nat) : Int), (k : Int))) (by unfold FU; omega) (fun k hk rec => ?_) (fun rec => ?_)
  · have hk0 := hk
    have hg0 : (d : Int) < 6 := by omega
    have hg1 : ¬ (99 : Int) < k := by omega
    have e := isRightWith_e (night := (k : Int)) (slip := nSl N d) (mir := (h0 : Int)) hW hd n1 (by omega) (by omega)
    rw [sliN_self] at e
    have hc := cnt_le (fun n => rigT T (mirN N d (h0 : Int)) d (n : Int)) k
    have hc6 : cnt (fun n => rigT T (mirN N d (h0 : Int)) d (n : Int)) k ≤ 6000 := by omega
    have hk6 : k ≤ 6000 := by omega
    have hw2 := wk1 hc6
    have hw3 := wk0 hc6
    have hw := wk1 hk6
    by_cases h : rigT T (mirN N d (h0 : Int)) d (k : Int) = true
    · have hb := cnt_s1 (P := (fun n => rigT T (mirN N d (h0 : Int)) d (n : Int))) (d := k) (by simp [h])
      simp [X10_rightNightsWith_b5_body, X10_rightNightsWith_b35, tF, isK, shF hS, e, v1, hg0, h, hb, hw, hw2, hw3, hg1]
    · have hb := cnt_s0 (P := (fun n => rigT T (mirN N d (h0 : Int)) d (n : Int))) (d := k) (by simp [h])
      simp [X10_rightNightsWith_b5_body, X10_rightNightsWith_b35, tF, isK, shF hS, e, v1, hg0, h, hb, hw, hw2, hw3, hg1]
  · simp [X10_rightNightsWith_b5_body, X10_rightNightsWith_b35, tF, isK, shF hS]
theorem l_mirrorBest (hW : WC T N s) (hd : d < tD T) : X11_mirrorBest_b22 FU s 0 d 0 (-1) 0 = some ((bestF (fun h => cnt (fun n => rigT T (mirN N d (h : Int)) d (n : Int)) 100) (tH T)).1, s) := by
  have hS := hW.1
  obtain ⟨t1, t2, t3, t4, t5, t6, t7, t8⟩ := hW.2.1.1
  obtain ⟨c0, c1, c2, c3, c4, c5⟩ := hW.2.2.2.1.1
  unfold X11_mirrorBest_b22
  refine iter_run (tH T) FU (fun k : Nat => (s, 0, (d : Int), (bestF (fun h => cnt (fun n => rigT T (mirN N d (h : Int)) d (n : Int)) 100) k).1, (bestF (fun h => cnt (fun n => rigT T (mirN N d (h : Int)) d (n : Int)) 100) k).2, (k : Int))) (by unfold FU; omega) (fun k hk rec => ?_) (fun rec => ?_)
  · have hk0 := hk
    have hg0 : ¬ tH T ≤ k := by omega
    have e := l_rightNights hW hd hk
    have hw := wk1 (k := k) (by omega)
    by_cases h : (bestF (fun h => cnt (fun n => rigT T (mirN N d (h : Int)) d (n : Int)) 100) k).2 < (((fun h => cnt (fun n => rigT T (mirN N d (h : Int)) d (n : Int)) 100) k : Nat) : Int)
    · have hb := bestF_1 h
      simp only [] at hb h
      simp [X11_mirrorBest_b22_body, X11_mirrorBest_b58, tF, isK, shF hS, c0, e, hb, hw, hg0, Int.not_le.mpr h]
    · have hb := bestF_0 h
      simp only [] at hb h
      simp [X11_mirrorBest_b22_body, X11_mirrorBest_b58, tF, isK, shF hS, c0, e, hb, hw, hg0, Int.not_lt.mp h]
  · simp [X11_mirrorBest_b22_body, X11_mirrorBest_b58, tF, isK, shF hS, c0]
theorem l_rightFrom {m : Nat} (hW : WC T N s) (hd : d < tD T) (hn : 0 ≤ night ∧ night ≤ 99) (hm : night + (m : Int) = 100) : X11_rightFrom_b20 FU s 0 d night = some (fnV (fun k => rigT T N d (night + (k : Int))) m (fun k => night + (k : Int)), s) := by
  have hS := hW.1
  obtain ⟨t1, t2, t3, t4, t5, t6, t7, t8⟩ := hW.2.1.1
  obtain ⟨c0, c1, c2, c3, c4, c5⟩ := hW.2.2.2.1.1
  unfold X11_rightFrom_b20
  rw [show (s, (0 : Int), (d : Int), night) = (fun k : Nat => (s, (0 : Int), (d : Int), night + (k : Int))) 0 by simp]
  refine (iter_fnd (fun k : Nat => (s, 0, (d : Int), night + (k : Int))) (m) (fun k => rigT T N d (night + (k : Int))) (fun k => some (night + (k : Int), s)) (some (-2, s)) FU (by unfold FU; omega) (fun k hk rec => ?_) (fun rec => ?_)).trans ?_
  · have hk0 := hk
    have hg0 : ¬ (99 : Int) < night + k := by omega
    have e := w_right (night := night + (k : Int)) hW hd (by omega)
    have hw3 : w32 (night + (k : Int) + 1) = night + ((k : Int) + 1) := by rw [w32e (by omega)]; omega
    have hw := wk1 (k := k) (by omega)
    by_cases h : rigT T N d (night + (k : Int)) = true <;>
    simp [X11_rightFrom_b20_body, tF, isK, shF hS, e, hw3, h, hw, hg0]
  · simp [X11_rightFrom_b20_body, tF, isK, shF hS, hm]
  · unfold fnV
    split <;> simp_all
theorem l_mirrorCount (hW : WC T N s) : X10_mirrorCount s 31 = some (((cnt (fun d => hmT N d) (tD T) : Nat) : Int), s) := by
  have hS := hW.1
  obtain ⟨t1, t2, t3, t4, t5, t6, t7, t8⟩ := hW.2.1.1
  obtain ⟨c0, c1, c2, c3, c4, c5⟩ := hW.2.2.2.1.1
  unfold X10_mirrorCount X10_mirrorCount_b4
  refine iter_run (tD T) FU (fun k : Nat => (s, 31, ((cnt (fun d => hmT N d) k : Nat) : Int), (k : Int))) (by unfold FU; omega) (fun k hk rec => ?_) (fun rec => ?_)
  · have hk0 := hk
    have hg0 : (k : Int) < 6 := by omega
    have hg1 : ¬ tD T ≤ k := by omega
    have v2 := (hW.2.2.2.2.1.2.1 k hk).2
    have hm : nMi N k < 0 ↔ ¬ hmT N k = true := by unfold hmT; simp
    have hc := cnt_le (fun d => hmT N d) k
    have hc6 : cnt (fun d => hmT N d) k ≤ 6000 := by omega
    have hk6 : k ≤ 6000 := by omega
    have hw2 := wk1 hc6
    have hw3 := wk0 hc6
    have hw := wk1 hk6
    by_cases h : hmT N k = true
    · have hb := cnt_s1 (P := (fun d => hmT N d)) (d := k) (by simp [h])
      simp [X10_mirrorCount_b4_body, X10_mirrorCount_b30, tF, isK, shF hS, c3, v2, hm, hg0, h, hb, hw, hw2, hw3, hg1]
    · have hb := cnt_s0 (P := (fun d => hmT N d)) (d := k) (by simp [h])
      simp [X10_mirrorCount_b4_body, X10_mirrorCount_b30, tF, isK, shF hS, c3, v2, hm, hg0, h, hb, hw, hw2, hw3, hg1]
  · simp [X10_mirrorCount_b4_body, X10_mirrorCount_b30, tF, isK, shF hS, c3]
end CLOOP
