/-! the reference's loops -/
section MLOOP
variable {s : St} {T : Tw} {N : Nw} {t : Int} {d : Nat} {night aim p : Int}
theorem r_silent (hW : WM T N t s) (hn : 0 ≤ night ∧ night ≤ 99) : X13_silent_b42 FU s 76 night 0 0 = some (((bst (fun p => decide (hebT T N (p : Int) night = 0)) (tP T) : Nat) : Int), fiM 0 s) := by
  have hS := hW.1.1
  have hM := mF hW.1
  obtain ⟨t1, t2, t3, t4, t5, t6, t7, t8⟩ := hW.1.2.1.1
  unfold X13_silent_b42
  refine iter_run (tP T) FU (fun k : Nat => (s, 76, night, ((bst (fun p => decide (hebT T N (p : Int) night = 0)) k : Nat) : Int), (k : Int))) (by unfold FU; omega) (fun k hk rec => ?_) (fun rec => ?_)
  · have hk0 := hk
    have hg0 : ¬ tP T ≤ k := by omega
    have e := m_heb (p := (k : Int)) hW hn
    have hz := or_bst0 (P := (fun p => decide (hebT T N (p : Int) night = 0))) (d := k) (by omega)
    have hk6 : k ≤ 6000 := by omega
    have hw2 := or_bst (P := (fun p => decide (hebT T N (p : Int) night = 0))) (d := k) (by omega)
    have hw := wk1 hk6
    by_cases h : hebT T N (k : Int) night = 0
    · have hb := bst_s1 (P := (fun p => decide (hebT T N (p : Int) night = 0))) (d := k) (by simp [h])
      simp [X13_silent_b42_body, X13_silent_b73, tF, isK, shF hS, hM, m_good hS, e, hz, h, hb, hw, hw2, hg0]
    · have hb := bst_s0 (P := (fun p => decide (hebT T N (p : Int) night = 0))) (d := k) (by simp [h])
      simp [X13_silent_b42_body, X13_silent_b73, tF, isK, shF hS, hM, m_good hS, e, hz, h, hb, hw, hw2, hg0]
  · simp [X13_silent_b42_body, X13_silent_b73, tF, isK, shF hS, hM, m_good hS]
theorem r_nightsOf (hW : WM T N t s) (hd : d < tD T) : X13_nightsOf_b36 FU s 76 p d 0 0 = some (((cnt (fun n => decide (heaT T N d (n : Int) = p)) 100 : Nat) : Int), fiM 0 s) := by
  have hS := hW.1.1
  have hM := mF hW.1
  obtain ⟨t1, t2, t3, t4, t5, t6, t7, t8⟩ := hW.1.2.1.1
  unfold X13_nightsOf_b36
  refine iter_run (100) FU (fun k : Nat => (s, 76, p, (d : Int), ((cnt (fun n => decide (heaT T N d (n : Int) = p)) k : Nat) : Int), (k : Int))) (by unfold FU; omega) (fun k hk rec => ?_) (fun rec => ?_)
  · have hk0 := hk
    have hg0 : ¬ (100 : Int) ≤ k := by omega
    have e := m_hea (night := (k : Int)) hW hd (by omega)
    have hc := cnt_le (fun n => decide (heaT T N d (n : Int) = p)) k
    have hc6 : cnt (fun n => decide (heaT T N d (n : Int) = p)) k ≤ 6000 := by omega
    have hk6 : k ≤ 6000 := by omega
    have hw2 := wk1 hc6
    have hw3 := wk0 hc6
    have hw := wk1 hk6
    by_cases h : heaT T N d (k : Int) = p
    · have hb := cnt_s1 (P := (fun n => decide (heaT T N d (n : Int) = p))) (d := k) (by simp [h])
      simp [X13_nightsOf_b36_body, X13_nightsOf_b60, tF, isK, shF hS, hM, m_good hS, e, h, hb, hw, hw2, hw3, hg0]
    · have hb := cnt_s0 (P := (fun n => decide (heaT T N d (n : Int) = p))) (d := k) (by simp [h])
      simp [X13_nightsOf_b36_body, X13_nightsOf_b60, tF, isK, shF hS, hM, m_good hS, e, h, hb, hw, hw2, hw3, hg0]
  · simp [X13_nightsOf_b36_body, X13_nightsOf_b60, tF, isK, shF hS, hM, m_good hS]
theorem r_perfect (hW : WM T N t s) : X13_perfect_b26 FU s 76 0 0 = some (((cnt (fun n => decide (((ricT T N (n : Int) : Nat) : Int) = (tD T : Int))) 100 : Nat) : Int), fiM 0 s) := by
  have hS := hW.1.1
  have hM := mF hW.1
  obtain ⟨t1, t2, t3, t4, t5, t6, t7, t8⟩ := hW.1.2.1.1
  unfold X13_perfect_b26
  refine iter_run (100) FU (fun k : Nat => (s, 76, ((cnt (fun n => decide (((ricT T N (n : Int) : Nat) : Int) = (tD T : Int))) k : Nat) : Int), (k : Int))) (by unfold FU; omega) (fun k hk rec => ?_) (fun rec => ?_)
  · have hk0 := hk
    have hg0 : ¬ (100 : Int) ≤ k := by omega
    have e := m_rightOn (night := (k : Int)) hW (by omega)
    have e2 := m_bitsR (s := s) (night := (k : Int)) hW.1.2.1 N
    have hc := cnt_le (fun n => decide (((ricT T N (n : Int) : Nat) : Int) = (tD T : Int))) k
    have hc6 : cnt (fun n => decide (((ricT T N (n : Int) : Nat) : Int) = (tD T : Int))) k ≤ 6000 := by omega
    have hk6 : k ≤ 6000 := by omega
    have hw2 := wk1 hc6
    have hw3 := wk0 hc6
    have hw := wk1 hk6
    by_cases h : ((ricT T N (k : Int) : Nat) : Int) = (tD T : Int)
    · have hb := cnt_s1 (P := (fun n => decide (((ricT T N (n : Int) : Nat) : Int) = (tD T : Int)))) (d := k) (by simp [h])
      simp [X13_perfect_b26_body, X13_perfect_b56, tF, isK, shF hS, hM, m_good hS, e, e2, h, hb, hw, hw2, hw3, hg0]
    · have hb := cnt_s0 (P := (fun n => decide (((ricT T N (n : Int) : Nat) : Int) = (tD T : Int)))) (d := k) (by simp [h])
      simp [X13_perfect_b26_body, X13_perfect_b56, tF, isK, shF hS, hM, m_good hS, e, e2, h, hb, hw, hw2, hw3, hg0]
  · simp [X13_perfect_b26_body, X13_perfect_b56, tF, isK, shF hS, hM, m_good hS]
theorem r_bestNight (hW : WM T N t s) : X13_bestNight_b28 FU s 76 0 (-1) 0 = some ((bestF (fun n => ricT T N (n : Int)) 100).1, fiM 0 s) := by
  have hS := hW.1.1
  have hM := mF hW.1
  obtain ⟨t1, t2, t3, t4, t5, t6, t7, t8⟩ := hW.1.2.1.1
  unfold X13_bestNight_b28
  refine iter_run (100) FU (fun k : Nat => (s, 76, (bestF (fun n => ricT T N (n : Int)) k).1, (bestF (fun n => ricT T N (n : Int)) k).2, (k : Int))) (by unfold FU; omega) (fun k hk rec => ?_) (fun rec => ?_)
  · have hk0 := hk
    have hg0 : ¬ (100 : Int) ≤ k := by omega
    have e := m_rightOn (night := (k : Int)) hW (by omega)
    have e2 := m_bitsR (s := s) (night := (k : Int)) hW.1.2.1 N
    have hw := wk1 (k := k) (by omega)
    by_cases h : (bestF (fun n => ricT T N (n : Int)) k).2 < (((fun n => ricT T N (n : Int)) k : Nat) : Int)
    · have hb := bestF_1 h
      simp only [] at hb h
      simp [X13_bestNight_b28_body, X13_bestNight_b58, tF, isK, shF hS, hM, m_good hS, e, e2, h, hb, hw, hg0, Int.not_le.mpr h]
    · have hb := bestF_0 h
      simp only [] at hb h
      simp [X13_bestNight_b28_body, X13_bestNight_b58, tF, isK, shF hS, hM, m_good hS, e, e2, h, hb, hw, hg0, Int.not_lt.mp h]
  · simp [X13_bestNight_b28_body, X13_bestNight_b58, tF, isK, shF hS, hM, m_good hS]
theorem r_together {d2 : Nat} (hW : WM T N t s) (hd : d < tD T) (hd2 : d2 < tD T) : X13_together_b38 FU s 76 d d2 0 = some (fnV (fun n => decide (heaT T N d (n : Int) = heaT T N d2 (n : Int))) 100 (fun k => (k : Int)), fiM 0 s) := by
  have hS := hW.1.1
  have hM := mF hW.1
  obtain ⟨t1, t2, t3, t4, t5, t6, t7, t8⟩ := hW.1.2.1.1
  unfold X13_together_b38
  refine (iter_fnd (fun k : Nat => (s, 76, (d : Int), (d2 : Int), (k : Int))) (100) (fun n => decide (heaT T N d (n : Int) = heaT T N d2 (n : Int))) (fun k => some ((k : Int), fiM 0 s)) (some (-2, fiM 0 s)) FU (by unfold FU; omega) (fun k hk rec => ?_) (fun rec => ?_)).trans ?_
  · have hk0 := hk
    have hg0 : ¬ (100 : Int) ≤ k := by omega
    have e := m_hea (night := (k : Int)) hW hd (by omega)
    have e2 := m_hea (night := (k : Int)) hW hd2 (by omega)
    have hw := wk1 (k := k) (by omega)
    by_cases h : heaT T N d (k : Int) = heaT T N d2 (k : Int) <;>
    simp [X13_together_b38_body, tF, isK, shF hS, hM, m_good hS, e, e2, h, hw, hg0]
  · simp [X13_together_b38_body, tF, isK, shF hS, hM, m_good hS]
  · unfold fnV
    split <;> simp_all
theorem r_aims (hW : WM T N t s) (hd : d < tD T) (hn : 0 ≤ night ∧ night ≤ 99) : X13_aims_b55 FU s 76 d p night 0 0 = some (((cnt (fun a => decide (lisT T N (outT T N d (a : Int) night) = p)) (tH T) : Nat) : Int), fiM 0 s) := by
  have hS := hW.1.1
  have hM := mF hW.1
  obtain ⟨t1, t2, t3, t4, t5, t6, t7, t8⟩ := hW.1.2.1.1
  unfold X13_aims_b55
  refine iter_run (tH T) FU (fun k : Nat => (s, 76, (d : Int), p, night, ((cnt (fun a => decide (lisT T N (outT T N d (a : Int) night) = p)) k : Nat) : Int), (k : Int))) (by unfold FU; omega) (fun k hk rec => ?_) (fun rec => ?_)
  · have hk0 := hk
    have hg0 : ¬ tH T ≤ k := by omega
    have e := m_out (aim := (k : Int)) hW hd (by omega) hn
    have e2 := m_lis hW (outT_b hW.1.2.1 N d (k : Int) night)
    have hc := cnt_le (fun a => decide (lisT T N (outT T N d (a : Int) night) = p)) k
    have hc6 : cnt (fun a => decide (lisT T N (outT T N d (a : Int) night) = p)) k ≤ 6000 := by omega
    have hk6 : k ≤ 6000 := by omega
    have hw2 := wk1 hc6
    have hw3 := wk0 hc6
    have hw := wk1 hk6
    by_cases h : lisT T N (outT T N d (k : Int) night) = p
    · have hb := cnt_s1 (P := (fun a => decide (lisT T N (outT T N d (a : Int) night) = p))) (d := k) (by simp [h])
      simp [X13_aims_b55_body, X13_aims_b90, tF, isK, shF hS, hM, m_good hS, e, e2, h, hb, hw, hw2, hw3, hg0]
    · have hb := cnt_s0 (P := (fun a => decide (lisT T N (outT T N d (a : Int) night) = p))) (d := k) (by simp [h])
      simp [X13_aims_b55_body, X13_aims_b90, tF, isK, shF hS, hM, m_good hS, e, e2, h, hb, hw, hw2, hw3, hg0]
  · simp [X13_aims_b55_body, X13_aims_b90, tF, isK, shF hS, hM, m_good hS]
theorem r_rightFrom {m : Nat} (hW : WM T N t s) (hd : d < tD T) (hn : 0 ≤ night ∧ night ≤ 99) (hm : night + (m : Int) = 100) : X13_rightFrom_b33 FU s 76 d night = some (fnV (fun k => rigT T N d (night + (k : Int))) m (fun k => night + (k : Int)), fiM 0 s) := by
  have hS := hW.1.1
  have hM := mF hW.1
  obtain ⟨t1, t2, t3, t4, t5, t6, t7, t8⟩ := hW.1.2.1.1
  unfold X13_rightFrom_b33
  rw [show (s, (76 : Int), (d : Int), night) = (fun k : Nat => (s, (76 : Int), (d : Int), night + (k : Int))) 0 by simp]
  refine (iter_fnd (fun k : Nat => (s, 76, (d : Int), night + (k : Int))) (m) (fun k => rigT T N d (night + (k : Int))) (fun k => some (night + (k : Int), fiM 0 s)) (some (-2, fiM 0 s)) FU (by unfold FU; omega) (fun k hk rec => ?_) (fun rec => ?_)).trans ?_
  · have hk0 := hk
    have hg0 : ¬ (100 : Int) ≤ night + k := by omega
    have e := m_right (night := night + (k : Int)) hW hd (by omega)
    have hw3 : w32 (night + (k : Int) + 1) = night + ((k : Int) + 1) := by rw [w32e (by omega)]; omega
    have hw := wk1 (k := k) (by omega)
    by_cases h : rigT T N d (night + (k : Int)) = true <;>
    simp [X13_rightFrom_b33_body, tF, isK, shF hS, hM, m_good hS, e, hw3, h, hw, hg0]
  · simp [X13_rightFrom_b33_body, tF, isK, shF hS, hM, m_good hS, hm]
  · unfold fnV
    split <;> simp_all
end MLOOP
