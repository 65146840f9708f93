/-! the reference: mirrors, slips tried -/
section MLOOP3
variable {s : St} {T : Tw} {N : Nw} {t : Int} {d : Nat} {night aim p : Int}
/-- what stands in the row at the loop's k-th begin -/
def cK (z : Int) (k : Nat) : Int := if k = 0 then z else (k : Int) - 1
theorem cK_s (z : Int) (k : Nat) : cK z (k + 1) = (k : Int) := by
  unfold cK
  rw [if_neg (by omega)]
  omega
theorem r_mirrorFor (hW : WM T N t s) (hd : d < tD T) (hn : 0 ≤ night ∧ night ≤ 99) : ∃ s1, X13_mirrorFor_b33 FU s 76 d night 0 = some (fnV (fun h => rigT T (mirN N d (h : Int)) d night) (tH T) (fun k => (k : Int)), fiM 0 s1) ∧ Mv s s1 := by
  have hS := hW.1.1
  have hM := mF hW.1
  obtain ⟨t1, t2, t3, t4, t5, t6, t7, t8⟩ := hW.1.2.1.1
  have g12 : (12 : Int) + d < 19 := by omega
  have g0 : (0 : Int) ≤ 12 + d := by omega
  have i2 : (12 + (d : Int)).toNat = 12 + d := by omega
  have hw2 : w32 (12 + (d : Int)) = 12 + d := w32e (by omega)
  have key : X13_mirrorFor_b33 FU s 76 d night 0 = (match fnd (fun h => rigT T (mirN N d (h : Int)) d night) (tH T) with | some k => some ((k : Int), fiM 0 (pI s 79 (12 + d) k)) | none => some (-2, fiM 0 (pI s 79 (12 + d) (cK (gI s 79 (12 + d)) (tH T))))) := by
    unfold X13_mirrorFor_b33
    rw [show (s, (76 : Int), (d : Int), night, (0 : Int)) = (fun k : Nat => (pI s 79 (12 + d) (cK (gI s 79 (12 + d)) k), (76 : Int), (d : Int), night, (k : Int))) 0 by
      show _ = (pI s 79 (12 + d) (gI s 79 (12 + d)), (76 : Int), (d : Int), night, (0 : Int))
      rw [pI_self]]
    refine iter_fnd (fun k : Nat => (pI s 79 (12 + d) (cK (gI s 79 (12 + d)) k), (76 : Int), (d : Int), night, (k : Int))) (tH T) (fun h => rigT T (mirN N d (h : Int)) d night) (fun k => some ((k : Int), fiM 0 (pI s 79 (12 + d) k))) _ FU (by clear hw2; unfold FU; omega) (fun k hk rec => ?_) (fun rec => ?_)
    · have hM1 := mF (hW.1.x (12 + d) (cK (gI s 79 (12 + d)) k))
      have hg : ¬ tH T ≤ k := by clear hw2; omega
      have hk6 : k ≤ 6000 := by clear hw2; omega
      have e := m_right (hW.mir (x := (k : Int)) hd (by clear hw2; omega)) hd hn
      have hw := wk1 hk6
      have hS2 : Sh (pI s 79 (12 + d) (k : Int)) := hS
      by_cases h : rigT T (mirN N d (k : Int)) d night = true <;>
      simp [X13_mirrorFor_b33_body, tF, isK, shF hS, hM, hM1.2.2.2.2.2.2.1, hg, hw2, g12, g0, i2, pI_pI, e, h, hw, cK_s, m_good hS2]
    · have hM1 := mF (hW.1.x (12 + d) (cK (gI s 79 (12 + d)) (tH T)))
      have hS2 : Sh (pI s 79 (12 + d) (cK (gI s 79 (12 + d)) (tH T))) := hS
      simp [X13_mirrorFor_b33_body, tF, isK, shF hS, hM, hM1.2.2.2.2.2.2.1, m_good hS2]
  rw [key]
  unfold fnV
  cases fnd (fun h => rigT T (mirN N d (h : Int)) d night) (tH T) with
  | some k => exact ⟨_, rfl, Mv_x _ _ _⟩
  | none => exact ⟨_, rfl, Mv_x _ _ _⟩
theorem r_slipFor (hW : WM T N t s) (hd : d < tD T) (hn : 0 ≤ night ∧ night ≤ 99) : ∃ s1, X13_slipFor_b33 FU s 76 d night 0 = some (fnV (fun x => rigT T (sliN N d (x : Int)) d night) 40 (fun k => (k : Int)), fiM 0 s1) ∧ Mv s s1 := by
  have hS := hW.1.1
  have hM := mF hW.1
  obtain ⟨t1, t2, t3, t4, t5, t6, t7, t8⟩ := hW.1.2.1.1
  have g12 : (6 : Int) + d < 19 := by omega
  have g0 : (0 : Int) ≤ 6 + d := by omega
  have i2 : (6 + (d : Int)).toNat = 6 + d := by omega
  have hw2 : w32 (6 + (d : Int)) = 6 + d := w32e (by omega)
  have key : X13_slipFor_b33 FU s 76 d night 0 = (match fnd (fun x => rigT T (sliN N d (x : Int)) d night) 40 with | some k => some ((k : Int), fiM 0 (pI s 79 (6 + d) k)) | none => some (-2, fiM 0 (pI s 79 (6 + d) (cK (gI s 79 (6 + d)) 40)))) := by
    unfold X13_slipFor_b33
    rw [show (s, (76 : Int), (d : Int), night, (0 : Int)) = (fun k : Nat => (pI s 79 (6 + d) (cK (gI s 79 (6 + d)) k), (76 : Int), (d : Int), night, (k : Int))) 0 by
      show _ = (pI s 79 (6 + d) (gI s 79 (6 + d)), (76 : Int), (d : Int), night, (0 : Int))
      rw [pI_self]]
    refine iter_fnd (fun k : Nat => (pI s 79 (6 + d) (cK (gI s 79 (6 + d)) k), (76 : Int), (d : Int), night, (k : Int))) 40 (fun x => rigT T (sliN N d (x : Int)) d night) (fun k => some ((k : Int), fiM 0 (pI s 79 (6 + d) k))) _ FU (by clear hw2; unfold FU; omega) (fun k hk rec => ?_) (fun rec => ?_)
    · have hg : ¬ (39 : Int) < k := by clear hw2; omega
      have hk6 : k ≤ 6000 := by clear hw2; omega
      have e := m_right (hW.sli (x := (k : Int)) hd (by clear hw2; omega)) hd hn
      have hw := wk1 hk6
      have hS2 : Sh (pI s 79 (6 + d) (k : Int)) := hS
      by_cases h : rigT T (sliN N d (k : Int)) d night = true <;>
      simp [X13_slipFor_b33_body, tF, isK, shF hS, hM, hg, hw2, g12, g0, i2, pI_pI, e, h, hw, cK_s, m_good hS2]
    · have hS2 : Sh (pI s 79 (6 + d) (cK (gI s 79 (6 + d)) 40)) := hS
      simp [X13_slipFor_b33_body, tF, isK, shF hS, hM, m_good hS2]
  rw [key]
  unfold fnV
  cases fnd (fun x => rigT T (sliN N d (x : Int)) d night) 40 with
  | some k => exact ⟨_, rfl, Mv_x _ _ _⟩
  | none => exact ⟨_, rfl, Mv_x _ _ _⟩
theorem r_mirrorBest (hW : WM T N t s) (hd : d < tD T) : ∃ s1, X13_mirrorBest_b30 FU s 76 d 0 (-1) 0 = some ((bestF (fun h => cnt (fun n => rigT T (mirN N d (h : Int)) d (n : Int)) 100) (tH T)).1, fiM 0 s1) ∧ Mv s s1 := by
  have hS := hW.1.1
  have hM := mF hW.1
  obtain ⟨t1, t2, t3, t4, t5, t6, t7, t8⟩ := hW.1.2.1.1
  have g12 : (12 : Int) + d < 19 := by omega
  have g0 : (0 : Int) ≤ 12 + d := by omega
  have i2 : (12 + (d : Int)).toNat = 12 + d := by omega
  have hw2 : w32 (12 + (d : Int)) = 12 + d := w32e (by omega)
  refine ⟨pI s 79 (12 + d) (cK (gI s 79 (12 + d)) (tH T)), ?_, Mv_x _ _ _⟩
  generalize hc : (fun h : Nat => cnt (fun n => rigT T (mirN N d (h : Int)) d (n : Int)) 100) = c
  have hc1 : ∀ k : Nat, cnt (fun n => rigT T (mirN N d (k : Int)) d (n : Int)) 100 = c k := fun k => congrFun hc k
  unfold X13_mirrorBest_b30
  rw [show (s, (76 : Int), (d : Int), (0 : Int), (-1 : Int), (0 : Int)) = (fun k : Nat => (pI s 79 (12 + d) (cK (gI s 79 (12 + d)) k), (76 : Int), (d : Int), (bestF c k).1, (bestF c k).2, (k : Int))) 0 by
    show _ = (pI s 79 (12 + d) (gI s 79 (12 + d)), (76 : Int), (d : Int), (0 : Int), (-1 : Int), (0 : Int))
    rw [pI_self]]
  refine iter_run (tH T) FU (fun k : Nat => (pI s 79 (12 + d) (cK (gI s 79 (12 + d)) k), (76 : Int), (d : Int), (bestF c k).1, (bestF c k).2, (k : Int))) (by clear hw2; unfold FU; omega) (fun k hk rec => ?_) (fun rec => ?_)
  · have hM1 := mF (hW.1.x (12 + d) (cK (gI s 79 (12 + d)) k))
    have hg : ¬ tH T ≤ k := by clear hw2; omega
    have hk6 : k ≤ 6000 := by clear hw2; omega
    have hWk := hW.mir (x := (k : Int)) hd (by clear hw2; omega)
    have hS2 : Sh (pI s 79 (12 + d) (k : Int)) := hS
    have inner : X13_mirrorBest_b59 (fun (s : St) (x0 x1 x2 x3 x4 : Int) => rec (s, x0, x1, x2, x3, x4)) FU (pI s 79 (12 + d) (k : Int)) 76 d (bestF c k).1 (bestF c k).2 (k : Int) 0 0 = rec (pI s 79 (12 + d) (cK (gI s 79 (12 + d)) (k + 1)), (76 : Int), (d : Int), (bestF c (k + 1)).1, (bestF c (k + 1)).2, ((k + 1 : Nat) : Int)) := by
      unfold X13_mirrorBest_b59
      refine iter_run 100 FU (fun n : Nat => (pI s 79 (12 + d) (k : Int), (76 : Int), (d : Int), (bestF c k).1, (bestF c k).2, (k : Int), ((cnt (fun n => rigT T (mirN N d (k : Int)) d (n : Int)) n : Nat) : Int), (n : Int))) (by clear hw2; unfold FU; omega) (fun n hn rec2 => ?_) (fun rec2 => ?_)
      · have hg2 : ¬ (100 : Int) ≤ n := by clear hw2; omega
        have e := m_right (night := (n : Int)) hWk hd (by clear hw2; omega)
        have hc := cnt_le (fun n => rigT T (mirN N d (k : Int)) d (n : Int)) n
        have hc6 : cnt (fun n => rigT T (mirN N d (k : Int)) d (n : Int)) n ≤ 6000 := by clear hw2; omega
        have hn6 : n ≤ 6000 := by clear hw2; omega
        have hv := wk1 hn6
        have hv1 := wk1 hc6
        have hv0 := wk0 hc6
        by_cases h : rigT T (mirN N d (k : Int)) d (n : Int) = true
        · have hb := cnt_s1 (P := fun n => rigT T (mirN N d (k : Int)) d (n : Int)) (d := n) h
          simp [X13_mirrorBest_b59_body, X13_mirrorBest_b83, tF, isK, shF hS, hg2, e, h, hb, hv, hv1]
        · have hb := cnt_s0 (P := fun n => rigT T (mirN N d (k : Int)) d (n : Int)) (d := n) h
          simp [X13_mirrorBest_b59_body, X13_mirrorBest_b83, tF, isK, shF hS, hg2, e, h, hb, hv, hv0]
      · have hw := wk1 hk6
        simp only []
        rw [hc1]
        by_cases h : (bestF c k).2 < (c k : Int)
        · have hb := bestF_1 h
          simp [X13_mirrorBest_b59_body, X13_mirrorBest_b107, h, hb, hw, cK_s]
        · have hb := bestF_0 h
          simp [X13_mirrorBest_b59_body, X13_mirrorBest_b107, h, hb, hw, cK_s]
    simp [X13_mirrorBest_b30_body, tF, isK, shF hS, hM, hM1.2.2.2.2.2.2.1, hg, hw2, g12, g0, i2, pI_pI, inner]
  · have hM1 := mF (hW.1.x (12 + d) (cK (gI s 79 (12 + d)) (tH T)))
    have hS2 : Sh (pI s 79 (12 + d) (cK (gI s 79 (12 + d)) (tH T))) := hS
    simp [X13_mirrorBest_b30_body, tF, isK, shF hS, hM, hM1.2.2.2.2.2.2.1, m_good hS2]
end MLOOP3
