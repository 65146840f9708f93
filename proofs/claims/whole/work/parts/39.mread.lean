/-! the reference's reading calls -/
section MREAD
variable {W : Wd} {s : St}
theorem r_person {T : Tw} {N : Nw} {t : Int} {p : Nat} {what : Int} (hW : WM T N t s) (hx : RXf (fun j => gI s 78 j) T N) (hp : p < tP T) (hc : what = 0 ∨ what = 1 ∨ what = 2) : X13_person_b37 FU s 76 p what 0 0 = some (if what = 0 then nHo N p else if what = 1 then (defT T p : Int) else (hebT T N p (nN N) : Int), fiM 0 s) := by
  have hS := hW.1.1
  have hM := mF hW.1
  obtain ⟨t1, t2, t3, t4, t5, t6, t7, t8⟩ := hW.1.2.1.1
  unfold X13_person_b37
  refine iter_run (tD T) FU (fun k : Nat => (s, (76 : Int), (p : Int), what, ((bst (fun d => decide ((tFo T d : Int) = (p : Int))) k : Nat) : Int), (k : Int))) (fuel7 (by omega)) (fun k hk rec => ?_) (fun rec => ?_)
  · have hg : ¬ tD T ≤ k := by omega
    have hg2 : (k : Int) < 6 := by omega
    have hk6 : k ≤ 6000 := by omega
    have e := (hW.1.2.2.2.2.2.1 k hk).2
    have ho := or_bst (P := fun d => decide ((tFo T d : Int) = (p : Int))) (d := k) (by omega)
    have hz := or_bst0 (P := fun d => decide ((tFo T d : Int) = (p : Int))) (d := k) (by omega)
    have hw := wk1 hk6
    by_cases h : (tFo T k : Int) = (p : Int)
    · have hb := bst_s1 (P := fun d => decide ((tFo T d : Int) = (p : Int))) (d := k) (by simp [h])
      simp only [h] at ho hb e
      simp only [] at *
      simp [X13_person_b37_body, X13_person_b72, tF, isK, shF hS, hM, e, h, ho, hb, hw, hg, hg2]
    · have hb := bst_s0 (P := fun d => decide ((tFo T d : Int) = (p : Int))) (d := k) (by simp [h])
      simp [X13_person_b37_body, X13_person_b72, tF, isK, shF hS, hM, e, h, hz, hb, hw, hg, hg2]
  · have g1 : (p : Int) < 19 := by omega
    have x1 : gI s 78 p = nHo N p := hx.1 p hp
    have x2 : gI s 78 18 = nN N := hx.2.2
    have e4 := m_heb (p := (p : Int)) hW hW.2.1.1
    rcases hc with rfl | rfl | rfl <;>
    simp [X13_person_b37_body, X13_person_b115, tF, isK, shF hS, hM, g1, x1, x2, e4, m_good hS, defT]
theorem mm_comesOut (h : MWd W s) (d n : Int) : MR s (q_comesOut W d n).1 (q_comesOut W d n).2 (X13_comesOut s 76 d n) := by
  obtain ⟨hS, hno, hW⟩ := h
  have hS1 : Sh (pI s 76 0 0) := hS
  unfold X13_comesOut
  rcases W with _ | ⟨T, N⟩
  · have hn := hno rfl
    have hn1 : gR (pI s 76 0 0) 76 3 < 0 := hn
    refine MR_no ?_
    simp [tF, sRF, wkF, isK, shF hS, m_rn, m_in, m_refd hS1, m_works hS1, q_comesOut, rd, g2, hn, n_dead hS1 hn1, n_pers hS1 hn1, n_hous hS1 hn1]
  · obtain ⟨t, hM, hN, hx⟩ := hW T N rfl
    have hM1 := hM.tr 0 0
    have hF := mF hM
    have hX := wk_world hM hN hx 0 0
    have hSx := hX.1.1
    by_cases j0 : (0 ≤ d ∧ d < tD T) <;> by_cases j1 : 0 ≤ n ∧ n ≤ 99
    · obtain ⟨d, rfl, j0'⟩ := nat_of j0
      refine MR_ok ?_
      simp [tF, sRF, wkF, isK, shF hS, m_rn, m_in, m_refd hS1, m_works hS1, q_comesOut, rd, g2, hF.1, m_dead hM1, m_pers hM1, m_hous hM1, m_good hSx, j0', j1, m_aim hX j0', m_out hX j0' (aimT_b hN hM.2.1 j0') j1]
    all_goals (refine MR_no ?_; simp [tF, sRF, wkF, isK, shF hS, m_rn, m_in, m_refd hS1, m_works hS1, q_comesOut, rd, g2, hF.1, m_dead hM1, m_pers hM1, m_hous hM1, j0, j1] <;> intros <;> omega)
theorem mm_person (h : MWd W s) (p what : Int) : MR s (q_person W p what).1 (q_person W p what).2 (X13_person s 76 p what) := by
  obtain ⟨hS, hno, hW⟩ := h
  have hS1 : Sh (pI s 76 0 0) := hS
  unfold X13_person
  rcases W with _ | ⟨T, N⟩
  · have hn := hno rfl
    have hn1 : gR (pI s 76 0 0) 76 3 < 0 := hn
    refine MR_no ?_
    simp [tF, sRF, wkF, isK, shF hS, m_rn, m_in, m_refd hS1, m_works hS1, q_person, rd, g2, X13_person_b22, hn, n_dead hS1 hn1, n_pers hS1 hn1, n_hous hS1 hn1]
  · obtain ⟨t, hM, hN, hx⟩ := hW T N rfl
    have hM1 := hM.tr 0 0
    have hF := mF hM
    have hX := wk_world hM hN hx 0 0
    have hSx := hX.1.1
    by_cases j0 : (0 ≤ p ∧ p < tP T) <;> by_cases j1 : (0 ≤ what ∧ what ≤ 2)
    · obtain ⟨p, rfl, j0'⟩ := nat_of j0
      have hc : what = 0 ∨ what = 1 ∨ what = 2 := by omega
      refine MR_ok ?_
      simp [tF, sRF, wkF, isK, shF hS, m_rn, m_in, m_refd hS1, m_works hS1, q_person, rd, g2, X13_person_b22, hF.1, m_dead hM1, m_pers hM1, m_hous hM1, m_good hSx, j0', j1, r_person hX hx j0' hc]
    all_goals (refine MR_no ?_; simp [tF, sRF, wkF, isK, shF hS, m_rn, m_in, m_refd hS1, m_works hS1, q_person, rd, g2, X13_person_b22, hF.1, m_dead hM1, m_pers hM1, m_hous hM1, j0, j1] <;> intros <;> omega)
theorem mm_house (h : MWd W s) (ho : Int) : MR s (q_house W ho).1 (q_house W ho).2 (X13_house s 76 ho) := by
  obtain ⟨hS, hno, hW⟩ := h
  have hS1 : Sh (pI s 76 0 0) := hS
  unfold X13_house
  rcases W with _ | ⟨T, N⟩
  · have hn := hno rfl
    have hn1 : gR (pI s 76 0 0) 76 3 < 0 := hn
    refine MR_no ?_
    simp [tF, sRF, wkF, isK, shF hS, m_rn, m_in, m_refd hS1, m_works hS1, q_house, rd, g2, hn, n_dead hS1 hn1, n_pers hS1 hn1, n_hous hS1 hn1]
  · obtain ⟨t, hM, hN, hx⟩ := hW T N rfl
    have hM1 := hM.tr 0 0
    have hF := mF hM
    have hX := wk_world hM hN hx 0 0
    have hSx := hX.1.1
    by_cases j0 : (0 ≤ ho ∧ ho < tH T)
    · obtain ⟨ho, rfl, j0'⟩ := nat_of j0
      refine MR_ok ?_
      simp [tF, sRF, wkF, isK, shF hS, m_rn, m_in, m_refd hS1, m_works hS1, q_house, rd, g2, hF.1, m_dead hM1, m_pers hM1, m_hous hM1, m_good hSx, j0', m_who hX]
    all_goals (refine MR_no ?_; simp [tF, sRF, wkF, isK, shF hS, m_rn, m_in, m_refd hS1, m_works hS1, q_house, rd, g2, hF.1, m_dead hM1, m_pers hM1, m_hous hM1, j0] <;> intros <;> omega)
theorem mm_outIf (h : MWd W s) (d aim n : Int) : MR s (q_outIf W d aim n).1 (q_outIf W d aim n).2 (X13_outIf s 76 d aim n) := by
  obtain ⟨hS, hno, hW⟩ := h
  have hS1 : Sh (pI s 76 0 0) := hS
  unfold X13_outIf
  rcases W with _ | ⟨T, N⟩
  · have hn := hno rfl
    have hn1 : gR (pI s 76 0 0) 76 3 < 0 := hn
    refine MR_no ?_
    simp [tF, sRF, wkF, isK, shF hS, m_rn, m_in, m_refd hS1, m_works hS1, q_outIf, rd, g2, X13_outIf_b27, X13_outIf_b26, hn, n_dead hS1 hn1, n_pers hS1 hn1, n_hous hS1 hn1]
  · obtain ⟨t, hM, hN, hx⟩ := hW T N rfl
    have hM1 := hM.tr 0 0
    have hF := mF hM
    have hX := wk_world hM hN hx 0 0
    have hSx := hX.1.1
    by_cases j0 : (0 ≤ d ∧ d < tD T) <;> by_cases j1 : (0 ≤ aim ∧ aim < tH T) <;> by_cases j2 : 0 ≤ n ∧ n ≤ 99
    · obtain ⟨d, rfl, j0'⟩ := nat_of j0
      obtain ⟨aim, rfl, j1'⟩ := nat_of j1
      refine MR_ok ?_
      simp [tF, sRF, wkF, isK, shF hS, m_rn, m_in, m_refd hS1, m_works hS1, q_outIf, rd, g2, X13_outIf_b27, X13_outIf_b26, hF.1, m_dead hM1, m_pers hM1, m_hous hM1, m_good hSx, j0', j1', j2, m_out hX j0' (aim := (aim : Int)) (by have := hM.2.1.1.2.1; omega) j2]
    all_goals (refine MR_no ?_; simp [tF, sRF, wkF, isK, shF hS, m_rn, m_in, m_refd hS1, m_works hS1, q_outIf, rd, g2, X13_outIf_b27, X13_outIf_b26, hF.1, m_dead hM1, m_pers hM1, m_hous hM1, j0, j1, j2] <;> intros <;> omega)
theorem mm_hears (h : MWd W s) (d n : Int) : MR s (q_hears W d n).1 (q_hears W d n).2 (X13_hears s 76 d n) := by
  obtain ⟨hS, hno, hW⟩ := h
  have hS1 : Sh (pI s 76 0 0) := hS
  unfold X13_hears
  rcases W with _ | ⟨T, N⟩
  · have hn := hno rfl
    have hn1 : gR (pI s 76 0 0) 76 3 < 0 := hn
    refine MR_no ?_
    simp [tF, sRF, wkF, isK, shF hS, m_rn, m_in, m_refd hS1, m_works hS1, q_hears, rd, g2, hn, n_dead hS1 hn1, n_pers hS1 hn1, n_hous hS1 hn1]
  · obtain ⟨t, hM, hN, hx⟩ := hW T N rfl
    have hM1 := hM.tr 0 0
    have hF := mF hM
    have hX := wk_world hM hN hx 0 0
    have hSx := hX.1.1
    by_cases j0 : (0 ≤ d ∧ d < tD T) <;> by_cases j1 : 0 ≤ n ∧ n ≤ 99
    · obtain ⟨d, rfl, j0'⟩ := nat_of j0
      refine MR_ok ?_
      simp [tF, sRF, wkF, isK, shF hS, m_rn, m_in, m_refd hS1, m_works hS1, q_hears, rd, g2, hF.1, m_dead hM1, m_pers hM1, m_hous hM1, m_good hSx, j0', j1, m_hea hX j0' j1]
    all_goals (refine MR_no ?_; simp [tF, sRF, wkF, isK, shF hS, m_rn, m_in, m_refd hS1, m_works hS1, q_hears, rd, g2, hF.1, m_dead hM1, m_pers hM1, m_hous hM1, j0, j1] <;> intros <;> omega)
theorem mm_right (h : MWd W s) (n : Int) : MR s (q_right W n).1 (q_right W n).2 (X13_right s 76 n) := by
  obtain ⟨hS, hno, hW⟩ := h
  have hS1 : Sh (pI s 76 0 0) := hS
  unfold X13_right
  rcases W with _ | ⟨T, N⟩
  · have hn := hno rfl
    have hn1 : gR (pI s 76 0 0) 76 3 < 0 := hn
    refine MR_no ?_
    simp [tF, sRF, wkF, isK, shF hS, m_rn, m_in, m_refd hS1, m_works hS1, q_right, rd, g2, X13_right_b18, hn, n_dead hS1 hn1, n_pers hS1 hn1, n_hous hS1 hn1]
  · obtain ⟨t, hM, hN, hx⟩ := hW T N rfl
    have hM1 := hM.tr 0 0
    have hF := mF hM
    have hX := wk_world hM hN hx 0 0
    have hSx := hX.1.1
    by_cases j0 : 0 ≤ n ∧ n ≤ 99
    · refine MR_ok ?_
      simp [tF, sRF, wkF, isK, shF hS, m_rn, m_in, m_refd hS1, m_works hS1, q_right, rd, g2, X13_right_b18, hF.1, m_dead hM1, m_pers hM1, m_hous hM1, m_good hSx, j0, m_rightOn hX j0]
    all_goals (refine MR_no ?_; simp [tF, sRF, wkF, isK, shF hS, m_rn, m_in, m_refd hS1, m_works hS1, q_right, rd, g2, X13_right_b18, hF.1, m_dead hM1, m_pers hM1, m_hous hM1, j0] <;> intros <;> omega)
theorem mm_medium (h : MWd W s) (n : Int) : MR s (q_medium W n).1 (q_medium W n).2 (X13_medium s 76 n) := by
  obtain ⟨hS, hno, hW⟩ := h
  have hS1 : Sh (pI s 76 0 0) := hS
  unfold X13_medium
  rcases W with _ | ⟨T, N⟩
  · have hn := hno rfl
    have hn1 : gR (pI s 76 0 0) 76 3 < 0 := hn
    refine MR_no ?_
    simp [tF, sRF, wkF, isK, shF hS, m_rn, m_in, m_refd hS1, m_works hS1, q_medium, rd, g2, X13_medium_b18, hn, n_dead hS1 hn1, n_pers hS1 hn1, n_hous hS1 hn1]
  · obtain ⟨t, hM, hN, hx⟩ := hW T N rfl
    have hM1 := hM.tr 0 0
    have hF := mF hM
    have hX := wk_world hM hN hx 0 0
    have hSx := hX.1.1
    by_cases j0 : 0 ≤ n ∧ n ≤ 99
    · refine MR_ok ?_
      simp [tF, sRF, wkF, isK, shF hS, m_rn, m_in, m_refd hS1, m_works hS1, q_medium, rd, g2, X13_medium_b18, hF.1, m_dead hM1, m_pers hM1, m_hous hM1, m_good hSx, j0, r_medium hX j0]
    all_goals (refine MR_no ?_; simp [tF, sRF, wkF, isK, shF hS, m_rn, m_in, m_refd hS1, m_works hS1, q_medium, rd, g2, X13_medium_b18, hF.1, m_dead hM1, m_pers hM1, m_hous hM1, j0] <;> intros <;> omega)
theorem mm_silent (h : MWd W s) (n : Int) : MR s (q_silent W n).1 (q_silent W n).2 (X13_silent s 76 n) := by
  obtain ⟨hS, hno, hW⟩ := h
  have hS1 : Sh (pI s 76 0 0) := hS
  unfold X13_silent
  rcases W with _ | ⟨T, N⟩
  · have hn := hno rfl
    have hn1 : gR (pI s 76 0 0) 76 3 < 0 := hn
    refine MR_no ?_
    simp [tF, sRF, wkF, isK, shF hS, m_rn, m_in, m_refd hS1, m_works hS1, q_silent, rd, g2, X13_silent_b18, hn, n_dead hS1 hn1, n_pers hS1 hn1, n_hous hS1 hn1]
  · obtain ⟨t, hM, hN, hx⟩ := hW T N rfl
    have hM1 := hM.tr 0 0
    have hF := mF hM
    have hX := wk_world hM hN hx 0 0
    have hSx := hX.1.1
    by_cases j0 : 0 ≤ n ∧ n ≤ 99
    · refine MR_ok ?_
      simp [tF, sRF, wkF, isK, shF hS, m_rn, m_in, m_refd hS1, m_works hS1, q_silent, rd, g2, X13_silent_b18, hF.1, m_dead hM1, m_pers hM1, m_hous hM1, m_good hSx, j0, r_silent hX j0]
    all_goals (refine MR_no ?_; simp [tF, sRF, wkF, isK, shF hS, m_rn, m_in, m_refd hS1, m_works hS1, q_silent, rd, g2, X13_silent_b18, hF.1, m_dead hM1, m_pers hM1, m_hous hM1, j0] <;> intros <;> omega)
theorem mm_rightFrom (h : MWd W s) (d n : Int) : MR s (q_rightFrom W d n).1 (q_rightFrom W d n).2 (X13_rightFrom s 76 d n) := by
  obtain ⟨hS, hno, hW⟩ := h
  have hS1 : Sh (pI s 76 0 0) := hS
  unfold X13_rightFrom
  rcases W with _ | ⟨T, N⟩
  · have hn := hno rfl
    have hn1 : gR (pI s 76 0 0) 76 3 < 0 := hn
    refine MR_no ?_
    simp [tF, sRF, wkF, isK, shF hS, m_rn, m_in, m_refd hS1, m_works hS1, q_rightFrom, rd, g2, hn, n_dead hS1 hn1, n_pers hS1 hn1, n_hous hS1 hn1]
  · obtain ⟨t, hM, hN, hx⟩ := hW T N rfl
    have hM1 := hM.tr 0 0
    have hF := mF hM
    have hX := wk_world hM hN hx 0 0
    have hSx := hX.1.1
    by_cases j0 : (0 ≤ d ∧ d < tD T) <;> by_cases j1 : 0 ≤ n ∧ n ≤ 99
    · obtain ⟨d, rfl, j0'⟩ := nat_of j0
      have hm : n + ((100 - n).toNat : Int) = 100 := by omega
      refine MR_ok ?_
      simp [tF, sRF, wkF, isK, shF hS, m_rn, m_in, m_refd hS1, m_works hS1, q_rightFrom, rd, g2, hF.1, m_dead hM1, m_pers hM1, m_hous hM1, m_good hSx, j0', j1, r_rightFrom hX j0' j1 hm]
    all_goals (refine MR_no ?_; simp [tF, sRF, wkF, isK, shF hS, m_rn, m_in, m_refd hS1, m_works hS1, q_rightFrom, rd, g2, hF.1, m_dead hM1, m_pers hM1, m_hous hM1, j0, j1] <;> intros <;> omega)
theorem mm_nightsOf (h : MWd W s) (p d : Int) : MR s (q_nightsOf W p d).1 (q_nightsOf W p d).2 (X13_nightsOf s 76 p d) := by
  obtain ⟨hS, hno, hW⟩ := h
  have hS1 : Sh (pI s 76 0 0) := hS
  unfold X13_nightsOf
  rcases W with _ | ⟨T, N⟩
  · have hn := hno rfl
    have hn1 : gR (pI s 76 0 0) 76 3 < 0 := hn
    refine MR_no ?_
    simp [tF, sRF, wkF, isK, shF hS, m_rn, m_in, m_refd hS1, m_works hS1, q_nightsOf, rd, g2, X13_nightsOf_b21, hn, n_dead hS1 hn1, n_pers hS1 hn1, n_hous hS1 hn1]
  · obtain ⟨t, hM, hN, hx⟩ := hW T N rfl
    have hM1 := hM.tr 0 0
    have hF := mF hM
    have hX := wk_world hM hN hx 0 0
    have hSx := hX.1.1
    by_cases j0 : (0 ≤ p ∧ p < tP T) <;> by_cases j1 : (0 ≤ d ∧ d < tD T)
    · obtain ⟨p, rfl, j0'⟩ := nat_of j0
      obtain ⟨d, rfl, j1'⟩ := nat_of j1
      refine MR_ok ?_
      simp [tF, sRF, wkF, isK, shF hS, m_rn, m_in, m_refd hS1, m_works hS1, q_nightsOf, rd, g2, X13_nightsOf_b21, hF.1, m_dead hM1, m_pers hM1, m_hous hM1, m_good hSx, j0', j1', r_nightsOf hX j1']
    all_goals (refine MR_no ?_; simp [tF, sRF, wkF, isK, shF hS, m_rn, m_in, m_refd hS1, m_works hS1, q_nightsOf, rd, g2, X13_nightsOf_b21, hF.1, m_dead hM1, m_pers hM1, m_hous hM1, j0, j1] <;> intros <;> omega)
theorem mm_bestNight (h : MWd W s)  : MR s (q_bestNight W).1 (q_bestNight W).2 (X13_bestNight s 76) := by
  obtain ⟨hS, hno, hW⟩ := h
  have hS1 : Sh (pI s 76 0 0) := hS
  unfold X13_bestNight
  rcases W with _ | ⟨T, N⟩
  · have hn := hno rfl
    have hn1 : gR (pI s 76 0 0) 76 3 < 0 := hn
    refine MR_no ?_
    simp [tF, sRF, wkF, isK, shF hS, m_rn, m_in, m_refd hS1, m_works hS1, q_bestNight, rd, g2, hn, n_dead hS1 hn1, n_pers hS1 hn1, n_hous hS1 hn1]
  · obtain ⟨t, hM, hN, hx⟩ := hW T N rfl
    have hM1 := hM.tr 0 0
    have hF := mF hM
    have hX := wk_world hM hN hx 0 0
    have hSx := hX.1.1
    · refine MR_ok ?_
      simp [tF, sRF, wkF, isK, shF hS, m_rn, m_in, m_refd hS1, m_works hS1, q_bestNight, rd, g2, hF.1, m_dead hM1, m_pers hM1, m_hous hM1, m_good hSx, r_bestNight hX]
theorem mm_perfect (h : MWd W s)  : MR s (q_perfect W).1 (q_perfect W).2 (X13_perfect s 76) := by
  obtain ⟨hS, hno, hW⟩ := h
  have hS1 : Sh (pI s 76 0 0) := hS
  unfold X13_perfect
  rcases W with _ | ⟨T, N⟩
  · have hn := hno rfl
    have hn1 : gR (pI s 76 0 0) 76 3 < 0 := hn
    refine MR_no ?_
    simp [tF, sRF, wkF, isK, shF hS, m_rn, m_in, m_refd hS1, m_works hS1, q_perfect, rd, g2, hn, n_dead hS1 hn1, n_pers hS1 hn1, n_hous hS1 hn1]
  · obtain ⟨t, hM, hN, hx⟩ := hW T N rfl
    have hM1 := hM.tr 0 0
    have hF := mF hM
    have hX := wk_world hM hN hx 0 0
    have hSx := hX.1.1
    · refine MR_ok ?_
      simp [tF, sRF, wkF, isK, shF hS, m_rn, m_in, m_refd hS1, m_works hS1, q_perfect, rd, g2, hF.1, m_dead hM1, m_pers hM1, m_hous hM1, m_good hSx, r_perfect hX]
theorem mm_together (h : MWd W s) (d o : Int) : MR s (q_together W d o).1 (q_together W d o).2 (X13_together s 76 d o) := by
  obtain ⟨hS, hno, hW⟩ := h
  have hS1 : Sh (pI s 76 0 0) := hS
  unfold X13_together
  rcases W with _ | ⟨T, N⟩
  · have hn := hno rfl
    have hn1 : gR (pI s 76 0 0) 76 3 < 0 := hn
    refine MR_no ?_
    simp [tF, sRF, wkF, isK, shF hS, m_rn, m_in, m_refd hS1, m_works hS1, q_together, rd, g2, X13_together_b26, hn, n_dead hS1 hn1, n_pers hS1 hn1, n_hous hS1 hn1]
  · obtain ⟨t, hM, hN, hx⟩ := hW T N rfl
    have hM1 := hM.tr 0 0
    have hF := mF hM
    have hX := wk_world hM hN hx 0 0
    have hSx := hX.1.1
    by_cases j0 : (0 ≤ d ∧ d < tD T) <;> by_cases j1 : (0 ≤ o ∧ o < tD T) <;> by_cases j2 : ¬ d = o
    · obtain ⟨d, rfl, j0'⟩ := nat_of j0
      obtain ⟨o, rfl, j1'⟩ := nat_of j1
      refine MR_ok ?_
      simp [tF, sRF, wkF, isK, shF hS, m_rn, m_in, m_refd hS1, m_works hS1, q_together, rd, g2, X13_together_b26, hF.1, m_dead hM1, m_pers hM1, m_hous hM1, m_good hSx, j0', j1', j2, r_together hX j0' j1']
    all_goals (refine MR_no ?_; simp [tF, sRF, wkF, isK, shF hS, m_rn, m_in, m_refd hS1, m_works hS1, q_together, rd, g2, X13_together_b26, hF.1, m_dead hM1, m_pers hM1, m_hous hM1, j0, j1, j2] <;> intros <;> omega)
theorem mm_aimFor (h : MWd W s) (d p n : Int) : MR s (q_aimFor W d p n).1 (q_aimFor W d p n).2 (X13_aimFor s 76 d p n) := by
  obtain ⟨hS, hno, hW⟩ := h
  have hS1 : Sh (pI s 76 0 0) := hS
  unfold X13_aimFor
  rcases W with _ | ⟨T, N⟩
  · have hn := hno rfl
    have hn1 : gR (pI s 76 0 0) 76 3 < 0 := hn
    refine MR_no ?_
    simp [tF, sRF, wkF, isK, shF hS, m_rn, m_in, m_refd hS1, m_works hS1, q_aimFor, rd, g2, X13_aimFor_b27, X13_aimFor_b26, hn, n_dead hS1 hn1, n_pers hS1 hn1, n_hous hS1 hn1]
  · obtain ⟨t, hM, hN, hx⟩ := hW T N rfl
    have hM1 := hM.tr 0 0
    have hF := mF hM
    have hX := wk_world hM hN hx 0 0
    have hSx := hX.1.1
    by_cases j0 : (0 ≤ d ∧ d < tD T) <;> by_cases j1 : (0 ≤ p ∧ p < tP T) <;> by_cases j2 : 0 ≤ n ∧ n ≤ 99
    · obtain ⟨d, rfl, j0'⟩ := nat_of j0
      obtain ⟨p, rfl, j1'⟩ := nat_of j1
      refine MR_ok ?_
      simp [tF, sRF, wkF, isK, shF hS, m_rn, m_in, m_refd hS1, m_works hS1, q_aimFor, rd, g2, X13_aimFor_b27, X13_aimFor_b26, hF.1, m_dead hM1, m_pers hM1, m_hous hM1, m_good hSx, j0', j1', j2, r_aimFor hX j0' j1' j2]
    all_goals (refine MR_no ?_; simp [tF, sRF, wkF, isK, shF hS, m_rn, m_in, m_refd hS1, m_works hS1, q_aimFor, rd, g2, X13_aimFor_b27, X13_aimFor_b26, hF.1, m_dead hM1, m_pers hM1, m_hous hM1, j0, j1, j2] <;> intros <;> omega)
theorem mm_aims (h : MWd W s) (d p n : Int) : MR s (q_aims W d p n).1 (q_aims W d p n).2 (X13_aims s 76 d p n) := by
  obtain ⟨hS, hno, hW⟩ := h
  have hS1 : Sh (pI s 76 0 0) := hS
  unfold X13_aims
  rcases W with _ | ⟨T, N⟩
  · have hn := hno rfl
    have hn1 : gR (pI s 76 0 0) 76 3 < 0 := hn
    refine MR_no ?_
    simp [tF, sRF, wkF, isK, shF hS, m_rn, m_in, m_refd hS1, m_works hS1, q_aims, rd, g2, X13_aims_b27, X13_aims_b26, hn, n_dead hS1 hn1, n_pers hS1 hn1, n_hous hS1 hn1]
  · obtain ⟨t, hM, hN, hx⟩ := hW T N rfl
    have hM1 := hM.tr 0 0
    have hF := mF hM
    have hX := wk_world hM hN hx 0 0
    have hSx := hX.1.1
    by_cases j0 : (0 ≤ d ∧ d < tD T) <;> by_cases j1 : (0 ≤ p ∧ p < tP T) <;> by_cases j2 : 0 ≤ n ∧ n ≤ 99
    · obtain ⟨d, rfl, j0'⟩ := nat_of j0
      obtain ⟨p, rfl, j1'⟩ := nat_of j1
      refine MR_ok ?_
      simp [tF, sRF, wkF, isK, shF hS, m_rn, m_in, m_refd hS1, m_works hS1, q_aims, rd, g2, X13_aims_b27, X13_aims_b26, hF.1, m_dead hM1, m_pers hM1, m_hous hM1, m_good hSx, j0', j1', j2, r_aims hX j0' j2]
    all_goals (refine MR_no ?_; simp [tF, sRF, wkF, isK, shF hS, m_rn, m_in, m_refd hS1, m_works hS1, q_aims, rd, g2, X13_aims_b27, X13_aims_b26, hF.1, m_dead hM1, m_pers hM1, m_hous hM1, j0, j1, j2] <;> intros <;> omega)
theorem mm_mirrorFor (h : MWd W s) (d n : Int) : MR s (q_mirrorFor W d n).1 (q_mirrorFor W d n).2 (X13_mirrorFor s 76 d n) := by
  obtain ⟨hS, hno, hW⟩ := h
  have hS1 : Sh (pI s 76 0 0) := hS
  unfold X13_mirrorFor
  rcases W with _ | ⟨T, N⟩
  · have hn := hno rfl
    have hn1 : gR (pI s 76 0 0) 76 3 < 0 := hn
    refine MR_no ?_
    simp [tF, sRF, wkF, isK, shF hS, m_rn, m_in, m_refd hS1, m_works hS1, q_mirrorFor, rd, g2, hn, n_dead hS1 hn1, n_pers hS1 hn1, n_hous hS1 hn1]
  · obtain ⟨t, hM, hN, hx⟩ := hW T N rfl
    have hM1 := hM.tr 0 0
    have hF := mF hM
    have hX := wk_world hM hN hx 0 0
    have hSx := hX.1.1
    by_cases j0 : (0 ≤ d ∧ d < tD T) <;> by_cases j1 : 0 ≤ n ∧ n ≤ 99
    · obtain ⟨d, rfl, j0'⟩ := nat_of j0
      obtain ⟨s9, e9, v9⟩ := r_mirrorFor hX j0' j1
      refine MR_of (((Mv_pI (k := 0) (x := 0) (by decide)).trans (Mv_wk _)).trans v9) ?_
      simp [tF, sRF, wkF, isK, shF hS, m_rn, m_in, m_refd hS1, m_works hS1, q_mirrorFor, rd, g2, hF.1, m_dead hM1, m_pers hM1, m_hous hM1, m_good hSx, j0', j1, e9]
    all_goals (refine MR_no ?_; simp [tF, sRF, wkF, isK, shF hS, m_rn, m_in, m_refd hS1, m_works hS1, q_mirrorFor, rd, g2, hF.1, m_dead hM1, m_pers hM1, m_hous hM1, j0, j1] <;> intros <;> omega)
theorem mm_slipFor (h : MWd W s) (d n : Int) : MR s (q_slipFor W d n).1 (q_slipFor W d n).2 (X13_slipFor s 76 d n) := by
  obtain ⟨hS, hno, hW⟩ := h
  have hS1 : Sh (pI s 76 0 0) := hS
  unfold X13_slipFor
  rcases W with _ | ⟨T, N⟩
  · have hn := hno rfl
    have hn1 : gR (pI s 76 0 0) 76 3 < 0 := hn
    refine MR_no ?_
    simp [tF, sRF, wkF, isK, shF hS, m_rn, m_in, m_refd hS1, m_works hS1, q_slipFor, rd, g2, hn, n_dead hS1 hn1, n_pers hS1 hn1, n_hous hS1 hn1]
  · obtain ⟨t, hM, hN, hx⟩ := hW T N rfl
    have hM1 := hM.tr 0 0
    have hF := mF hM
    have hX := wk_world hM hN hx 0 0
    have hSx := hX.1.1
    by_cases j0 : (0 ≤ d ∧ d < tD T) <;> by_cases j1 : 0 ≤ n ∧ n ≤ 99
    · obtain ⟨d, rfl, j0'⟩ := nat_of j0
      obtain ⟨s9, e9, v9⟩ := r_slipFor hX j0' j1
      refine MR_of (((Mv_pI (k := 0) (x := 0) (by decide)).trans (Mv_wk _)).trans v9) ?_
      simp [tF, sRF, wkF, isK, shF hS, m_rn, m_in, m_refd hS1, m_works hS1, q_slipFor, rd, g2, hF.1, m_dead hM1, m_pers hM1, m_hous hM1, m_good hSx, j0', j1, e9]
    all_goals (refine MR_no ?_; simp [tF, sRF, wkF, isK, shF hS, m_rn, m_in, m_refd hS1, m_works hS1, q_slipFor, rd, g2, hF.1, m_dead hM1, m_pers hM1, m_hous hM1, j0, j1] <;> intros <;> omega)
theorem mm_mirrorBest (h : MWd W s) (d : Int) : MR s (q_mirrorBest W d).1 (q_mirrorBest W d).2 (X13_mirrorBest s 76 d) := by
  obtain ⟨hS, hno, hW⟩ := h
  have hS1 : Sh (pI s 76 0 0) := hS
  unfold X13_mirrorBest
  rcases W with _ | ⟨T, N⟩
  · have hn := hno rfl
    have hn1 : gR (pI s 76 0 0) 76 3 < 0 := hn
    refine MR_no ?_
    simp [tF, sRF, wkF, isK, shF hS, m_rn, m_in, m_refd hS1, m_works hS1, q_mirrorBest, rd, g2, hn, n_dead hS1 hn1, n_pers hS1 hn1, n_hous hS1 hn1]
  · obtain ⟨t, hM, hN, hx⟩ := hW T N rfl
    have hM1 := hM.tr 0 0
    have hF := mF hM
    have hX := wk_world hM hN hx 0 0
    have hSx := hX.1.1
    by_cases j0 : (0 ≤ d ∧ d < tD T)
    · obtain ⟨d, rfl, j0'⟩ := nat_of j0
      obtain ⟨s9, e9, v9⟩ := r_mirrorBest hX j0'
      refine MR_of (((Mv_pI (k := 0) (x := 0) (by decide)).trans (Mv_wk _)).trans v9) ?_
      simp [tF, sRF, wkF, isK, shF hS, m_rn, m_in, m_refd hS1, m_works hS1, q_mirrorBest, rd, g2, hF.1, m_dead hM1, m_pers hM1, m_hous hM1, m_good hSx, j0', e9]
    all_goals (refine MR_no ?_; simp [tF, sRF, wkF, isK, shF hS, m_rn, m_in, m_refd hS1, m_works hS1, q_mirrorBest, rd, g2, hF.1, m_dead hM1, m_pers hM1, m_hous hM1, j0] <;> intros <;> omega)
end MREAD
