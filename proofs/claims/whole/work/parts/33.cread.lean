/-! the class's reading calls -/
section CREAD
variable {W : Wd} {s : St}
def q_person (W : Wd) (p what : Int) : Int × Int := rd W (fun T => g2 ((0 ≤ p ∧ p < tP T) ∧ (0 ≤ what ∧ what ≤ 2)) (True)) (fun T N => if what = 0 then nHo N p.toNat else if what = 1 then (defT T p : Int) else (hebT T N p (nN N) : Int))
theorem cc_person (h : CW W s) (p what : Int) : X11_person s 0 p what = some ((q_person W p what).2, pI s 0 2 (q_person W p what).1) := by
  obtain ⟨hS, ⟨h0, h2, h3⟩, hW⟩ := h
  have eD := c_dead hS h3
  have eP := c_pers hS h2
  have eH := c_hous hS h0
  have eT := c_town hS h0
  unfold X11_person
  rcases W with _ | ⟨T, N⟩
  · simp [tF, isK, shF hS, eD, eP, eH, eT, c_night, c_soot, c_seed, c_ref hS, q_person, rd, g2, nD, nP, nH, gI_pI, X11_person_b23, X11_person_b18, X11_person_b83, show ¬ (0 ≤ p ∧ p < 0) by omega]
  · have hW0 := hW T N rfl
    have hW1 := hW0.tr 2 0
    have hH0 : ¬ tH T = 0 := by have := hW0.2.1.1.1; omega
    by_cases j0 : (0 ≤ p ∧ p < tP T) <;> by_cases j1 : (0 ≤ what ∧ what ≤ 2)
    · obtain ⟨p, rfl, j0'⟩ := nat_of j0
      have t5 := hW0.2.1.1.2.2.2.2.1
      have e1 := hW0.2.2.2.2.1.1 p j0'
      have e2 := hW0.2.2.2.2.2
      have e3 := deadFor_e (p := (p : Int)) hW1
      have e4 := heardBits_e (p := (p : Int)) hW1 hW0.2.2.1.1
      have hc : what = 0 ∨ what = 1 ∨ what = 2 := by omega
      rcases hc with rfl | rfl | rfl <;>
      simp [tF, isK, shF hS, eD, eP, eH, eT, c_night, c_soot, c_seed, c_ref hS, q_person, rd, g2, nD, nP, nH, gI_pI, X11_person_b23, X11_person_b18, X11_person_b83, hH0, j0', j1, e1, e2, e3, e4, show (p : Int) < 6 by omega]
    all_goals (simp [tF, isK, shF hS, eD, eP, eH, eT, c_night, c_soot, c_seed, c_ref hS, q_person, rd, g2, nD, nP, nH, gI_pI, X11_person_b23, X11_person_b18, X11_person_b83, hH0, j0, j1] <;> intros <;> omega)
def q_house (W : Wd) (ho : Int) : Int × Int := rd W (fun T => g2 ((0 ≤ ho ∧ ho < tH T)) (True)) (fun T N => whoF (tP T) (nHo N) ho)
theorem cc_house (h : CW W s) (ho : Int) : X11_house s 0 ho = some ((q_house W ho).2, pI s 0 2 (q_house W ho).1) := by
  obtain ⟨hS, ⟨h0, h2, h3⟩, hW⟩ := h
  have eD := c_dead hS h3
  have eP := c_pers hS h2
  have eH := c_hous hS h0
  have eT := c_town hS h0
  unfold X11_house
  rcases W with _ | ⟨T, N⟩
  · simp [tF, isK, shF hS, eD, eP, eH, eT, c_night, c_soot, c_seed, c_ref hS, q_house, rd, g2, nD, nP, nH, gI_pI, show ¬ (0 ≤ ho ∧ ho < 0) by omega]
  · have hW0 := hW T N rfl
    have hW1 := hW0.tr 2 0
    have hH0 : ¬ tH T = 0 := by have := hW0.2.1.1.1; omega
    by_cases j0 : (0 ≤ ho ∧ ho < tH T)
    · obtain ⟨ho, rfl, j0'⟩ := nat_of j0
      simp [tF, isK, shF hS, eD, eP, eH, eT, c_night, c_soot, c_seed, c_ref hS, q_house, rd, g2, nD, nP, nH, gI_pI, hH0, j0', occupantOf_e vc1.st hW1.1 hW1.2.2.2.2.1.2.2 hW0.2.1.1.2.1 j0]
    all_goals (simp [tF, isK, shF hS, eD, eP, eH, eT, c_night, c_soot, c_seed, c_ref hS, q_house, rd, g2, nD, nP, nH, gI_pI, hH0, j0] <;> intros <;> omega)
def q_outIf (W : Wd) (d aim n : Int) : Int × Int := rd W (fun T => g2 ((0 ≤ d ∧ d < tD T) ∧ (0 ≤ aim ∧ aim < tH T)) ((0 ≤ n ∧ n ≤ 99))) (fun T N => outT T N d.toNat aim n)
theorem cc_outIf (h : CW W s) (d aim n : Int) : X11_outIf s 0 d aim n = some ((q_outIf W d aim n).2, pI s 0 2 (q_outIf W d aim n).1) := by
  obtain ⟨hS, ⟨h0, h2, h3⟩, hW⟩ := h
  have eD := c_dead hS h3
  have eP := c_pers hS h2
  have eH := c_hous hS h0
  have eT := c_town hS h0
  unfold X11_outIf
  rcases W with _ | ⟨T, N⟩
  · simp [tF, isK, shF hS, eD, eP, eH, eT, c_night, c_soot, c_seed, c_ref hS, q_outIf, rd, g2, nD, nP, nH, gI_pI, X11_outIf_b22, X11_outIf_b17, show ¬ (0 ≤ d ∧ d < 0) by omega, show ¬ (0 ≤ aim ∧ aim < 0) by omega]
  · have hW0 := hW T N rfl
    have hW1 := hW0.tr 2 0
    have hH0 : ¬ tH T = 0 := by have := hW0.2.1.1.1; omega
    by_cases j0 : (0 ≤ d ∧ d < tD T) <;> by_cases j1 : (0 ≤ aim ∧ aim < tH T) <;> by_cases j2 : 0 ≤ n ∧ n ≤ 99
    · obtain ⟨d, rfl, j0'⟩ := nat_of j0
      obtain ⟨aim, rfl, j1'⟩ := nat_of j1
      simp [tF, isK, shF hS, eD, eP, eH, eT, c_night, c_soot, c_seed, c_ref hS, q_outIf, rd, g2, nD, nP, nH, gI_pI, X11_outIf_b22, X11_outIf_b17, hH0, j0', j1', j2, w_landA hW1 j0' (aim := (aim : Int)) (by have := hW0.2.1.1.2.1; omega) j2]
    all_goals (simp [tF, isK, shF hS, eD, eP, eH, eT, c_night, c_soot, c_seed, c_ref hS, q_outIf, rd, g2, nD, nP, nH, gI_pI, X11_outIf_b22, X11_outIf_b17, hH0, j0, j1, j2] <;> intros <;> omega)
def q_hears (W : Wd) (d n : Int) : Int × Int := rd W (fun T => g2 ((0 ≤ d ∧ d < tD T)) ((0 ≤ n ∧ n ≤ 99))) (fun T N => heaT T N d.toNat n)
theorem cc_hears (h : CW W s) (d n : Int) : X11_hears s 0 d n = some ((q_hears W d n).2, pI s 0 2 (q_hears W d n).1) := by
  obtain ⟨hS, ⟨h0, h2, h3⟩, hW⟩ := h
  have eD := c_dead hS h3
  have eP := c_pers hS h2
  have eH := c_hous hS h0
  have eT := c_town hS h0
  unfold X11_hears
  rcases W with _ | ⟨T, N⟩
  · simp [tF, isK, shF hS, eD, eP, eH, eT, c_night, c_soot, c_seed, c_ref hS, q_hears, rd, g2, nD, nP, nH, gI_pI, show ¬ (0 ≤ d ∧ d < 0) by omega]
  · have hW0 := hW T N rfl
    have hW1 := hW0.tr 2 0
    have hH0 : ¬ tH T = 0 := by have := hW0.2.1.1.1; omega
    by_cases j0 : (0 ≤ d ∧ d < tD T) <;> by_cases j1 : 0 ≤ n ∧ n ≤ 99
    · obtain ⟨d, rfl, j0'⟩ := nat_of j0
      simp [tF, isK, shF hS, eD, eP, eH, eT, c_night, c_soot, c_seed, c_ref hS, q_hears, rd, g2, nD, nP, nH, gI_pI, hH0, j0', j1, w_lis hW1 j0' j1]
    all_goals (simp [tF, isK, shF hS, eD, eP, eH, eT, c_night, c_soot, c_seed, c_ref hS, q_hears, rd, g2, nD, nP, nH, gI_pI, hH0, j0, j1] <;> intros <;> omega)
def q_right (W : Wd) (n : Int) : Int × Int := rd W (fun T => g2 (True) ((0 ≤ n ∧ n ≤ 99))) (fun T N => ((bst (fun d => rigT T N d n) (tD T) : Nat) : Int))
theorem cc_right (h : CW W s) (n : Int) : X11_right s 0 n = some ((q_right W n).2, pI s 0 2 (q_right W n).1) := by
  obtain ⟨hS, ⟨h0, h2, h3⟩, hW⟩ := h
  have eD := c_dead hS h3
  have eP := c_pers hS h2
  have eH := c_hous hS h0
  have eT := c_town hS h0
  unfold X11_right
  rcases W with _ | ⟨T, N⟩
  · simp [tF, isK, shF hS, eD, eP, eH, eT, c_night, c_soot, c_seed, c_ref hS, q_right, rd, g2, nD, nP, nH, gI_pI]
  · have hW0 := hW T N rfl
    have hW1 := hW0.tr 2 0
    have hH0 : ¬ tH T = 0 := by have := hW0.2.1.1.1; omega
    by_cases j0 : 0 ≤ n ∧ n ≤ 99
    · simp [tF, isK, shF hS, eD, eP, eH, eT, c_night, c_soot, c_seed, c_ref hS, q_right, rd, g2, nD, nP, nH, gI_pI, hH0, j0, rightBits_e vc1 hW1.1 hW1.2.1 hW1.2.2.1 hW1.2.2.2.1 hW1.2.2.2.2.1 j0]
    all_goals (simp [tF, isK, shF hS, eD, eP, eH, eT, c_night, c_soot, c_seed, c_ref hS, q_right, rd, g2, nD, nP, nH, gI_pI, hH0, j0] <;> intros <;> omega)
def q_medium (W : Wd) (n : Int) : Int × Int := rd W (fun T => g2 (True) ((0 ≤ n ∧ n ≤ 99))) (fun T N => (bestF (fun p => hecT T N (p : Int) n) (tP T)).1)
theorem cc_medium (h : CW W s) (n : Int) : X11_medium s 0 n = some ((q_medium W n).2, pI s 0 2 (q_medium W n).1) := by
  obtain ⟨hS, ⟨h0, h2, h3⟩, hW⟩ := h
  have eD := c_dead hS h3
  have eP := c_pers hS h2
  have eH := c_hous hS h0
  have eT := c_town hS h0
  unfold X11_medium
  rcases W with _ | ⟨T, N⟩
  · simp [tF, isK, shF hS, eD, eP, eH, eT, c_night, c_soot, c_seed, c_ref hS, q_medium, rd, g2, nD, nP, nH, gI_pI]
  · have hW0 := hW T N rfl
    have hW1 := hW0.tr 2 0
    have hH0 : ¬ tH T = 0 := by have := hW0.2.1.1.1; omega
    by_cases j0 : 0 ≤ n ∧ n ≤ 99
    · simp [tF, isK, shF hS, eD, eP, eH, eT, c_night, c_soot, c_seed, c_ref hS, q_medium, rd, g2, nD, nP, nH, gI_pI, hH0, j0, l_medium hW1 j0]
    all_goals (simp [tF, isK, shF hS, eD, eP, eH, eT, c_night, c_soot, c_seed, c_ref hS, q_medium, rd, g2, nD, nP, nH, gI_pI, hH0, j0] <;> intros <;> omega)
def q_silent (W : Wd) (n : Int) : Int × Int := rd W (fun T => g2 (True) ((0 ≤ n ∧ n ≤ 99))) (fun T N => ((bst (fun p => decide (hebT T N (p : Int) n = 0)) (tP T) : Nat) : Int))
theorem cc_silent (h : CW W s) (n : Int) : X11_silent s 0 n = some ((q_silent W n).2, pI s 0 2 (q_silent W n).1) := by
  obtain ⟨hS, ⟨h0, h2, h3⟩, hW⟩ := h
  have eD := c_dead hS h3
  have eP := c_pers hS h2
  have eH := c_hous hS h0
  have eT := c_town hS h0
  unfold X11_silent
  rcases W with _ | ⟨T, N⟩
  · simp [tF, isK, shF hS, eD, eP, eH, eT, c_night, c_soot, c_seed, c_ref hS, q_silent, rd, g2, nD, nP, nH, gI_pI]
  · have hW0 := hW T N rfl
    have hW1 := hW0.tr 2 0
    have hH0 : ¬ tH T = 0 := by have := hW0.2.1.1.1; omega
    by_cases j0 : 0 ≤ n ∧ n ≤ 99
    · simp [tF, isK, shF hS, eD, eP, eH, eT, c_night, c_soot, c_seed, c_ref hS, q_silent, rd, g2, nD, nP, nH, gI_pI, hH0, j0, l_silent hW1 j0]
    all_goals (simp [tF, isK, shF hS, eD, eP, eH, eT, c_night, c_soot, c_seed, c_ref hS, q_silent, rd, g2, nD, nP, nH, gI_pI, hH0, j0] <;> intros <;> omega)
def q_rightFrom (W : Wd) (d n : Int) : Int × Int := rd W (fun T => g2 ((0 ≤ d ∧ d < tD T)) ((0 ≤ n ∧ n ≤ 99))) (fun T N => fnV (fun k => rigT T N d.toNat (n + (k : Int))) (100 - n).toNat (fun k => n + (k : Int)))
theorem cc_rightFrom (h : CW W s) (d n : Int) : X11_rightFrom s 0 d n = some ((q_rightFrom W d n).2, pI s 0 2 (q_rightFrom W d n).1) := by
  obtain ⟨hS, ⟨h0, h2, h3⟩, hW⟩ := h
  have eD := c_dead hS h3
  have eP := c_pers hS h2
  have eH := c_hous hS h0
  have eT := c_town hS h0
  unfold X11_rightFrom
  rcases W with _ | ⟨T, N⟩
  · simp [tF, isK, shF hS, eD, eP, eH, eT, c_night, c_soot, c_seed, c_ref hS, q_rightFrom, rd, g2, nD, nP, nH, gI_pI, show ¬ (0 ≤ d ∧ d < 0) by omega]
  · have hW0 := hW T N rfl
    have hW1 := hW0.tr 2 0
    have hH0 : ¬ tH T = 0 := by have := hW0.2.1.1.1; omega
    by_cases j0 : (0 ≤ d ∧ d < tD T) <;> by_cases j1 : 0 ≤ n ∧ n ≤ 99
    · obtain ⟨d, rfl, j0'⟩ := nat_of j0
      have hm : n + ((100 - n).toNat : Int) = 100 := by omega
      simp [tF, isK, shF hS, eD, eP, eH, eT, c_night, c_soot, c_seed, c_ref hS, q_rightFrom, rd, g2, nD, nP, nH, gI_pI, hH0, j0', j1, l_rightFrom hW1 j0' j1 hm]
    all_goals (simp [tF, isK, shF hS, eD, eP, eH, eT, c_night, c_soot, c_seed, c_ref hS, q_rightFrom, rd, g2, nD, nP, nH, gI_pI, hH0, j0, j1] <;> intros <;> omega)
def q_nightsOf (W : Wd) (p d : Int) : Int × Int := rd W (fun T => g2 ((0 ≤ p ∧ p < tP T) ∧ (0 ≤ d ∧ d < tD T)) (True)) (fun T N => ((cnt (fun n => decide (heaT T N d.toNat (n : Int) = p)) 100 : Nat) : Int))
theorem cc_nightsOf (h : CW W s) (p d : Int) : X11_nightsOf s 0 p d = some ((q_nightsOf W p d).2, pI s 0 2 (q_nightsOf W p d).1) := by
  obtain ⟨hS, ⟨h0, h2, h3⟩, hW⟩ := h
  have eD := c_dead hS h3
  have eP := c_pers hS h2
  have eH := c_hous hS h0
  have eT := c_town hS h0
  unfold X11_nightsOf
  rcases W with _ | ⟨T, N⟩
  · simp [tF, isK, shF hS, eD, eP, eH, eT, c_night, c_soot, c_seed, c_ref hS, q_nightsOf, rd, g2, nD, nP, nH, gI_pI, X11_nightsOf_b22, X11_nightsOf_b17, show ¬ (0 ≤ p ∧ p < 0) by omega, show ¬ (0 ≤ d ∧ d < 0) by omega]
  · have hW0 := hW T N rfl
    have hW1 := hW0.tr 2 0
    have hH0 : ¬ tH T = 0 := by have := hW0.2.1.1.1; omega
    by_cases j0 : (0 ≤ p ∧ p < tP T) <;> by_cases j1 : (0 ≤ d ∧ d < tD T)
    · obtain ⟨p, rfl, j0'⟩ := nat_of j0
      obtain ⟨d, rfl, j1'⟩ := nat_of j1
      simp [tF, isK, shF hS, eD, eP, eH, eT, c_night, c_soot, c_seed, c_ref hS, q_nightsOf, rd, g2, nD, nP, nH, gI_pI, X11_nightsOf_b22, X11_nightsOf_b17, hH0, j0', j1', l_nightsOf hW1 j1']
    all_goals (simp [tF, isK, shF hS, eD, eP, eH, eT, c_night, c_soot, c_seed, c_ref hS, q_nightsOf, rd, g2, nD, nP, nH, gI_pI, X11_nightsOf_b22, X11_nightsOf_b17, hH0, j0, j1] <;> intros <;> omega)
def q_bestNight (W : Wd)  : Int × Int := rd W (fun T => g2 (True) (True)) (fun T N => (bestF (fun n => ricT T N (n : Int)) 100).1)
theorem cc_bestNight (h : CW W s)  : X11_bestNight s 0 = some ((q_bestNight W).2, pI s 0 2 (q_bestNight W).1) := by
  obtain ⟨hS, ⟨h0, h2, h3⟩, hW⟩ := h
  have eD := c_dead hS h3
  have eP := c_pers hS h2
  have eH := c_hous hS h0
  have eT := c_town hS h0
  unfold X11_bestNight
  rcases W with _ | ⟨T, N⟩
  · simp [tF, isK, shF hS, eD, eP, eH, eT, c_night, c_soot, c_seed, c_ref hS, q_bestNight, rd, g2, nD, nP, nH, gI_pI]
  · have hW0 := hW T N rfl
    have hW1 := hW0.tr 2 0
    have hH0 : ¬ tH T = 0 := by have := hW0.2.1.1.1; omega
    · simp [tF, isK, shF hS, eD, eP, eH, eT, c_night, c_soot, c_seed, c_ref hS, q_bestNight, rd, g2, nD, nP, nH, gI_pI, hH0, l_bestNight hW1]
def q_perfect (W : Wd)  : Int × Int := rd W (fun T => g2 (True) (True)) (fun T N => ((cnt (fun n => decide (((ricT T N (n : Int) : Nat) : Int) = (tD T : Int))) 100 : Nat) : Int))
theorem cc_perfect (h : CW W s)  : X11_perfect s 0 = some ((q_perfect W).2, pI s 0 2 (q_perfect W).1) := by
  obtain ⟨hS, ⟨h0, h2, h3⟩, hW⟩ := h
  have eD := c_dead hS h3
  have eP := c_pers hS h2
  have eH := c_hous hS h0
  have eT := c_town hS h0
  unfold X11_perfect
  rcases W with _ | ⟨T, N⟩
  · simp [tF, isK, shF hS, eD, eP, eH, eT, c_night, c_soot, c_seed, c_ref hS, q_perfect, rd, g2, nD, nP, nH, gI_pI]
  · have hW0 := hW T N rfl
    have hW1 := hW0.tr 2 0
    have hH0 : ¬ tH T = 0 := by have := hW0.2.1.1.1; omega
    · simp [tF, isK, shF hS, eD, eP, eH, eT, c_night, c_soot, c_seed, c_ref hS, q_perfect, rd, g2, nD, nP, nH, gI_pI, hH0, l_perfect hW1]
def q_together (W : Wd) (d o : Int) : Int × Int := rd W (fun T => g2 ((0 ≤ d ∧ d < tD T) ∧ (0 ≤ o ∧ o < tD T) ∧ ¬ d = o) (True)) (fun T N => fnV (fun n => decide (heaT T N d.toNat (n : Int) = heaT T N o.toNat (n : Int))) 100 (fun k => (k : Int)))
theorem cc_together (h : CW W s) (d o : Int) : X11_together s 0 d o = some ((q_together W d o).2, pI s 0 2 (q_together W d o).1) := by
  obtain ⟨hS, ⟨h0, h2, h3⟩, hW⟩ := h
  have eD := c_dead hS h3
  have eP := c_pers hS h2
  have eH := c_hous hS h0
  have eT := c_town hS h0
  unfold X11_together
  rcases W with _ | ⟨T, N⟩
  · simp [tF, isK, shF hS, eD, eP, eH, eT, c_night, c_soot, c_seed, c_ref hS, q_together, rd, g2, nD, nP, nH, gI_pI, X11_together_b27, X11_together_b22, show ¬ (0 ≤ d ∧ d < 0) by omega, show ¬ (0 ≤ o ∧ o < 0) by omega]
  · have hW0 := hW T N rfl
    have hW1 := hW0.tr 2 0
    have hH0 : ¬ tH T = 0 := by have := hW0.2.1.1.1; omega
    by_cases j0 : (0 ≤ d ∧ d < tD T) <;> by_cases j1 : (0 ≤ o ∧ o < tD T) <;> by_cases j2 : ¬ d = o
    · obtain ⟨d, rfl, j0'⟩ := nat_of j0
      obtain ⟨o, rfl, j1'⟩ := nat_of j1
      simp [tF, isK, shF hS, eD, eP, eH, eT, c_night, c_soot, c_seed, c_ref hS, q_together, rd, g2, nD, nP, nH, gI_pI, X11_together_b27, X11_together_b22, hH0, j0', j1', j2, l_together hW1 j0' j1']
    all_goals (simp [tF, isK, shF hS, eD, eP, eH, eT, c_night, c_soot, c_seed, c_ref hS, q_together, rd, g2, nD, nP, nH, gI_pI, X11_together_b27, X11_together_b22, hH0, j0, j1, j2] <;> intros <;> omega)
def q_aimFor (W : Wd) (d p n : Int) : Int × Int := rd W (fun T => g2 ((0 ≤ d ∧ d < tD T) ∧ (0 ≤ p ∧ p < tP T)) ((0 ≤ n ∧ n ≤ 99))) (fun T N => fnV (fun a => decide (lisT T N (outT T N d.toNat (a : Int) n) = p)) (tH T) (fun k => (k : Int)))
theorem cc_aimFor (h : CW W s) (d p n : Int) : X11_aimFor s 0 d p n = some ((q_aimFor W d p n).2, pI s 0 2 (q_aimFor W d p n).1) := by
  obtain ⟨hS, ⟨h0, h2, h3⟩, hW⟩ := h
  have eD := c_dead hS h3
  have eP := c_pers hS h2
  have eH := c_hous hS h0
  have eT := c_town hS h0
  unfold X11_aimFor
  rcases W with _ | ⟨T, N⟩
  · simp [tF, isK, shF hS, eD, eP, eH, eT, c_night, c_soot, c_seed, c_ref hS, q_aimFor, rd, g2, nD, nP, nH, gI_pI, X11_aimFor_b22, X11_aimFor_b17, show ¬ (0 ≤ d ∧ d < 0) by omega, show ¬ (0 ≤ p ∧ p < 0) by omega]
  · have hW0 := hW T N rfl
    have hW1 := hW0.tr 2 0
    have hH0 : ¬ tH T = 0 := by have := hW0.2.1.1.1; omega
    by_cases j0 : (0 ≤ d ∧ d < tD T) <;> by_cases j1 : (0 ≤ p ∧ p < tP T) <;> by_cases j2 : 0 ≤ n ∧ n ≤ 99
    · obtain ⟨d, rfl, j0'⟩ := nat_of j0
      obtain ⟨p, rfl, j1'⟩ := nat_of j1
      simp [tF, isK, shF hS, eD, eP, eH, eT, c_night, c_soot, c_seed, c_ref hS, q_aimFor, rd, g2, nD, nP, nH, gI_pI, X11_aimFor_b22, X11_aimFor_b17, hH0, j0', j1', j2, l_aimFor hW1 j0' j2]
    all_goals (simp [tF, isK, shF hS, eD, eP, eH, eT, c_night, c_soot, c_seed, c_ref hS, q_aimFor, rd, g2, nD, nP, nH, gI_pI, X11_aimFor_b22, X11_aimFor_b17, hH0, j0, j1, j2] <;> intros <;> omega)
def q_aims (W : Wd) (d p n : Int) : Int × Int := rd W (fun T => g2 ((0 ≤ d ∧ d < tD T) ∧ (0 ≤ p ∧ p < tP T)) ((0 ≤ n ∧ n ≤ 99))) (fun T N => ((cnt (fun a => decide (lisT T N (outT T N d.toNat (a : Int) n) = p)) (tH T) : Nat) : Int))
theorem cc_aims (h : CW W s) (d p n : Int) : X11_aims s 0 d p n = some ((q_aims W d p n).2, pI s 0 2 (q_aims W d p n).1) := by
  obtain ⟨hS, ⟨h0, h2, h3⟩, hW⟩ := h
  have eD := c_dead hS h3
  have eP := c_pers hS h2
  have eH := c_hous hS h0
  have eT := c_town hS h0
  unfold X11_aims
  rcases W with _ | ⟨T, N⟩
  · simp [tF, isK, shF hS, eD, eP, eH, eT, c_night, c_soot, c_seed, c_ref hS, q_aims, rd, g2, nD, nP, nH, gI_pI, X11_aims_b22, X11_aims_b17, show ¬ (0 ≤ d ∧ d < 0) by omega, show ¬ (0 ≤ p ∧ p < 0) by omega]
  · have hW0 := hW T N rfl
    have hW1 := hW0.tr 2 0
    have hH0 : ¬ tH T = 0 := by have := hW0.2.1.1.1; omega
    by_cases j0 : (0 ≤ d ∧ d < tD T) <;> by_cases j1 : (0 ≤ p ∧ p < tP T) <;> by_cases j2 : 0 ≤ n ∧ n ≤ 99
    · obtain ⟨d, rfl, j0'⟩ := nat_of j0
      obtain ⟨p, rfl, j1'⟩ := nat_of j1
      simp [tF, isK, shF hS, eD, eP, eH, eT, c_night, c_soot, c_seed, c_ref hS, q_aims, rd, g2, nD, nP, nH, gI_pI, X11_aims_b22, X11_aims_b17, hH0, j0', j1', j2, l_aims hW1 j0' j2]
    all_goals (simp [tF, isK, shF hS, eD, eP, eH, eT, c_night, c_soot, c_seed, c_ref hS, q_aims, rd, g2, nD, nP, nH, gI_pI, X11_aims_b22, X11_aims_b17, hH0, j0, j1, j2] <;> intros <;> omega)
def q_mirrorFor (W : Wd) (d n : Int) : Int × Int := rd W (fun T => g2 ((0 ≤ d ∧ d < tD T)) ((0 ≤ n ∧ n ≤ 99))) (fun T N => fnV (fun h => rigT T (mirN N d.toNat (h : Int)) d.toNat n) (tH T) (fun k => (k : Int)))
theorem cc_mirrorFor (h : CW W s) (d n : Int) : X11_mirrorFor s 0 d n = some ((q_mirrorFor W d n).2, pI s 0 2 (q_mirrorFor W d n).1) := by
  obtain ⟨hS, ⟨h0, h2, h3⟩, hW⟩ := h
  have eD := c_dead hS h3
  have eP := c_pers hS h2
  have eH := c_hous hS h0
  have eT := c_town hS h0
  unfold X11_mirrorFor
  rcases W with _ | ⟨T, N⟩
  · simp [tF, isK, shF hS, eD, eP, eH, eT, c_night, c_soot, c_seed, c_ref hS, q_mirrorFor, rd, g2, nD, nP, nH, gI_pI, show ¬ (0 ≤ d ∧ d < 0) by omega]
  · have hW0 := hW T N rfl
    have hW1 := hW0.tr 2 0
    have hH0 : ¬ tH T = 0 := by have := hW0.2.1.1.1; omega
    by_cases j0 : (0 ≤ d ∧ d < tD T) <;> by_cases j1 : 0 ≤ n ∧ n ≤ 99
    · obtain ⟨d, rfl, j0'⟩ := nat_of j0
      simp [tF, isK, shF hS, eD, eP, eH, eT, c_night, c_soot, c_seed, c_ref hS, q_mirrorFor, rd, g2, nD, nP, nH, gI_pI, hH0, j0', j1, l_mirrorFor hW1 j0' j1]
    all_goals (simp [tF, isK, shF hS, eD, eP, eH, eT, c_night, c_soot, c_seed, c_ref hS, q_mirrorFor, rd, g2, nD, nP, nH, gI_pI, hH0, j0, j1] <;> intros <;> omega)
def q_slipFor (W : Wd) (d n : Int) : Int × Int := rd W (fun T => g2 ((0 ≤ d ∧ d < tD T)) ((0 ≤ n ∧ n ≤ 99))) (fun T N => fnV (fun x => rigT T (sliN N d.toNat (x : Int)) d.toNat n) 40 (fun k => (k : Int)))
theorem cc_slipFor (h : CW W s) (d n : Int) : X11_slipFor s 0 d n = some ((q_slipFor W d n).2, pI s 0 2 (q_slipFor W d n).1) := by
  obtain ⟨hS, ⟨h0, h2, h3⟩, hW⟩ := h
  have eD := c_dead hS h3
  have eP := c_pers hS h2
  have eH := c_hous hS h0
  have eT := c_town hS h0
  unfold X11_slipFor
  rcases W with _ | ⟨T, N⟩
  · simp [tF, isK, shF hS, eD, eP, eH, eT, c_night, c_soot, c_seed, c_ref hS, q_slipFor, rd, g2, nD, nP, nH, gI_pI, show ¬ (0 ≤ d ∧ d < 0) by omega]
  · have hW0 := hW T N rfl
    have hW1 := hW0.tr 2 0
    have hH0 : ¬ tH T = 0 := by have := hW0.2.1.1.1; omega
    by_cases j0 : (0 ≤ d ∧ d < tD T) <;> by_cases j1 : 0 ≤ n ∧ n ≤ 99
    · obtain ⟨d, rfl, j0'⟩ := nat_of j0
      simp [tF, isK, shF hS, eD, eP, eH, eT, c_night, c_soot, c_seed, c_ref hS, q_slipFor, rd, g2, nD, nP, nH, gI_pI, hH0, j0', j1, l_slipFor hW1 j0' j1]
    all_goals (simp [tF, isK, shF hS, eD, eP, eH, eT, c_night, c_soot, c_seed, c_ref hS, q_slipFor, rd, g2, nD, nP, nH, gI_pI, hH0, j0, j1] <;> intros <;> omega)
def q_mirrorBest (W : Wd) (d : Int) : Int × Int := rd W (fun T => g2 ((0 ≤ d ∧ d < tD T)) (True)) (fun T N => (bestF (fun h => cnt (fun n => rigT T (mirN N d.toNat (h : Int)) d.toNat (n : Int)) 100) (tH T)).1)
theorem cc_mirrorBest (h : CW W s) (d : Int) : X11_mirrorBest s 0 d = some ((q_mirrorBest W d).2, pI s 0 2 (q_mirrorBest W d).1) := by
  obtain ⟨hS, ⟨h0, h2, h3⟩, hW⟩ := h
  have eD := c_dead hS h3
  have eP := c_pers hS h2
  have eH := c_hous hS h0
  have eT := c_town hS h0
  unfold X11_mirrorBest
  rcases W with _ | ⟨T, N⟩
  · simp [tF, isK, shF hS, eD, eP, eH, eT, c_night, c_soot, c_seed, c_ref hS, q_mirrorBest, rd, g2, nD, nP, nH, gI_pI, show ¬ (0 ≤ d ∧ d < 0) by omega]
  · have hW0 := hW T N rfl
    have hW1 := hW0.tr 2 0
    have hH0 : ¬ tH T = 0 := by have := hW0.2.1.1.1; omega
    by_cases j0 : (0 ≤ d ∧ d < tD T)
    · obtain ⟨d, rfl, j0'⟩ := nat_of j0
      simp [tF, isK, shF hS, eD, eP, eH, eT, c_night, c_soot, c_seed, c_ref hS, q_mirrorBest, rd, g2, nD, nP, nH, gI_pI, hH0, j0', l_mirrorBest hW1 j0']
    all_goals (simp [tF, isK, shF hS, eD, eP, eH, eT, c_night, c_soot, c_seed, c_ref hS, q_mirrorBest, rd, g2, nD, nP, nH, gI_pI, hH0, j0] <;> intros <;> omega)
end CREAD
