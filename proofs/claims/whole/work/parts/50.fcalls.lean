/-! calls on the fits -/
section FCALLS
variable {W : Wd} {s : St}
def q_fits (W : Wd) : Int × Int := rd W (fun _ => g2 True True) (fun T _ => (ficT T : Int))
theorem cc_fits (h : CW W s) (hQ : ∀ T N, W = some (T, N) → FTc T s) : X11_fits s 0 = some ((q_fits W).2, pI s 0 2 (q_fits W).1) := by
  obtain ⟨hS, ⟨h0, h2, h3⟩, hW⟩ := h
  have eT := c_town hS h0
  unfold X11_fits
  rcases W with _ | ⟨T, N⟩
  · simp [tF, isK, shF hS, eT, c_ref hS, q_fits, rd, g2, nH]
  · have hW0 := hW T N rfl
    have hW1 := hW0.tr 2 0
    have hQ1 : FTc T (pI s 0 2 0) := hQ T N rfl
    have hS1 := hW1.1
    have t7 := hW0.2.1.1.2.2.2.2.2.2.1
    have c4 := hW0.2.2.2.1.1.2.2.2.2.1
    have hH0 : ¬ tH T = 0 := by have := hW0.2.1.1.1; omega
    simp [tF, isK, shF hS, eT, c_ref hS, q_fits, rd, g2, nH, gI_pI, hH0, c4, (hQ T N rfl).1]
def q_could (W : Wd) : Int × Int := rd W (fun _ => g2 True True) (fun T _ => (somF T (2 ^ tU T) : Int))
theorem cc_could (h : CW W s) (hQ : ∀ T N, W = some (T, N) → FTc T s) : X11_could s 0 = some ((q_could W).2, pI s 0 2 (q_could W).1) := by
  obtain ⟨hS, ⟨h0, h2, h3⟩, hW⟩ := h
  have eT := c_town hS h0
  unfold X11_could
  rcases W with _ | ⟨T, N⟩
  · simp [tF, isK, shF hS, eT, c_ref hS, q_could, rd, g2, nH]
  · have hW0 := hW T N rfl
    have hW1 := hW0.tr 2 0
    have hQ1 : FTc T (pI s 0 2 0) := hQ T N rfl
    have hS1 := hW1.1
    have t7 := hW0.2.1.1.2.2.2.2.2.2.1
    have c4 := hW0.2.2.2.1.1.2.2.2.2.1
    have hH0 : ¬ tH T = 0 := by have := hW0.2.1.1.1; omega
    simp [tF, isK, shF hS, eT, c_ref hS, q_could, rd, g2, nH, gI_pI, hH0, c4, inSome_e hS1 t7 hQ1]
def q_surely (W : Wd) : Int × Int := rd W (fun _ => g2 True True) (fun T _ => if ficT T = 0 then 0 else (eveF T (2 ^ tU T) : Int))
theorem cc_surely (h : CW W s) (hQ : ∀ T N, W = some (T, N) → FTc T s) : X11_surely s 0 = some ((q_surely W).2, pI s 0 2 (q_surely W).1) := by
  obtain ⟨hS, ⟨h0, h2, h3⟩, hW⟩ := h
  have eT := c_town hS h0
  unfold X11_surely
  rcases W with _ | ⟨T, N⟩
  · simp [tF, isK, shF hS, eT, c_ref hS, q_surely, rd, g2, nH]
  · have hW0 := hW T N rfl
    have hW1 := hW0.tr 2 0
    have hQ1 : FTc T (pI s 0 2 0) := hQ T N rfl
    have hS1 := hW1.1
    have t7 := hW0.2.1.1.2.2.2.2.2.2.1
    have c4 := hW0.2.2.2.1.1.2.2.2.2.1
    have hH0 : ¬ tH T = 0 := by have := hW0.2.1.1.1; omega
    simp [tF, isK, shF hS, eT, c_ref hS, q_surely, rd, g2, nH, gI_pI, hH0, c4, inAll_e hS1 t7 hQ1]
def q_ask (W : Wd) : Int × Int := rd W (fun _ => g2 True True) (fun T _ => askT T)
theorem cc_ask (h : CW W s) (hQ : ∀ T N, W = some (T, N) → FTc T s) : X11_ask s 0 = some ((q_ask W).2, pI s 0 2 (q_ask W).1) := by
  obtain ⟨hS, ⟨h0, h2, h3⟩, hW⟩ := h
  have eT := c_town hS h0
  unfold X11_ask
  rcases W with _ | ⟨T, N⟩
  · simp [tF, isK, shF hS, eT, c_ref hS, q_ask, rd, g2, nH]
  · have hW0 := hW T N rfl
    have hW1 := hW0.tr 2 0
    have hQ1 : FTc T (pI s 0 2 0) := hQ T N rfl
    have hS1 := hW1.1
    have t7 := hW0.2.1.1.2.2.2.2.2.2.1
    have c4 := hW0.2.2.2.1.1.2.2.2.2.1
    have hH0 : ¬ tH T = 0 := by have := hW0.2.1.1.1; omega
    simp [tF, isK, shF hS, eT, c_ref hS, q_ask, rd, g2, nH, gI_pI, hH0, c4, whom_e hS1 t7 hQ1]
def q_judge (W : Wd) : Int × Int := rd W (fun _ => g2 True True) (fun T _ => notT T 0)
theorem cc_judge (h : CW W s) (hQ : ∀ T N, W = some (T, N) → FTc T s) : X11_judge s 0 = some ((q_judge W).2, pI s 0 2 (q_judge W).1) := by
  obtain ⟨hS, ⟨h0, h2, h3⟩, hW⟩ := h
  have eT := c_town hS h0
  unfold X11_judge
  rcases W with _ | ⟨T, N⟩
  · simp [tF, isK, shF hS, eT, c_ref hS, q_judge, rd, g2, nH]
  · have hW0 := hW T N rfl
    have hW1 := hW0.tr 2 0
    have hQ1 : FTc T (pI s 0 2 0) := hQ T N rfl
    have hS1 := hW1.1
    have t7 := hW0.2.1.1.2.2.2.2.2.2.1
    have c4 := hW0.2.2.2.1.1.2.2.2.2.1
    have hH0 : ¬ tH T = 0 := by have := hW0.2.1.1.1; omega
    simp [tF, isK, shF hS, eT, c_ref hS, q_judge, rd, g2, nH, gI_pI, hH0, c4, (hQ T N rfl).2.1]
theorem ask_lea {T : Tw} (hT : tU T ≤ 4) : (askT T < 0 ∧ leaT T = -2) ∨ ∃ j : Nat, j < 4 ∧ askT T = (j : Int) ∧ leaT T = lamF T j := by
  unfold askT leaT
  by_cases z : ficT T = 0
  · left
    rw [if_pos z, if_pos z]
    exact ⟨by decide, rfl⟩
  · rw [if_neg z, if_neg z]
    rcases askF_inv hT (tU T) with ⟨q, q2⟩ | ⟨-, j, q1, q2⟩
    · left
      rw [q2]
      exact ⟨by decide, rfl⟩
    · right
      refine ⟨j, by omega, by rw [q2], ?_⟩
      rw [q2]
      exact if_neg (show ¬ (j : Int) = -2 by omega)
def q_askLeaves (W : Wd) : Int × Int := rd W (fun _ => g2 True True) (fun T _ => leaT T)
theorem cc_askLeaves (h : CW W s) (hQ : ∀ T N, W = some (T, N) → FTc T s) : X11_askLeaves s 0 = some ((q_askLeaves W).2, pI s 0 2 (q_askLeaves W).1) := by
  obtain ⟨hS, ⟨h0, h2, h3⟩, hW⟩ := h
  have eT := c_town hS h0
  unfold X11_askLeaves
  rcases W with _ | ⟨T, N⟩
  · simp [tF, isK, shF hS, eT, c_ref hS, q_askLeaves, rd, g2, nH]
  · have hW0 := hW T N rfl
    have hW1 := hW0.tr 2 0
    have hQ1 : FTc T (pI s 0 2 0) := hQ T N rfl
    have hS1 := hW1.1
    have t7 := hW0.2.1.1.2.2.2.2.2.2.1
    have c4 := hW0.2.2.2.1.1.2.2.2.2.1
    have hH0 : ¬ tH T = 0 := by have := hW0.2.1.1.1; omega
    rcases ask_lea t7 with ⟨a1, a2⟩ | ⟨j, a1, a2, a3⟩
    · simp [tF, isK, shF hS, eT, c_ref hS, q_askLeaves, rd, g2, nH, gI_pI, hH0, c4, whom_e hS1 t7 hQ1, Int.not_le.mpr a1, X11_askLeaves_b46, a2]
    · simp [tF, isK, shF hS, eT, c_ref hS, q_askLeaves, rd, g2, nH, gI_pI, hH0, c4, whom_e hS1 t7 hQ1, a2, leftAtMost_e hS1 t7 hQ1 a1, X11_askLeaves_b46, a3]
def q_fitAt (W : Wd) (i : Int) : Int × Int := rd W (fun T => g2 (0 ≤ i ∧ i < (ficT T : Int)) True) (fun T _ => fouF T i (2 ^ tU T))
theorem cc_fitAt (h : CW W s) (hQ : ∀ T N, W = some (T, N) → FTc T s) (i : Int) : X11_fitAt s 0 i = some ((q_fitAt W i).2, pI s 0 2 (q_fitAt W i).1) := by
  obtain ⟨hS, ⟨h0, h2, h3⟩, hW⟩ := h
  have eT := c_town hS h0
  unfold X11_fitAt
  rcases W with _ | ⟨T, N⟩
  · simp [tF, isK, shF hS, eT, c_ref hS, q_fitAt, rd, g2, nH, X11_fitAt_b23, X11_fitAt_b28]
  · have hW0 := hW T N rfl
    have q1 := (hQ T N rfl).1
    have t7 := hW0.2.1.1.2.2.2.2.2.2.1
    have f16 := fic_16 t7
    have hH0 : ¬ tH T = 0 := by have := hW0.2.1.1.1; omega
    by_cases j0 : i < 0
    · have j1 : ¬ (0 ≤ i ∧ i < (ficT T : Int)) := by omega
      simp [tF, isK, shF hS, eT, c_ref hS, q_fitAt, rd, g2, nH, X11_fitAt_b23, X11_fitAt_b28, hH0, q1, j0, j1]
    · by_cases j2 : i < (ficT T : Int)
      · have j1 : 0 ≤ i ∧ i < (ficT T : Int) := by omega
        have j3 : i < 16 := by omega
        have ev : gI s 56 i.toNat = fouF T i (2 ^ tU T) := by
          rcases fou_spec T i (2 ^ tU T) with ⟨x, a1, a2, a3, a4⟩ | ⟨a1, a2⟩
          · have := (hQ T N rfl).2.2 x a1 a2
            rw [a4, ← this]
            congr 1
            omega
          · exact absurd j1 a2
        simp [tF, isK, shF hS, eT, c_ref hS, q_fitAt, rd, g2, nH, X11_fitAt_b23, X11_fitAt_b28, hH0, gI_pI, q1, j0, j1, j3, ev]
      · have j1 : ¬ (0 ≤ i ∧ i < (ficT T : Int)) := by omega
        simp [tF, isK, shF hS, eT, c_ref hS, q_fitAt, rd, g2, nH, X11_fitAt_b23, X11_fitAt_b28, hH0, q1, j0, j2]
theorem mm_fits (h : MWd W s) (hQ : ∀ T N, W = some (T, N) → TFK T) : MR s (q_fits W).1 (q_fits W).2 (X13_fits s 76) := by
  obtain ⟨hS, hno, hW⟩ := h
  have hS1 : Sh (pI s 76 0 0) := hS
  unfold X13_fits
  rcases W with _ | ⟨T, N⟩
  · have hn := hno rfl
    refine MR_no ?_
    simp [tF, isK, shF hS, m_refd hS1, hn, q_fits, rd]
  · obtain ⟨t, hM, hN, hx⟩ := hW T N rfl
    have hF := mF hM
    have hM1 := hM.tr 0 0
    have hT := hQ T N rfl
    obtain ⟨s9, e9, v9, f26, f27, f28, f86⟩ := m_fitting hT hM1 (-1)
    have hS9 : Sh s9 := by rw [v9.1.sh]; exact hS1
    refine MR_of ((Mv_pI (k := 0) (x := 0) (by decide)).trans v9) ?_
    simp [tF, isK, shF hS, hF.1, e9, shF hS9, m_good hS9, q_fits, rd, g2, f26]
theorem mm_could (h : MWd W s) (hQ : ∀ T N, W = some (T, N) → TFK T) : MR s (q_could W).1 (q_could W).2 (X13_could s 76) := by
  obtain ⟨hS, hno, hW⟩ := h
  have hS1 : Sh (pI s 76 0 0) := hS
  unfold X13_could
  rcases W with _ | ⟨T, N⟩
  · have hn := hno rfl
    refine MR_no ?_
    simp [tF, isK, shF hS, m_refd hS1, hn, q_could, rd]
  · obtain ⟨t, hM, hN, hx⟩ := hW T N rfl
    have hF := mF hM
    have hM1 := hM.tr 0 0
    have hT := hQ T N rfl
    obtain ⟨s9, e9, v9, f26, f27, f28, f86⟩ := m_fitting hT hM1 (-1)
    have hS9 : Sh s9 := by rw [v9.1.sh]; exact hS1
    refine MR_of ((Mv_pI (k := 0) (x := 0) (by decide)).trans v9) ?_
    simp [tF, isK, shF hS, hF.1, e9, shF hS9, m_good hS9, q_could, rd, g2, f27]
theorem mm_surely (h : MWd W s) (hQ : ∀ T N, W = some (T, N) → TFK T) : MR s (q_surely W).1 (q_surely W).2 (X13_surely s 76) := by
  obtain ⟨hS, hno, hW⟩ := h
  have hS1 : Sh (pI s 76 0 0) := hS
  unfold X13_surely
  rcases W with _ | ⟨T, N⟩
  · have hn := hno rfl
    refine MR_no ?_
    simp [tF, isK, shF hS, m_refd hS1, hn, q_surely, rd]
  · obtain ⟨t, hM, hN, hx⟩ := hW T N rfl
    have hF := mF hM
    have hM1 := hM.tr 0 0
    have hT := hQ T N rfl
    obtain ⟨s9, e9, v9, f26, f27, f28, f86⟩ := m_fitting hT hM1 (-1)
    have hS9 : Sh s9 := by rw [v9.1.sh]; exact hS1
    refine MR_of ((Mv_pI (k := 0) (x := 0) (by decide)).trans v9) ?_
    simp [tF, isK, shF hS, hF.1, e9, shF hS9, m_good hS9, q_surely, rd, g2, f28]
theorem mm_ask (h : MWd W s) (hQ : ∀ T N, W = some (T, N) → TFK T) : MR s (q_ask W).1 (q_ask W).2 (X13_ask s 76) := by
  obtain ⟨hS, hno, hW⟩ := h
  have hS1 : Sh (pI s 76 0 0) := hS
  unfold X13_ask
  rcases W with _ | ⟨T, N⟩
  · have hn := hno rfl
    refine MR_no ?_
    simp [tF, isK, shF hS, m_refd hS1, hn, q_ask, rd, X13_ask_b28]
  · obtain ⟨t, hM, hN, hx⟩ := hW T N rfl
    have hF := mF hM
    have hM1 := hM.tr 0 0
    have hT := hQ T N rfl
    obtain ⟨s9, e9, v9, f30⟩ := m_asks hT hM1
    have hS9 : Sh s9 := by rw [v9.1.sh]; exact hS1
    refine MR_of ((Mv_pI (k := 0) (x := 0) (by decide)).trans v9) ?_
    simp [tF, isK, shF hS, hF.1, e9, shF hS9, m_good hS9, q_ask, rd, g2, X13_ask_b28, f30]
theorem mm_askLeaves (h : MWd W s) (hQ : ∀ T N, W = some (T, N) → TFK T) : MR s (q_askLeaves W).1 (q_askLeaves W).2 (X13_askLeaves s 76) := by
  obtain ⟨hS, hno, hW⟩ := h
  have hS1 : Sh (pI s 76 0 0) := hS
  unfold X13_askLeaves
  rcases W with _ | ⟨T, N⟩
  · have hn := hno rfl
    refine MR_no ?_
    simp [tF, isK, shF hS, m_refd hS1, hn, q_askLeaves, rd]
  · obtain ⟨t, hM, hN, hx⟩ := hW T N rfl
    have hF := mF hM
    have hM1 := hM.tr 0 0
    have hT := hQ T N rfl
    obtain ⟨s9, e9, v9, f30⟩ := m_asks hT hM1
    have hS9 : Sh s9 := by rw [v9.1.sh]; exact hS1
    refine MR_of ((Mv_pI (k := 0) (x := 0) (by decide)).trans v9) ?_
    simp [tF, isK, shF hS, hF.1, e9, shF hS9, m_good hS9, q_askLeaves, rd, g2, f30]
theorem mm_judge (h : MWd W s) (hQ : ∀ T N, W = some (T, N) → TFK T) : MR s (q_judge W).1 (q_judge W).2 (X13_judge s 76) := by
  obtain ⟨hS, hno, hW⟩ := h
  have hS1 : Sh (pI s 76 0 0) := hS
  unfold X13_judge
  rcases W with _ | ⟨T, N⟩
  · have hn := hno rfl
    refine MR_no ?_
    simp [tF, isK, shF hS, m_refd hS1, hn, q_judge, rd, X13_judge_b29]
  · obtain ⟨t, hM, hN, hx⟩ := hW T N rfl
    have hF := mF hM
    have hM1 := hM.tr 0 0
    have e := m_wrongHeard (hQ T N rfl) hM1 (x := 0) (by decide)
    have v9 : Mv (pI s 76 0 0) (sR (pI s 76 0 0) 79 (rwN T 0 (tf3 (pI s 76 0 0) t 6) (tU T))) := Mv_fr (L := fun a => a = 79) (Fr_sR rfl) (fun a ha => Or.inl ha)
    generalize sR (pI s 76 0 0) 79 (rwN T 0 (tf3 (pI s 76 0 0) t 6) (tU T)) = s9 at e v9
    have e9 : X13_wrongHeard (pI s 76 0 0) 76 0 = some (notT T 0, s9) := e
    have hS9 : Sh s9 := by rw [v9.1.sh]; exact hS1
    refine MR_of ((Mv_pI (k := 0) (x := 0) (by decide)).trans v9) ?_
    simp [tF, isK, shF hS, hF.1, e9, shF hS9, m_good hS9, q_judge, rd, g2, X13_judge_b29]
theorem mm_fitAt (h : MWd W s) (hQ : ∀ T N, W = some (T, N) → TFK T) (i : Int) : MR s (q_fitAt W i).1 (q_fitAt W i).2 (X13_fitAt s 76 i) := by
  obtain ⟨hS, hno, hW⟩ := h
  have hS1 : Sh (pI s 76 0 0) := hS
  unfold X13_fitAt
  rcases W with _ | ⟨T, N⟩
  · have hn := hno rfl
    refine MR_no ?_
    simp [tF, isK, shF hS, m_refd hS1, hn, q_fitAt, rd, X13_fitAt_b16]
  · obtain ⟨t, hM, hN, hx⟩ := hW T N rfl
    have hF := mF hM
    have hM1 := hM.tr 0 0
    by_cases j0 : 0 ≤ i
    · obtain ⟨s9, e9, v9, -⟩ := m_fitting (hQ T N rfl) hM1 i
      have hS9 : Sh s9 := by rw [v9.1.sh]; exact hS1
      refine MR_of ((Mv_pI (k := 0) (x := 0) (by decide)).trans v9) ?_
      rcases fou_spec T i (2 ^ tU T) with ⟨x, a1, a2, a3, a4⟩ | ⟨a1, a2⟩
      · have n1 : ¬ fouF T i (2 ^ tU T) = -1 := by rw [a4]; clear hF; omega
        have j1 : 0 ≤ i ∧ i < (ficT T : Int) := by
          refine ⟨j0, ?_⟩
          have mono : ∀ a b : Nat, a < b → fitB T a = true → cnt (fitB T) a < cnt (fitB T) b := by
            intro a b hab ha
            induction b with
            | zero => omega
            | succ b ih =>
              by_cases q : a = b
              · subst q; rw [cnt_s1 ha]; omega
              · have := ih (by omega)
                have e : cnt (fitB T) b ≤ cnt (fitB T) (b + 1) := Nat.le_add_right _ _
                omega
          have := mono x (2 ^ tU T) a1 a2
          show i < ((cnt (fitB T) (2 ^ tU T) : Nat) : Int)
          clear hF
          omega
        simp [tF, isK, shF hS, hF.1, j0, e9, n1, shF hS9, m_good hS9, q_fitAt, rd, g2, j1, X13_fitAt_b46]
      · have a2' : ¬ (0 ≤ i ∧ i < (ficT T : Int)) := a2
        simp [tF, isK, shF hS, hF.1, j0, e9, a1, shF hS9, m_refd hS9, q_fitAt, rd, g2, a2', X13_fitAt_b46]
        have j3 : ¬ i < (ficT T : Int) := fun q => a2' ⟨j0, q⟩
        simp [j3]
    · refine MR_no ?_
      simp [tF, isK, shF hS, hF.1, j0, m_refd hS1, q_fitAt, rd, g2, X13_fitAt_b16]
end FCALLS
