/-! bring and bringFrom on the reference -/
def q_bring (W : Wd) (h n : Int) : Int × Int := rd W (fun T => g2 (0 ≤ h ∧ h < tH T) (0 ≤ n ∧ n ≤ 99)) (fun T N => brF T N n h)
/-- the first house from which it takes the fewest -/
def bfF (T : Tw) (N : Nw) (n : Int) (k : Nat) : Int × Int := fo (fun h a => if brF T N n (h : Int) < a.2 then ((h : Int), brF T N n (h : Int)) else a) (0, 9999) k
def q_bringFrom (W : Wd) (n : Int) : Int × Int := rd W (fun _ => g2 True (0 ≤ n ∧ n ≤ 99)) (fun T N => (bfF T N n (tH T)).1)
section MBRING
variable {W : Wd} {s : St} {T : Tw} {N : Nw} {t : Int}
theorem WM.f8 {s1 : St} (hW : WM T N t s) (hf : Fr (fun a => a = 84 ∨ a = 85) s s1) : WM T N t s1 :=
  ⟨hW.1.fr hf (fun a ha q => by omega), hW.2.1, by
    have e : (fun j => gI s1 79 j) = fun j => gI s 79 j := by funext j; exact hf.nu (by decide)
    rw [e]; exact hW.2.2⟩
theorem mm_bring (h : MWd W s) (a n : Int) : MR s (q_bring W a n).1 (q_bring W a n).2 (X13_bring s 76 a n) := by
  obtain ⟨hS, hno, hW⟩ := h
  have hS1 : Sh (pI s 76 0 0) := hS
  unfold X13_bring
  rcases W with _ | ⟨T, N⟩
  · have hn := hno rfl
    have hn1 : gR (pI s 76 0 0) 76 3 < 0 := hn
    refine MR_no ?_
    simp [tF, isK, shF hS, m_rn, m_refd hS1, n_hous hS1 hn1, q_bring, rd]
  · obtain ⟨t, hM, hN, hx⟩ := hW T N rfl
    have hM1 := hM.tr 0 0
    have hX := wk_world hM hN hx 0 0
    by_cases j0 : 0 ≤ a ∧ a < tH T <;> by_cases j1 : 0 ≤ n ∧ n ≤ 99
    · have hv : q_bring (some (T, N)) a n = (0, brF T N n a) := by simp [q_bring, rd, g2, j0, j1]
      rw [hv]
      obtain ⟨s4, f1, f2⟩ := m_brings hX j0 j1
      have hS4 : Sh s4 := by rw [f2.sh]; exact hS1
      refine MR_of (((Mv_pI (k := 0) (x := 0) (by decide)).trans (Mv_wk _)).trans (Mv_fr f2 (fun a ha => by omega))) ?_
      simp [tF, wkF, isK, shF hS, shF hS4, m_hous hM1, m_rn, j0, j1, m_works hS1, f1, m_good hS4]
    all_goals (refine MR_no ?_; simp [tF, isK, shF hS, m_hous hM1, m_rn, m_refd hS1, q_bring, rd, g2, j0, j1])
theorem m_bringFrom_l {n : Int} (hW : WM T N t s) (hn : 0 ≤ n ∧ n ≤ 99) : ∃ s1, X13_bringFrom_b47 FU s 76 n 0 9999 0 = some ((bfF T N n (tH T)).1, fiM 0 s1) ∧ Fr (fun a => a = 84 ∨ a = 85) s s1 := by
  have t2 := hW.1.2.1.1.2.1
  unfold X13_bringFrom_b47
  refine iter_inv (Q := fun F => ∃ s1, F = some ((bfF T N n (tH T)).1, fiM 0 s1) ∧ Fr (fun a => a = 84 ∨ a = 85) s s1)
    (fun (k : Nat) (a : St × Int × Int × Int × Int × Int) => ∃ s2, a = (s2, 76, n, (bfF T N n k).1, (bfF T N n k).2, (k : Int)) ∧ Fr (fun a => a = 84 ∨ a = 85) s s2)
    (tH T) FU (s, 76, n, 0, 9999, 0) (by unfold FU; omega) ⟨s, rfl, Fr.refl _ s⟩ (fun k hk a ha => ?_) (fun a ha rec => ?_)
  · obtain ⟨s2, rfl, hf2⟩ := ha
    have hW2 := hW.f8 hf2
    have hS := hW2.1.1
    have hF := mF hW2.1
    obtain ⟨s3, e3, f3⟩ := m_brings (fr := (k : Int)) hW2 (by clear hF; omega) hn
    have hw := wk1 (k := k) (by clear hF; omega)
    have g1 : ¬ tH T ≤ k := by clear hF; omega
    have eb : bfF T N n (k + 1) = if brF T N n (k : Int) < (bfF T N n k).2 then ((k : Int), brF T N n (k : Int)) else bfF T N n k := rfl
    refine ⟨(s3, 76, n, (bfF T N n (k + 1)).1, (bfF T N n (k + 1)).2, ((k + 1 : Nat) : Int)), ⟨s3, rfl, hf2.trans f3⟩, fun rec => ?_⟩
    rw [eb]
    by_cases y : brF T N n (k : Int) < (bfF T N n k).2
    · simp [X13_bringFrom_b47_body, X13_bringFrom_b85, tF, isK, shF hS, hF, g1, e3, hw, y]
    · simp [X13_bringFrom_b47_body, X13_bringFrom_b85, tF, isK, shF hS, hF, g1, e3, hw, y]
  · obtain ⟨s2, rfl, hf2⟩ := ha
    have hW2 := hW.f8 hf2
    have hS := hW2.1.1
    have hF := mF hW2.1
    refine ⟨s2, ?_, hf2⟩
    simp [X13_bringFrom_b47_body, tF, isK, shF hS, hF, m_good hS]
theorem mm_bringFrom (h : MWd W s) (n : Int) : MR s (q_bringFrom W n).1 (q_bringFrom W n).2 (X13_bringFrom s 76 n) := by
  obtain ⟨hS, hno, hW⟩ := h
  have hS1 : Sh (pI s 76 0 0) := hS
  unfold X13_bringFrom X13_bringFrom_b18
  rcases W with _ | ⟨T, N⟩
  · have hn := hno rfl
    refine MR_no ?_
    simp [tF, isK, shF hS, m_rn, m_refd hS1, q_bringFrom, rd, hn]
  · obtain ⟨t, hM, hN, hx⟩ := hW T N rfl
    have hM1 := hM.tr 0 0
    have hF := mF hM
    have hX := wk_world hM hN hx 0 0
    by_cases j1 : 0 ≤ n ∧ n ≤ 99
    · have hv : q_bringFrom (some (T, N)) n = (0, (bfF T N n (tH T)).1) := by simp [q_bringFrom, rd, g2, j1]
      rw [hv]
      obtain ⟨s4, f1, f2⟩ := m_bringFrom_l hX j1
      refine MR_of (((Mv_pI (k := 0) (x := 0) (by decide)).trans (Mv_wk _)).trans (Mv_fr f2 (fun a ha => by omega))) ?_
      simp [tF, wkF, isK, shF hS, hF.1, m_rn, j1, m_works hS1, f1]
    all_goals (refine MR_no ?_; simp [tF, isK, shF hS, hF.1, m_rn, m_refd hS1, q_bringFrom, rd, g2, j1])
end MBRING
