/-! moveFor -/
def mvF (T : Tw) (N : Nw) (p : Nat) (night : Int) (n : Nat) : Int × Int := fo (fun h b => if whoF (tP T) (nHo N) (h : Int) = -2 then (if b.2 < (ricT T (houN N p (h : Int)) night : Int) then ((h : Int), (ricT T (houN N p (h : Int)) night : Int)) else b) else b) ((-2 : Int), (ricT T N night : Int)) n
theorem mvF_s (T : Tw) (N : Nw) (p : Nat) (night : Int) (n : Nat) : mvF T N p night (n + 1) = if whoF (tP T) (nHo N) (n : Int) = -2 then (if (mvF T N p night n).2 < (ricT T (houN N p (n : Int)) night : Int) then ((n : Int), (ricT T (houN N p (n : Int)) night : Int)) else mvF T N p night n) else mvF T N p night n := rfl
theorem houN_houN (N : Nw) (p : Nat) (x y : Int) : houN (houN N p x) p y = houN N p y := by
  unfold houN
  congr 2
  funext j
  by_cases h : j = p <;> simp [h]
theorem houN_self (N : Nw) (p : Nat) : houN N p (nHo N p) = N := by
  obtain ⟨a, b, c, e⟩ := N
  unfold houN nHo
  congr 2
  funext j
  by_cases h : j = p <;> simp [h]
theorem NOK.hou {T : Tw} {N : Nw} {p : Nat} {h : Int} (hN : NOK T N) (hh : 0 ≤ h ∧ h < tH T) (hw : whoF (tP T) (nHo N) h = -2) : NOK T (houN N p h) := by
  have hf : ∀ q, q < tP T → nHo N q ≠ h := fun q hq e => by
    have := who_in (ho := nHo N) hq
    rw [e] at this
    exact this hw
  refine ⟨hN.1, fun q hq => ?_, fun q r hq hr => ?_, hN.2.2.2⟩
  · show 0 ≤ (if q = p then h else nHo N q) ∧ (if q = p then h else nHo N q) < tH T
    by_cases e : q = p
    · rw [if_pos e]; exact hh
    · rw [if_neg e]; exact hN.2.1 q hq
  · show (if r = p then h else nHo N r) ≠ (if q = p then h else nHo N q)
    by_cases e1 : q = p
    · rw [if_pos e1, if_neg (by omega)]
      exact hf r (by omega)
    · rw [if_neg e1]
      by_cases e2 : r = p
      · rw [if_pos e2]; exact fun z => hf q hq z.symm
      · rw [if_neg e2]; exact hN.2.2.1 q r hq hr
section MOVEFOR
variable {s : St} {T : Tw} {N : Nw} {t : Int} {p : Nat} {night : Int}
theorem Fr.cs {lo hi : Nat} {s1 : St} (h : Fr (fun a => lo ≤ a ∧ a ≤ hi) s s1) (hl : 39 ≤ lo) (hh : hi ≤ 50) : Fr cS s s1 := h.mono (fun a ha => Or.inl (by omega))
theorem WC.SR (hW : WC T N s) : SR s 32 T N := ⟨hW.2.2.2.2.2, hW.2.2.2.2.1.1, hW.2.2.2.2.1.2.1⟩
theorem l_moveFor (hW : WC T N s) (hp : p < tP T) (hn : 0 ≤ night ∧ night ≤ 99) (hV : CV s T N 41 42 43 44 45 46) : ∃ s1, X11_moveFor_b48 FU s 0 p night (-2) (ricT T N night) 0 = some ((mvF T N p night (tH T)).1, s1) ∧ Fr cS s s1 := by
  have hT := hW.2.1
  have hN := hW.2.2.1
  obtain ⟨t1, t2, t3, t4, t5, t6, t7, t8⟩ := hT.1
  unfold X11_moveFor_b48
  refine iter_inv (Q := fun F => ∃ s1, F = some ((mvF T N p night (tH T)).1, s1) ∧ Fr cS s s1) (fun k a => a.2 = ((0 : Int), (p : Int), night, (mvF T N p night k).1, (mvF T N p night k).2, (k : Int)) ∧ Fr cS s a.1 ∧ ∃ x, CV a.1 T (houN N p x) 41 42 43 44 45 46) (tH T) FU _ (by unfold FU; omega) ⟨rfl, Fr.refl _ _, nHo N p, by rw [houN_self]; exact hV⟩ (fun k hk a ha => ?_) (fun a ha rec => ?_)
  · obtain ⟨s4, a2⟩ := a
    obtain ⟨a1, a2, x, a3⟩ := ha
    simp only at a1
    subst a1
    simp only at a2 a3
    have hW4 := hW.cs a2
    have hS4 := hW4.1
    have c0 := hW4.2.2.2.1.1.1
    have eo := occupantOf_e (h := (k : Int)) vc1.st hS4 hW4.2.2.2.2.1.2.2 t2 (by omega)
    have g1 : ¬ tH T ≤ k := by omega
    have hk6 : k ≤ 6000 := by omega
    have hw := wk1 hk6
    have es := mvF_s T N p night k
    by_cases ho : whoF (tP T) (nHo N) (k : Int) = -2
    · have hNk : NOK T (houN N p (k : Int)) := hN.hou (by clear hw; omega) ho
      obtain ⟨s5, f1, f2, f3⟩ := putPerson_e (h := (k : Int)) (p := p) (N := houN N p x) vc2 hS4 hT (by rw [houN_houN]; exact hNk) hW4.2.2.2.1 a3 hp
      rw [houN_houN] at f3
      have f2' : Fr cS s4 s5 := f2.mono (fun a ha => Or.inl (by simp at ha; clear hw; omega))
      have hW5 := hW4.cs f2'
      have hS5 := hW5.1
      have er := rightCount_e (night := night) vc2 hS5 hT hNk hW5.2.2.2.1 f3 hn
      rw [if_pos ho] at es
      refine ⟨(s5, (0 : Int), (p : Int), night, (mvF T N p night (k + 1)).1, (mvF T N p night (k + 1)).2, ((k + 1 : Nat) : Int)), ⟨rfl, a2.trans f2', (k : Int), f3⟩, fun rec => ?_⟩
      by_cases y : (mvF T N p night k).2 < (ricT T (houN N p (k : Int)) night : Int)
      · rw [if_pos y] at es
        simp [X11_moveFor_b48_body, X11_moveFor_b111, tF, isK, shF hS4, shF hS5, c0, g1, eo, ho, f1, er, es, hw, Int.not_le.mpr y]
      · rw [if_neg y] at es
        simp [X11_moveFor_b48_body, X11_moveFor_b111, tF, isK, shF hS4, shF hS5, c0, g1, eo, ho, f1, er, es, hw, Int.not_lt.mp y]
    · rw [if_neg ho] at es
      refine ⟨(s4, (0 : Int), (p : Int), night, (mvF T N p night (k + 1)).1, (mvF T N p night (k + 1)).2, ((k + 1 : Nat) : Int)), ⟨rfl, a2, x, a3⟩, fun rec => ?_⟩
      simp [X11_moveFor_b48_body, X11_moveFor_b111, tF, isK, shF hS4, c0, g1, eo, ho, es, hw]
  · obtain ⟨s4, a2⟩ := a
    obtain ⟨a1, a2, x, a3⟩ := ha
    simp only at a1
    subst a1
    simp only at a2 a3
    have hW4 := hW.cs a2
    have hS4 := hW4.1
    have c0 := hW4.2.2.2.1.1.1
    exact ⟨s4, by simp [X11_moveFor_b48_body, tF, isK, shF hS4, c0], a2⟩
theorem mv_x78 {s1 : St} (h : Mv s s1) (k : Nat) : gI s1 78 k = gI s 78 k := h.1.nu (by simp [mS])
theorem r_moveFor (hM : MW T t s) (hN : NOK T N) (hx : RXf (fun j => gI s 78 j) T N) (hp : p < tP T) (hn : 0 ≤ night ∧ night ≤ 99) : ∃ s1, X13_moveFor_b47 FU s 76 p night (-2) (ricT T N night) 0 = some ((mvF T N p night (tH T)).1, fiM 0 s1) ∧ Mv s s1 := by
  have hT := hM.2.1
  obtain ⟨t1, t2, t3, t4, t5, t6, t7, t8⟩ := hT.1
  unfold X13_moveFor_b47
  refine iter_inv (Q := fun F => ∃ s1, F = some ((mvF T N p night (tH T)).1, fiM 0 s1) ∧ Mv s s1) (fun k a => a.2 = ((76 : Int), (p : Int), night, (mvF T N p night k).1, (mvF T N p night k).2, (k : Int)) ∧ Mv s a.1) (tH T) FU _ (by unfold FU; omega) ⟨rfl, Mv.refl _⟩ (fun k hk a ha => ?_) (fun a ha rec => ?_)
  · obtain ⟨s4, a2⟩ := a
    obtain ⟨a1, a2⟩ := ha
    simp only at a1
    subst a1
    simp only at a2
    have hM4 := hM.mv a2
    have hS4 := hM4.1
    have hF4 := mF hM4
    have hx4 : RXf (fun j => gI s4 78 j) T N := by simp only [mv_x78 a2]; exact hx
    have hX : WM T N t (wk s4) := by
      have := wk_world hM4 hN hx4 0 (gI s4 76 0)
      rw [pI_self] at this
      exact this
    have hSx := hX.1.1
    have eo := m_who (ho := (k : Int)) hX
    have g1 : ¬ tH T ≤ k := by clear hF4; omega
    have gp : (p : Int) < 19 := by clear hF4; omega
    have hk6 : k ≤ 6000 := by clear hF4; omega
    have hw := wk1 hk6
    have es := mvF_s T N p night k
    have ewk := m_works hS4
    by_cases ho : whoF (tP T) (nHo N) (k : Int) = -2
    · have hNk : NOK T (houN N p (k : Int)) := hN.hou (by clear hF4 hw; omega) ho
      have hXk : WM T (houN N p (k : Int)) t (pI (wk s4) 79 p (k : Int)) := ⟨hX.1.x _ _, hNk, by rw [gI_pI_fun]; exact hX.2.2.hou hT hp⟩
      have er := m_rightOn hXk hn
      have eb := m_bitsR (s := pI (wk s4) 79 p (k : Int)) (night := night) hT (houN N p (k : Int))
      rw [if_pos ho] at es
      refine ⟨(pI (wk s4) 79 p (k : Int), (76 : Int), (p : Int), night, (mvF T N p night (k + 1)).1, (mvF T N p night (k + 1)).2, ((k + 1 : Nat) : Int)), ⟨rfl, (a2.trans (Mv_wk _)).trans (Mv_x _ _ _)⟩, fun rec => ?_⟩
      by_cases y : (mvF T N p night k).2 < (ricT T (houN N p (k : Int)) night : Int)
      · rw [if_pos y] at es
        simp [X13_moveFor_b47_body, X13_moveFor_b113, tF, wkF, isK, shF hS4, hF4, g1, gp, ewk, eo, ho, er, eb, y, es, hw]
      · rw [if_neg y] at es
        simp [X13_moveFor_b47_body, X13_moveFor_b113, tF, wkF, isK, shF hS4, hF4, g1, gp, ewk, eo, ho, er, eb, y, es, hw]
    · rw [if_neg ho] at es
      refine ⟨(wk s4, (76 : Int), (p : Int), night, (mvF T N p night (k + 1)).1, (mvF T N p night (k + 1)).2, ((k + 1 : Nat) : Int)), ⟨rfl, a2.trans (Mv_wk _)⟩, fun rec => ?_⟩
      simp [X13_moveFor_b47_body, X13_moveFor_b113, tF, wkF, isK, shF hS4, hF4, g1, ewk, eo, ho, es, hw]
  · obtain ⟨s4, a2⟩ := a
    obtain ⟨a1, a2⟩ := ha
    simp only at a1
    subst a1
    simp only at a2
    have hM4 := hM.mv a2
    have hS4 := hM4.1
    have hF4 := mF hM4
    exact ⟨s4, by simp [X13_moveFor_b47_body, tF, isK, shF hS4, hF4, m_good hS4], a2⟩
end MOVEFOR
def q_moveFor (W : Wd) (p n : Int) : Int × Int := rd W (fun T => g2 (0 ≤ p ∧ p < tP T) (0 ≤ n ∧ n ≤ 99)) (fun T N => (mvF T N p.toNat n (tH T)).1)
section MVCALL
variable {W : Wd} {s : St}
theorem cc_moveFor (h : CW W s) (p n : Int) : CR s (q_moveFor W p n).1 (q_moveFor W p n).2 (X11_moveFor s 0 p n) := by
  obtain ⟨hS, ⟨h0, h2, h3⟩, hW⟩ := h
  have eP := c_pers hS h2
  unfold X11_moveFor
  rcases W with _ | ⟨T, N⟩
  · refine CR_eq ?_
    have a0 : ¬ (0 ≤ p ∧ p < 0) := by omega
    simp [tF, isK, shF hS, eP, c_night, c_ref hS, q_moveFor, rd, nP, a0]
  · have hW0 := hW T N rfl
    have hW1 := hW0.tr 2 0
    by_cases j0 : 0 ≤ p ∧ p < tP T <;> by_cases j1 : 0 ≤ n ∧ n ≤ 99
    · obtain ⟨p, rfl, hk⟩ := nat_of j0
      have hv : q_moveFor (some (T, N)) p n = (0, (mvF T N p n (tH T)).1) := by simp [q_moveFor, rd, g2, hk, j1]
      rw [hv]
      have er := rightCount_e (night := n) vc1 hW1.1 hW1.2.1 hW1.2.2.1 hW1.2.2.2.1 hW1.2.2.2.2.1 j1
      obtain ⟨s3, e1, e2, e3, e4⟩ := settle_e (y := 32) vc2 hW1.1 hW1.2.1 hW1.2.2.1 hW1.2.2.2.1 (by simp [stC]) (by decide) hW1.SR
      have e2' : Fr cS (pI s 0 2 0) s3 := e2.mono (fun a ha => Or.inl (by simp at ha; omega))
      have hW3 := hW1.cs e2'
      obtain ⟨s4, f1, f2⟩ := l_moveFor hW3 hk j1 e3
      refine CR_of (s1 := s4) ?_ (e2'.trans f2)
      simp [tF, isK, shF hS, eP, c_night, c_ref hS, nP, hk, j1, er, e1, f1]
    all_goals (refine CR_eq ?_; simp [tF, isK, shF hS, eP, c_night, c_ref hS, q_moveFor, rd, g2, nP, j0, j1])
theorem mm_moveFor (h : MWd W s) (p n : Int) : MR s (q_moveFor W p n).1 (q_moveFor W p n).2 (X13_moveFor s 76 p n) := by
  obtain ⟨hS, hno, hW⟩ := h
  have hS1 : Sh (pI s 76 0 0) := hS
  unfold X13_moveFor
  rcases W with _ | ⟨T, N⟩
  · have hn := hno rfl
    have hn1 : gR (pI s 76 0 0) 76 3 < 0 := hn
    refine MR_no ?_
    simp [tF, isK, shF hS, m_rn, m_refd hS1, n_pers hS1 hn1, q_moveFor, rd]
  · obtain ⟨t, hM, hN, hx⟩ := hW T N rfl
    have hM1 := hM.tr 0 0
    have hX := wk_world hM hN hx 0 0
    by_cases j0 : 0 ≤ p ∧ p < tP T <;> by_cases j1 : 0 ≤ n ∧ n ≤ 99
    · obtain ⟨p, rfl, hk⟩ := nat_of j0
      have hv : q_moveFor (some (T, N)) p n = (0, (mvF T N p n (tH T)).1) := by simp [q_moveFor, rd, g2, hk, j1]
      rw [hv]
      have er := m_rightOn hX j1
      have eb := m_bitsR (s := wk (pI s 76 0 0)) (night := n) hM.2.1 N
      obtain ⟨s4, f1, f2⟩ := r_moveFor (s := wk (pI s 76 0 0)) (p := p) (night := n) hX.1 hN hx hk j1
      refine MR_of (((Mv_pI (k := 0) (x := 0) (by decide)).trans (Mv_wk _)).trans f2) ?_
      simp [tF, wkF, isK, shF hS, m_pers hM1, m_rn, hk, j1, m_works hS1, er, eb, f1]
    all_goals (refine MR_no ?_; simp [tF, isK, shF hS, m_pers hM1, m_rn, m_refd hS1, q_moveFor, rd, g2, j0, j1])
end MVCALL
