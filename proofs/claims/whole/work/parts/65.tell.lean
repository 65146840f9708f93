/-! what is told: fault, where, trouble, size -/
section TELL
variable {W : Wd} {L : Lg} {I : Im} {tr fl fp : Int} {tp : Nat × (Nat → Int)} {s s1 : St} {k : Nat} {x : Int}
theorem MI_.f0 (h : MI_ W L I tr fl fp tp s) (hk : k = 0 ∨ k = 32 ∨ k = 23 ∨ k = 30) : MI_ W L I tr fl fp tp (pI s 76 k x) := by
  obtain ⟨m1, m2, m3, m4⟩ := h
  have e : ∀ j, j = 1 ∨ j = 2 ∨ j = 6 ∨ j = 12 ∨ j = 19 ∨ j = 20 → gI (pI s 76 k x) 76 j = gI s 76 j := fun j hj => by rw [gI_pI, if_neg (by omega)]
  refine ⟨⟨m1.1, m1.2.1, fun T N z => ?_⟩, ?_, m3, fun T N z => ?_⟩
  · obtain ⟨t, t1, t2, t3⟩ := m1.2.2 T N z
    exact ⟨t, t1.tr k x, t2, t3⟩
  · rw [e 1 (by omega), e 2 (by omega), e 6 (by omega), e 12 (by omega), e 19 (by omega), e 20 (by omega)]
    exact m2
  · have := m4 T N z
    unfold LGm at this ⊢
    rw [e 19 (by omega)]
    exact this
theorem step_tell {F G : St → Rs} {r : Int} (hO : OKS W L I) (ht : tp.1 ≤ 800 ∧ ∀ j, ok8 (tp.2 j)) (hC : CI W L I tr fl fp tp s) (hM : MI_ W L I tr fl fp tp s) (hF : F s = some (r, s)) (hG : G s = some (r, pI s 76 0 0)) : STP s F G := by
  have e2 : (pI s 76 0 0).1 = s.1 := rfl
  refine ⟨r, s, pI s 76 0 0, hF, hG, hC.1.1, ⟨W, L, I, tr, fl, fp, tp, hO, ht, hC.mread hO.2.2.1 (Mv_pI (by decide)), hM.f0 (Or.inl rfl)⟩, ?_, ?_, ?_⟩ <;> rw [e2] <;> omega
theorem s_fault (h : INV s) : STP s (fun s => X11_fault s 0) (fun s => X13_fault s 76) := by
  obtain ⟨W, L, I, tr, fl, fp, tp, hO, ht, hC, hM⟩ := h
  have hS := hC.1.1
  have a1 := hC.2.1.2.2.1
  have a2 : gI (pI s 76 0 0) 76 12 = fl := hM.2.1.2.2.2.1
  refine step_tell (r := fl) hO ht hC hM ?_ ?_
  · simp [X11_fault, tF, isK, shF hS, a1]
  · simp [X13_fault, tF, isK, shF hS, a2]
theorem s_trouble (h : INV s) : STP s (fun s => X11_trouble s 0) (fun s => X13_trouble s 76) := by
  obtain ⟨W, L, I, tr, fl, fp, tp, hO, ht, hC, hM⟩ := h
  have hS := hC.1.1
  have a1 := hC.2.1.2.1
  have a2 : gI (pI s 76 0 0) 76 1 = tr := hM.2.1.1
  refine step_tell (r := tr) hO ht hC hM ?_ ?_
  · simp [X11_trouble, tF, isK, shF hS, a1]
  · simp [X13_trouble, tF, isK, shF hS, a2]
theorem s_where (h : INV s) : STP s (fun s => X11_where s 0) (fun s => X13_where s 76) := by
  obtain ⟨W, L, I, tr, fl, fp, tp, hO, ht, hC, hM⟩ := h
  have hS := hC.1.1
  have a1 := hC.2.1.2.1
  have a3 := hC.2.1.2.2.2.1
  have a2 : gI (pI s 76 0 0) 76 2 = if tr = 4 then fp else -1 := hM.2.1.2.1
  refine step_tell (r := if tr = 4 then fp else -1) hO ht hC hM ?_ ?_
  · by_cases q : tr = 4 <;> simp [X11_where, X11_where_b16, tF, isK, shF hS, a1, a3, q]
  · simp [X13_where, tF, isK, shF hS, a2]
theorem m_mirrors {T : Tw} {N : Nw} {t : Int} (hM : MW T t s) (hN : NOK T N) (hx : RXf (fun j => gI s 78 j) T N) : X13_mirrorsNow s 76 = some (((cnt (fun d => hmT N d) (tD T) : Nat) : Int), s) := by
  have hS := hM.1
  have hF := mF hM
  have t6 := hM.2.1.1.2.2.2.2.2.1
  unfold X13_mirrorsNow X13_mirrorsNow_b4
  refine iter_run (tD T) FU (fun k : Nat => (s, (76 : Int), ((cnt (fun d => hmT N d) k : Nat) : Int), (k : Int))) (fuel7 (by omega)) (fun k hk rec => ?_) (fun rec => ?_)
  · have hg : ¬ tD T ≤ k := by clear hF; omega
    have g1 : (0 : Int) ≤ 12 + k := by clear hF; omega
    have g3 : (12 : Int) + k < 19 := by clear hF; omega
    have i2 : (12 + (k : Int)).toNat = 12 + k := by clear hF; omega
    have e : gI s 78 (12 + k) = nMi N k := (hx.2.1 k hk).2
    have hm := (hN.2.2.2 k hk).2
    have cl := cnt_le (fun d => hmT N d) k
    have hk6 : k ≤ 6000 := by clear hF; omega
    have hc6 : cnt (fun d => hmT N d) k ≤ 6000 := by clear hF; omega
    have hz : hmT N k = true ↔ ¬ nMi N k = -2 := by
      unfold hmT
      simp only [decide_eq_true_eq]
      clear hF
      omega
    have w2 : w32 (12 + (k : Int)) = 12 + (k : Int) := w32e (by clear hF; omega)
    have hw := wk1 hk6
    have hw1 := wk1 hc6
    have hw0 := wk0 hc6
    by_cases y : nMi N k = -2
    · have hb := cnt_s0 (P := fun d => hmT N d) (d := k) (fun z => (hz.mp z) y)
      simp [X13_mirrorsNow_b4_body, X13_mirrorsNow_b35, tF, isK, shF hS, hF, hg, w2, g1, g3, i2, e, y, hb, hw, hw0]
    · have hb := cnt_s1 (P := fun d => hmT N d) (d := k) (hz.mpr y)
      simp [X13_mirrorsNow_b4_body, X13_mirrorsNow_b35, tF, isK, shF hS, hF, hg, w2, g1, g3, i2, e, y, hb, hw, hw1]
  · simp [X13_mirrorsNow_b4_body, tF, isK, shF hS, hF]
theorem n_mirrors (hS : Sh s) (h3 : gI s 19 3 = 0) : X10_mirrorCount s 31 = some (0, s) := by
  unfold X10_mirrorCount X10_mirrorCount_b4
  refine iter_run 0 FU (fun k : Nat => (s, (31 : Int), (0 : Int), (0 : Int))) (by unfold FU; omega) (fun k hk rec => by omega) (fun rec => ?_)
  simp [X10_mirrorCount_b4_body, tF, isK, shF hS, h3]
theorem s_size (a : Int) (h : INV s) : STP s (fun s => X11_size s 0 a) (fun s => X13_size s 76 a) := by
  obtain ⟨W, L, I, tr, fl, fp, tp, hO, ht, hC, hM⟩ := h
  have hS := hC.1.1
  have hC' := hC
  have hM' := hM
  obtain ⟨⟨-, ⟨c0, c2, c3⟩, hW⟩, ⟨z1, z2, z3, z4, z15⟩, -, -, hLc, hno, hsm⟩ := hC
  have l0 := hLc.1
  obtain ⟨⟨-, mno, mW⟩, ⟨y1, y2, y6, y12, y19, y20⟩, -, -⟩ := hM
  have x6 : gI (pI s 76 0 0) 76 6 = (tp.1 : Int) := y6
  have x19 : gI (pI s 76 0 0) 76 19 = (L.1 : Int) := y19
  have x20 : gI (pI s 76 0 0) 76 20 = (I.1 : Int) := y20
  by_cases q10 : a = 10
  · subst q10
    refine step_tell (r := (tp.1 : Int)) hO ht hC' hM' ?_ ?_
    · simp [X11_size, swt, tF, isK, shF hS, z1]
    · simp [X13_size, tF, isK, shF hS, x6]
  · by_cases q : 0 ≤ a ∧ a ≤ 9
    · have hc : a = 0 ∨ a = 1 ∨ a = 2 ∨ a = 3 ∨ a = 4 ∨ a = 5 ∨ a = 6 ∨ a = 7 ∨ a = 8 ∨ a = 9 := by omega
      rcases W with _ | ⟨T, N⟩
      · obtain ⟨o1, o4, o5, o32⟩ := hno rfl
        have hz := hO.1 rfl
        have c0' : gI s 19 0 = 0 := c0
        have c2' : gI s 19 2 = 0 := c2
        have c3' : gI s 19 3 = 0 := c3
        have hm := n_mirrors hS c3'
        have hr := mno rfl
        refine step_tell (r := 0) hO ht hC' hM' ?_ ?_
        · rcases hc with rfl | rfl | rfl | rfl | rfl | rfl | rfl | rfl | rfl | rfl <;>
          simp [X11_size, swt, tF, isK, shF hS, c0', c2', c3', o1, o4, o5, o32, hm, l0, z15, hz.1, hz.2]
        · rcases hc with rfl | rfl | rfl | rfl | rfl | rfl | rfl | rfl | rfl | rfl <;>
          simp [X13_size, swt, tF, isK, shF hS, m_in, hr]
      · have hW0 := hW T N rfl
        obtain ⟨t, t1, t2, t3⟩ := mW T N rfl
        have tA := t1.tr 0 0
        have hF := mF t1
        have hFA := (mF tA).2.2.2.2.2.2
        have e1 := l_mirrorCount hW0
        have e2 := m_mirrors (s := pI s 76 0 0) tA t2 t3
        have n32 := hW0.2.2.2.2.2
        have x18 : gI (pI s 76 0 0) 78 18 = nN N := t3.2.2
        obtain ⟨d0, d1, d2, d3, d4, d5⟩ := hW0.2.2.2.1.1
        refine step_tell (r := if a = 0 then (tH T : Int) else if a = 1 then (tL T : Int) else if a = 2 then (tP T : Int) else if a = 3 then (tD T : Int) else if a = 4 then ((cnt (fun d => hmT N d) (tD T) : Nat) : Int) else if a = 5 then (tU T : Int) else if a = 6 then (tQ T : Int) else if a = 7 then nN N else if a = 8 then (L.1 : Int) else (I.1 : Int)) hO ht hC' hM' ?_ ?_
        · rcases hc with rfl | rfl | rfl | rfl | rfl | rfl | rfl | rfl | rfl | rfl <;>
          simp [X11_size, swt, tF, isK, shF hS, d0, d1, d2, d3, d4, d5, n32, e1, l0, z15]
        · rcases hc with rfl | rfl | rfl | rfl | rfl | rfl | rfl | rfl | rfl | rfl <;>
          simp [X13_size, swt, tF, isK, shF hS, m_in, hF.1, hFA, e2, x18, x19, x20]
    · refine step_tell (r := -1) hO ht hC' hM' ?_ ?_
      · have hg : a < 0 ∨ 11 ≤ a := by omega
        rcases hg with hg | hg
        · simp [X11_size, swt, show ¬ 0 ≤ a by omega]
        · have hn : 11 ≤ (a - 0).toNat := by omega
          unfold X11_size swt
          rw [if_pos (by omega), List.getD_eq_getElem?_getD, List.getElem?_eq_none (by simp; omega)]
          rfl
      · simp [X13_size, tF, isK, shF hS, m_in, q, q10]
end TELL
