/-! image, back -/
section IMAGES
variable {s : St}
theorem img_r (hS : Sh s) {i : Nat} (hi : i < 3) : gR s 63 i = 64 + 4 * (i : Int) ∧ kd s (64 + 4 * (i : Int)) = 16 ∧ stC (64 + 4 * (i : Int)) := by
  have hc : i = 0 ∨ i = 1 ∨ i = 2 := by omega
  rcases hc with rfl | rfl | rfl <;> simp [shF hS, stC]
theorem image_b34 {n : Nat} (hS : Sh s) (hn : n < 3) (hc : gI s 76 20 = (n : Int)) : ∃ s1, X13_image_b34 FU s 76 0 = some ((n : Int), fiM 0 s1) ∧ Fr (fun a => a = 81 ∨ a = 76) s s1 ∧ (∀ k, k ≠ 20 → gI s1 76 k = gI s 76 k) ∧ gI s1 76 20 = ((n + 1 : Nat) : Int) ∧ ∀ j, gI s1 81 j = if 19 * n ≤ j ∧ j < 19 * n + 19 then gI s 78 (j - 19 * n) else gI s 81 j := by
  unfold X13_image_b34
  refine iter_inv (Q := fun F => ∃ s1, F = some ((n : Int), fiM 0 s1) ∧ Fr (fun a => a = 81 ∨ a = 76) s s1 ∧ (∀ k, k ≠ 20 → gI s1 76 k = gI s 76 k) ∧ gI s1 76 20 = ((n + 1 : Nat) : Int) ∧ ∀ j, gI s1 81 j = if 19 * n ≤ j ∧ j < 19 * n + 19 then gI s 78 (j - 19 * n) else gI s 81 j) (fun i a => a.2 = ((76 : Int), (i : Int)) ∧ Fr (fun a => a = 81) s a.1 ∧ ∀ j, gI a.1 81 j = if 19 * n ≤ j ∧ j < 19 * n + i then gI s 78 (j - 19 * n) else gI s 81 j) 19 FU _ (by unfold FU; omega) ⟨rfl, Fr.refl _ _, fun j => by rw [if_neg (by omega)]⟩ (fun i hi a ha => ?_) (fun a ha rec => ?_)
  · obtain ⟨s4, a2⟩ := a
    obtain ⟨a1, a2, a4⟩ := ha
    simp only at a1
    subst a1
    simp only at a2 a4
    have hS4 : Sh s4 := by rw [a2.sh]; exact hS
    have c19 : gI s4 76 20 = (n : Int) := (a2.nu (by simp)).trans hc
    have c78 : gI s4 78 i = gI s 78 i := a2.nu (by simp)
    have g1 : ¬ (19 : Int) ≤ (i : Int) := by omega
    have g2 : (i : Int) < 19 := by omega
    have g3 : (0 : Int) ≤ 19 * (n : Int) + (i : Int) := by omega
    have g4 : 19 * (n : Int) + (i : Int) < 57 := by omega
    have i1 : (19 * (n : Int) + (i : Int)).toNat = 19 * n + i := by omega
    have hi6 : i ≤ 6000 := by omega
    refine ⟨(pI s4 81 (19 * n + i) (gI s 78 i), (76 : Int), ((i + 1 : Nat) : Int)), ⟨rfl, a2.trans (Fr_pI (by simp)), fun j => ?_⟩, fun rec => ?_⟩
    · show gI (pI s4 81 (19 * n + i) (gI s 78 i)) 81 j = _
      rw [gI_pI]
      by_cases q : j = 19 * n + i
      · rw [if_pos ⟨rfl, q⟩, if_pos (by omega), show j - 19 * n = i by omega]
      · rw [if_neg (fun z => q z.2), a4 j]
        by_cases z : 19 * n ≤ j ∧ j < 19 * n + i
        · rw [if_pos z, if_pos (by omega)]
        · rw [if_neg z, if_neg (by omega)]
    · have w1 : w32 (19 * (n : Int)) = 19 * (n : Int) := w32e (by omega)
      have w2 : w32 (19 * (n : Int) + (i : Int)) = 19 * (n : Int) + (i : Int) := w32e (by clear w1; omega)
      have hw := wk1 hi6
      simp [X13_image_b34_body, tF, isK, shF hS4, c19, c78, g1, g2, g3, g4, i1, w1, w2, hw]
  · obtain ⟨s4, a2⟩ := a
    obtain ⟨a1, a2, a4⟩ := ha
    simp only at a1
    subst a1
    simp only at a2 a4
    have hS4 : Sh s4 := by rw [a2.sh]; exact hS
    have c19 : gI s4 76 20 = (n : Int) := (a2.nu (by simp)).trans hc
    have hS5 : Sh (pI s4 76 20 ((n : Int) + 1)) := hS4
    have hw := wk1 (k := n) (by omega)
    have hw0 : w32 (n : Int) = (n : Int) := wk0 (by clear hw; omega)
    refine ⟨pI s4 76 20 ((n : Int) + 1), by simp [X13_image_b34_body, tF, isK, shF hS4, c19, hw, gI_pI, hw0, m_good hS5], (a2.mono (fun a ha => Or.inl ha)).trans (Fr_pI (by simp)), fun k hk => ?_, ?_, fun j => ?_⟩
    · rw [gI_pI, if_neg (fun z => hk z.2)]
      exact a2.nu (by simp)
    · rw [gI_pI]; simp
    · rw [gI_pI, if_neg (by simp)]
      exact a4 j
theorem s_image (h : INV s) : STP s (fun s => X11_image s 0) (fun s => X13_image s 76) := by
  obtain ⟨W, L, I, tr, fl, fp, tp, hO, ht, hC, hM⟩ := h
  obtain ⟨hS, ⟨h0, h2, h3⟩, hW⟩ := hC.1
  have eT := c_town hS h0
  rcases W with _ | ⟨T, N⟩
  · refine step_read hO ht hC hM (1, -1) (by decide) (CR_eq ?_) (fun s1 h1 => MR_no ?_)
    · simp [X11_image, tF, isK, shF hS, eT, c_ref hS, nH]
    · obtain ⟨hS1, hno, -⟩ := h1
      have hS2 : Sh (pI s1 76 0 0) := hS1
      simp [X13_image, tF, isK, shF hS1, hno rfl, m_refd hS2]
  · obtain ⟨hT, hN, hLo, hIm⟩ := hO.2.2.2 T N rfl
    have hW0 := hW T N rfl
    have hH0 : ¬ tH T = 0 := by have := hW0.2.1.1.1; omega
    have i15 := hC.2.1.2.2.2.2
    have i3 := hO.2.2.1
    have hWA := hW0.tr 2 0
    by_cases c : I.1 < 3
    · obtain ⟨r1, r2, r3⟩ := img_r hS c
      obtain ⟨sB, e1, e2, e3⟩ := copy_SR (s := pI s 0 2 0) hWA.1 hT.1 r3 (by simp [stC] : stC 32) (by omega) hWA.SR
      have hSB : Sh sB := by rw [e2.sh]; exact hWA.1
      have b15 : gI sB 0 15 = (I.1 : Int) := (e2.nu (by simp; omega)).trans (by rw [gI_pI, if_neg (by simp)]; exact i15)
      have hA : CI (some (T, N)) L I 0 fl fp tp (pI s 0 2 0) := hC.cread hO.2.2.1 (Fr.refl _ _)
      have hfr : Fr (fun a => a < 76) s (pI sB 0 15 ((I.1 : Int) + 1)) := ((Fr_pI (by decide)).trans (e2.mono (fun a ha => by omega))).trans (Fr_pI (by decide))
      have hO2 : OKS (some (T, N)) L (I.1 + 1, fun j => if j = I.1 then N else I.2 j) := by
        refine ⟨(fun q => by cases q), hO.2.1, by show I.1 + 1 ≤ 3; omega, fun T' N' q => ?_⟩
        cases q
        refine ⟨hT, hN, hLo, fun j hj => ?_⟩
        have hj' : j < I.1 + 1 := hj
        show NOK T (if j = I.1 then N else I.2 j)
        by_cases z : j = I.1
        · rw [if_pos z]; exact hN
        · rw [if_neg z]; exact hIm j (by omega)
      have e : ∀ (a : Int) (k : Nat), a.toNat ≠ 0 → ¬ ((64 + 4 * (I.1 : Int)).toNat ≤ a.toNat ∧ a.toNat ≤ (64 + 4 * (I.1 : Int)).toNat + 3) → gI (pI sB 0 15 ((I.1 : Int) + 1)) a k = gI s a k := fun a k a0 ha => by
        rw [gI_pI, if_neg (fun z => a0 z.1), e2.nu ha, gI_pI, if_neg (fun z => a0 z.1)]
      have e0 : ∀ k, k ≠ 2 → k ≠ 15 → gI (pI sB 0 15 ((I.1 : Int) + 1)) 0 k = gI s 0 k := fun k k1 k2 => by
        rw [gI_pI, if_neg (fun z => k2 z.2), e2.nu (by simp; omega), gI_pI, if_neg (fun z => k1 z.2)]
      have eL : ∀ (a : Int) (k : Nat), a.toNat ≠ 0 → a.toNat < 64 → gI (pI sB 0 15 ((I.1 : Int) + 1)) a k = gI s a k := fun a k a0 a1 => e a k a0 (by omega)
      have hC2 : CI (some (T, N)) L (I.1 + 1, fun j => if j = I.1 then N else I.2 j) 0 fl fp tp (pI sB 0 15 ((I.1 : Int) + 1)) := by
        obtain ⟨a1, h4, h5, h6, h7, h8, h9⟩ := hC
        have E1 : ∀ k, gI (pI sB 0 15 ((I.1 : Int) + 1)) 1 k = gI s 1 k := fun k => eL 1 k (by decide) (by decide)
        have E19 : ∀ k, gI (pI sB 0 15 ((I.1 : Int) + 1)) 19 k = gI s 19 k := fun k => eL 19 k (by decide) (by decide)
        have E51 : ∀ k, gI (pI sB 0 15 ((I.1 : Int) + 1)) 51 k = gI s 51 k := fun k => eL 51 k (by decide) (by decide)
        have E4 : gI (pI sB 0 15 ((I.1 : Int) + 1)) 4 0 = gI s 4 0 := eL 4 0 (by decide) (by decide)
        have E55 : ∀ k, gI (pI sB 0 15 ((I.1 : Int) + 1)) 55 k = gI s 55 k := fun k => eL 55 k (by decide) (by decide)
        have E56 : ∀ k, gI (pI sB 0 15 ((I.1 : Int) + 1)) 56 k = gI s 56 k := fun k => eL 56 k (by decide) (by decide)
        have E59 : ∀ k, gI (pI sB 0 15 ((I.1 : Int) + 1)) 59 k = gI s 59 k := fun k => eL 59 k (by decide) (by decide)
        have E60 : ∀ k, gI (pI sB 0 15 ((I.1 : Int) + 1)) 60 k = gI s 60 k := fun k => eL 60 k (by decide) (by decide)
        have E61 : ∀ k, gI (pI sB 0 15 ((I.1 : Int) + 1)) 61 k = gI s 61 k := fun k => eL 61 k (by decide) (by decide)
        have E62 : ∀ k, gI (pI sB 0 15 ((I.1 : Int) + 1)) 62 k = gI s 62 k := fun k => eL 62 k (by decide) (by decide)
        have hW2 : WC T N (pI sB 0 15 ((I.1 : Int) + 1)) := (hWA.fr e2 (fun a x y z => by omega)).tr 15 _
        refine ⟨⟨hSB, ?_, fun T' N' q => ?_⟩, ⟨(e0 1 (by decide) (by decide)).trans h4.1, ?_, (e0 3 (by decide) (by decide)).trans h4.2.2.1, (e0 4 (by decide) (by decide)).trans h4.2.2.2.1, ?_⟩, ?_, ?_, ?_, (fun q => by cases q), fun T' N' q => ?_⟩
        · simp only [E19]; exact a1.2.1
        · cases q; exact hW2
        · rw [gI_pI, if_neg (by simp), e2.nu (by simp; omega), gI_pI]; simp
        · rw [gI_pI]; simp
        · simp only [E1]; exact h5
        · simp only [E51, E4]; exact h6
        · unfold LGc at h7 ⊢; simp only [E59, E60, E61, E62]; exact h7
        · cases q
          obtain ⟨b1, b2⟩ := h9 T N rfl
          refine ⟨?_, fun j hj => ?_⟩
          · unfold FTc at b1 ⊢; simp only [E55, E56]; exact b1
          · have hj' : j < I.1 + 1 := hj
            show SR _ _ T (if j = I.1 then N else I.2 j)
            by_cases z : j = I.1
            · rw [if_pos z, z]
              exact e3.eq (fun i i1 i2 k => by rw [gI_pI, if_neg (by simp; omega)])
            · rw [if_neg z]
              exact (b2 j (by omega)).eq (fun i i1 i2 k => e _ k (by omega) (by omega))
      refine step_act (s1 := pI sB 0 15 ((I.1 : Int) + 1)) (r := (I.1 : Int)) (w := 0) hO2 ht hM ?_ hfr hC2 ?_
      · have g3 : (I.1 : Int) < 3 := by omega
        have hw := wk1 (k := I.1) (by omega)
        have hw0 : w32 (I.1 : Int) = (I.1 : Int) := wk0 (by clear hw; omega)
        simp [X11_image, tF, isK, shF hS, shF hSB, eT, c_ref hS, nH, hH0, gI_pI, i15, g3, r1, r2, e1, b15, hw, hw0]
        clear hw hw0
        omega
      · intro hM1
        have hM1' := hM1
        obtain ⟨⟨m1, m2, m3⟩, m4, m5, m6⟩ := hM1
        obtain ⟨t, t1, t2, t3⟩ := m3 T N rfl
        have hF := mF t1
        obtain ⟨s1, u1, u2, u3, u4, u5⟩ := image_b34 (s := pI (pI sB 0 15 ((I.1 : Int) + 1)) 76 0 0) (n := I.1) m1 c m4.2.2.2.2.2
        have hm : Fr (fun a => a = 76 ∨ a = 81) (pI sB 0 15 ((I.1 : Int) + 1)) (fiM 0 s1) := ((Fr_pI (by simp)).trans (u2.mono (fun a ha => by omega))).trans ((Fr_pI (by simp)).trans (Fr_pI (by simp)))
        have E : ∀ (a : Int) (k : Nat), a.toNat ≠ 76 → a.toNat ≠ 81 → gI (fiM 0 s1) a k = gI (pI sB 0 15 ((I.1 : Int) + 1)) a k := fun a k h1 h2 => hm.nu (by simp; omega)
        have i20 : gI (pI (pI sB 0 15 ((I.1 : Int) + 1)) 76 0 0) 76 20 = (I.1 : Int) := m4.2.2.2.2.2
        have c' : ¬ (I.1 : Int) = 3 := by clear hF; omega
        refine ⟨fiM 0 s1, ?_, hm.mono (fun a ha => by clear hF; omega), ?_⟩
        · simp [X13_image, tF, isK, shF m1, hF.1, i20, c', u1]
        · have E77 : ∀ k, gI (fiM 0 s1) 77 k = gI (pI sB 0 15 ((I.1 : Int) + 1)) 77 k := fun k => E 77 k (by decide) (by decide)
          have E78 : ∀ k, gI (fiM 0 s1) 78 k = gI (pI sB 0 15 ((I.1 : Int) + 1)) 78 k := fun k => E 78 k (by decide) (by decide)
          have E80 : ∀ k, gI (fiM 0 s1) 80 k = gI (pI sB 0 15 ((I.1 : Int) + 1)) 80 k := fun k => E 80 k (by decide) (by decide)
          refine ⟨⟨by rw [hm.sh]; exact m1, (fun q => by cases q), fun T' N' q => ?_⟩, ⟨rfl, rfl, (u3 6 (by decide)).trans m4.2.2.1, (u3 12 (by decide)).trans m4.2.2.2.1, (u3 19 (by decide)).trans m4.2.2.2.2.1, u4⟩, ?_, fun T' N' q => ?_⟩
          · cases q
            refine ⟨t, t1.fr hm (fun a ha z => by clear hF; omega), hN, ?_⟩
            simp only [E78]; exact t3
          · simp only [E77]; exact m5
          · cases q
            obtain ⟨b1, b2⟩ := m6 T N rfl
            refine ⟨⟨(u3 19 (by decide)).trans m4.2.2.2.2.1, ?_⟩, fun j hj => ?_⟩
            · simp only [E80]; exact b1.2
            · have hj' : j < I.1 + 1 := hj
              show RXf (fun i => gI s1 81 (19 * j + i)) T (if j = I.1 then N else I.2 j)
              by_cases z : j = I.1
              · rw [if_pos z]
                refine t3.cg hT.1 (fun i hi => ?_)
                rw [u5, if_pos (by clear hF; omega), show 19 * j + i - 19 * I.1 = i by rw [z]; clear hF; omega]
                rfl
              · rw [if_neg z]
                refine (b2 j (by clear hF; omega)).cg hT.1 (fun i hi => ?_)
                rw [u5, if_neg (by clear hF; omega)]
                rfl
    · have c3 : I.1 = 3 := by omega
      have hC1 : CI (some (T, N)) L I 3 fl fp tp (pI s 0 2 3) := hC.cread hO.2.2.1 (Fr.refl _ _)
      refine step_act (s1 := pI s 0 2 3) (r := -1) (w := 3) hO ht hM ?_ (Fr_pI (by decide)) hC1 ?_
      · have g3 : ¬ (I.1 : Int) < 3 := by omega
        simp [X11_image, tF, isK, shF hS, eT, c_ref hS, nH, hH0, gI_pI, i15, g3, c, X11_refuse, pI_pI]
      · intro hM1
        have hM1' := hM1
        obtain ⟨⟨m1, m2, m3⟩, m4, m5, m6⟩ := hM1
        obtain ⟨t, t1, t2, t3⟩ := m3 T N rfl
        have hF := mF t1
        have tA := t1.tr 0 0
        have i20 : gI (pI (pI s 0 2 3) 76 0 0) 76 20 = 3 := by
          have : gI (pI (pI s 0 2 3) 76 0 0) 76 20 = (I.1 : Int) := m4.2.2.2.2.2
          rw [this, c3]; rfl
        have hv : Mv (pI s 0 2 3) (fiM 3 (pI (pI s 0 2 3) 76 0 0)) := Mv_fiM (Mv_pI (by decide))
        refine ⟨fiM 3 (pI (pI s 0 2 3) 76 0 0), ?_, hv.1.mono (fun a ha => by unfold mS at ha; clear hF; omega), hM1'.mread hv rfl rfl (by decide)⟩
        simp [X13_image, tF, isK, shF m1, hF.1, i20, m_refd tA.1]
theorem back_b32 {n : Nat} (hS : Sh s) (hn : n < 3) : ∃ s1, X13_back_b32 FU s 76 n 0 = some (1, fiM 0 (pI s1 76 19 0)) ∧ Fr (fun a => a = 78) s s1 ∧ ∀ j, j < 19 → gI s1 78 j = gI s 81 (19 * n + j) := by
  unfold X13_back_b32
  refine iter_inv (Q := fun F => ∃ s1, F = some (1, fiM 0 (pI s1 76 19 0)) ∧ Fr (fun a => a = 78) s s1 ∧ ∀ j, j < 19 → gI s1 78 j = gI s 81 (19 * n + j)) (fun i a => a.2 = ((76 : Int), (n : Int), (i : Int)) ∧ Fr (fun a => a = 78) s a.1 ∧ ∀ j, j < i → gI a.1 78 j = gI s 81 (19 * n + j)) 19 FU _ (by unfold FU; omega) ⟨rfl, Fr.refl _ _, fun j hj => by omega⟩ (fun i hi a ha => ?_) (fun a ha rec => ?_)
  · obtain ⟨s4, a2⟩ := a
    obtain ⟨a1, a2, a4⟩ := ha
    simp only at a1
    subst a1
    simp only at a2 a4
    have hS4 : Sh s4 := by rw [a2.sh]; exact hS
    have c80 : gI s4 81 (19 * n + i) = gI s 81 (19 * n + i) := a2.nu (by simp)
    have g1 : ¬ (19 : Int) ≤ (i : Int) := by omega
    have g2 : (i : Int) < 19 := by omega
    have g3 : (0 : Int) ≤ 19 * (n : Int) + (i : Int) := by omega
    have g4 : 19 * (n : Int) + (i : Int) < 57 := by omega
    have i1 : (19 * (n : Int) + (i : Int)).toNat = 19 * n + i := by omega
    have hi6 : i ≤ 6000 := by omega
    refine ⟨(pI s4 78 i (gI s 81 (19 * n + i)), (76 : Int), (n : Int), ((i + 1 : Nat) : Int)), ⟨rfl, a2.trans (Fr_pI (by simp)), fun j hj => ?_⟩, fun rec => ?_⟩
    · show gI (pI s4 78 i _) 78 j = _
      rw [gI_pI]
      by_cases q : j = i
      · rw [if_pos ⟨rfl, q⟩, q]
      · rw [if_neg (fun z => q z.2)]
        exact a4 j (by omega)
    · have w1 : w32 (19 * (n : Int)) = 19 * (n : Int) := w32e (by omega)
      have w2 : w32 (19 * (n : Int) + (i : Int)) = 19 * (n : Int) + (i : Int) := w32e (by clear w1; omega)
      have hw := wk1 hi6
      simp [X13_back_b32_body, tF, isK, shF hS4, c80, g1, g2, g3, g4, i1, w1, w2, hw]
  · obtain ⟨s4, a2⟩ := a
    obtain ⟨a1, a2, a4⟩ := ha
    simp only at a1
    subst a1
    simp only at a2 a4
    have hS4 : Sh s4 := by rw [a2.sh]; exact hS
    have hS5 : Sh (pI s4 76 19 0) := hS4
    exact ⟨s4, by simp [X13_back_b32_body, tF, isK, shF hS4, m_grant hS5], a2, a4⟩
theorem s_back (a : Int) (h : INV s) : STP s (fun s => X11_back s 0 a) (fun s => X13_back s 76 a) := by
  obtain ⟨W, L, I, tr, fl, fp, tp, hO, ht, hC, hM⟩ := h
  obtain ⟨hS, ⟨h0, h2, h3⟩, hW⟩ := hC.1
  have i15 := hC.2.1.2.2.2.2
  have i3 := hO.2.2.1
  by_cases j : 0 ≤ a ∧ a < (I.1 : Int)
  · rcases W with _ | ⟨T, N⟩
    · have := (hO.1 rfl).2
      omega
    · obtain ⟨i, rfl, hi⟩ := nat_of j
      obtain ⟨hT, hN, hLo, hIm⟩ := hO.2.2.2 T N rfl
      have hW0 := hW T N rfl
      have hWA := hW0.tr 2 0
      obtain ⟨r1, r2, r3⟩ := img_r hS (i := i) (by omega)
      have hNi := hIm i hi
      have hA : CI (some (T, N)) L I 0 fl fp tp (pI s 0 2 0) := hC.cread hO.2.2.1 (Fr.refl _ _)
      have hSRi := (hA.2.2.2.2.2.2 T N rfl).2 i hi
      obtain ⟨sB, e1, e2, e3, e4⟩ := settle_e (s := pI s 0 2 0) (y := 64 + 4 * (i : Int)) vc1 hWA.1 hT.1 hNi hWA.2.2.2.1 r3 (by omega) hSRi
      have e2' : Fr (fun a => 32 ≤ a ∧ a ≤ 38) (pI s 0 2 0) sB := e2.mono (fun a ha => by simp at ha; omega)
      have hSB : Sh sB := by rw [e2.sh]; exact hWA.1
      have hWB : WC T (I.2 i) sB := ⟨hSB, hT.1, hNi, hWA.2.2.2.1.sm (e2'.sm (fun a x y z => by omega)), e3, e4⟩
      have hWC : WC T (I.2 i) (pI sB 59 0 0) := hWB.fr (L := fun a => a = 59) (Fr_pI rfl) (fun a x y z => by omega)
      have hL0 : LOK T ((0 : Nat), L.2.1, L.2.2) (I.2 i) := ⟨by show 0 ≤ 16; omega, fun j hj => by have : j < 0 := hj; omega⟩
      refine step_act (s1 := pI sB 59 0 0) (r := 1) (w := 0) (hO.set hNi hL0) ht hM ?_ (((Fr_pI (by decide)).trans (e2'.mono (fun a ha => by omega))).trans (Fr_pI (by decide))) ?_ ?_
      · have n0 : ¬ (i : Int) < 0 := by omega
        have g3 : (i : Int) < 3 := by omega
        simp [X11_back, X11_back_b13, X11_back_b18, tF, isK, shF hS, shF hSB, i15, n0, hi, c_ref hS, g3, r1, r2, e1]
      · refine hA.actW hO.2.2.1 ((e2'.mono (fun a ha => by unfold aC; omega)).trans (Fr_pI (by unfold aC; simp))) (fun k hk => ?_) ?_ ?_ hWC
        · rw [gI_pI, if_neg (by simp)]; exact e2'.nu (by simp)
        · rw [gI_pI, if_neg (by simp)]; exact (e2'.nu (by simp)).trans (by rw [gI_pI]; simp)
        · exact ⟨by rw [gI_pI]; simp, fun j hj => by have : j < 0 := hj; omega⟩
      · intro hM1
        have hM1' := hM1
        obtain ⟨⟨m1, m2, m3⟩, m4, m5, m6⟩ := hM1
        obtain ⟨t, t1, t2, t3⟩ := m3 T N rfl
        have hF := mF t1
        obtain ⟨s1, u1, u2, u3⟩ := back_b32 (s := pI (pI sB 59 0 0) 76 0 0) (n := i) m1 (by clear hF; omega)
        have i20 : gI (pI (pI sB 59 0 0) 76 0 0) 76 20 = (I.1 : Int) := m4.2.2.2.2.2
        have hx4 : RXf (fun j => gI s1 78 j) T (I.2 i) := ((m6 T N rfl).2 i hi).cg hT.1 (fun j hj => u3 j hj)
        have e6 : ∀ k, k ≠ 0 → k ≠ 19 → gI (pI s1 76 19 0) 76 k = gI (pI sB 59 0 0) 76 k := fun k k1 k2 => by
          rw [gI_pI, if_neg (fun z => k2 z.2), u2.nu (by simp), gI_pI, if_neg (fun z => k1 z.2)]
        refine ⟨fiM 0 (pI s1 76 19 0), ?_, ?_, ?_⟩
        · have n0 : ¬ (i : Int) < 0 := by clear hF; omega
          simp [X13_back, X13_back_b24, tF, isK, shF m1, hF.1, n0, i20, hi, u1]
        · exact (((Fr_pI (by decide)).trans (u2.mono (fun a ha => by clear hF; omega))).trans (Fr_pI (by decide))).trans ((Fr_pI (by decide)).trans (Fr_pI (by decide)))
        · refine hM1'.act (s1 := fiM 0 (pI s1 76 19 0)) ?_ ?_ ?_ ?_ ?_ hx4 rfl rfl (by decide) hNi
          · exact (((Fr_pI (by unfold aM; simp)).trans (u2.mono (fun a ha => by unfold aM; clear hF; omega))).trans (Fr_pI (by unfold aM; simp))).trans ((Fr_pI (by unfold aM; simp)).trans (Fr_pI (by unfold aM; simp)))
          · exact e6 6 (by decide) (by decide)
          · exact e6 12 (by decide) (by decide)
          · exact e6 20 (by decide) (by decide)
          · exact ⟨rfl, fun j hj => by have : j < 0 := hj; clear hF; omega⟩
  · have hC1 : CI W L I 1 fl fp tp (pI s 0 2 1) := hC.cread hO.2.2.1 (Fr.refl _ _)
    refine step_act (s1 := pI s 0 2 1) (r := 0) (w := 1) hO ht hM ?_ (Fr_pI (by decide)) hC1 ?_
    · by_cases n0 : a < 0
      · simp [X11_back, X11_back_b13, X11_back_b18, tF, isK, shF hS, i15, n0, c_ref hS]
      · have n1 : ¬ a < (I.1 : Int) := by omega
        simp [X11_back, X11_back_b13, X11_back_b18, tF, isK, shF hS, i15, n0, n1, c_ref hS]
    · intro hM1
      have hM1' := hM1
      obtain ⟨⟨m1, m2, m3⟩, m4, m5, m6⟩ := hM1
      have hS2 : Sh (pI (pI s 0 2 1) 76 0 0) := m1
      have i20 : gI (pI (pI s 0 2 1) 76 0 0) 76 20 = (I.1 : Int) := m4.2.2.2.2.2
      have hv : Mv (pI s 0 2 1) (fiM 1 (pI (pI s 0 2 1) 76 0 0)) := Mv_fiM (Mv_pI (by decide))
      refine ⟨fiM 1 (pI (pI s 0 2 1) 76 0 0), ?_, hv.1.mono (fun a ha => by unfold mS at ha; omega), hM1'.mread hv rfl rfl (by decide)⟩
      rcases W with _ | ⟨T, N⟩
      · have hno := m2 rfl
        have hno' : gR s 76 3 < 0 := hno
        simp [X13_back, X13_back_b24, tF, isK, shF m1, hno', m_deny hS2]
      · obtain ⟨t, t1, t2, t3⟩ := m3 T N rfl
        have hF := mF t1
        have hr : gR s 76 3 = t := hF.1.1
        have ht0 : ¬ t < 0 := hF.1.2.2.2.2
        clear hF
        by_cases n0 : a < 0
        · simp [X13_back, X13_back_b24, tF, isK, shF m1, hr, ht0, n0, m_deny hS2]
        · have n1 : ¬ a < (I.1 : Int) := by omega
          simp [X13_back, X13_back_b24, tF, isK, shF m1, hr, ht0, n0, i20, n1, m_deny hS2]
end IMAGES
