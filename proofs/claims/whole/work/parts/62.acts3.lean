/-! acts: undo, image, back -/
section ACTS5
variable {s : St}
theorem RXf.cg {f g : Nat → Int} {T : Tw} {N : Nw} (hT : TOK T) (h : RXf f T N) (hg : ∀ i, i < 19 → g i = f i) : RXf g T N := by
  have t5 := hT.1.2.2.2.2.1
  have t6 := hT.1.2.2.2.2.2.1
  exact ⟨fun p hp => (hg p (by omega)).trans (h.1 p hp), fun d hd => ⟨(hg _ (by omega)).trans (h.2.1 d hd).1, (hg _ (by omega)).trans (h.2.1 d hd).2⟩, (hg 18 (by omega)).trans h.2.2⟩
/-- a row copied into v -/
theorem undo_b38 {n : Nat} (hS : Sh s) (hn : n < 16) (hc : gI s 76 19 = (n : Int)) : ∃ s1, X13_undo_b38 FU s 76 0 = some (1, fiM 0 s1) ∧ Fr (fun a => a = 78) s s1 ∧ ∀ j, j < 19 → gI s1 78 j = gI s 80 (19 * n + j) := by
  unfold X13_undo_b38
  refine iter_inv (Q := fun F => ∃ s1, F = some (1, fiM 0 s1) ∧ Fr (fun a => a = 78) s s1 ∧ ∀ j, j < 19 → gI s1 78 j = gI s 80 (19 * n + j)) (fun i a => a.2 = ((76 : Int), (i : Int)) ∧ Fr (fun a => a = 78) s a.1 ∧ ∀ j, j < i → gI a.1 78 j = gI s 80 (19 * n + j)) 19 FU _ (by unfold FU; omega) ⟨rfl, Fr.refl _ _, fun j hj => by omega⟩ (fun i hi a ha => ?_) (fun a ha rec => ?_)
  · obtain ⟨s4, a2⟩ := a
    obtain ⟨a1, a2, a4⟩ := ha
    simp only at a1
    subst a1
    simp only at a2 a4
    have hS4 : Sh s4 := by rw [a2.sh]; exact hS
    have c19 : gI s4 76 19 = (n : Int) := (a2.nu (by simp)).trans hc
    have c80 : gI s4 80 (19 * n + i) = gI s 80 (19 * n + i) := a2.nu (by simp)
    have g1 : ¬ (19 : Int) ≤ (i : Int) := by omega
    have g2 : (i : Int) < 19 := by omega
    have g3 : (0 : Int) ≤ 19 * (n : Int) + (i : Int) := by omega
    have g4 : 19 * (n : Int) + (i : Int) < 304 := by omega
    have i1 : (19 * (n : Int) + (i : Int)).toNat = 19 * n + i := by omega
    have hi6 : i ≤ 6000 := by omega
    refine ⟨(pI s4 78 i (gI s 80 (19 * n + i)), (76 : Int), ((i + 1 : Nat) : Int)), ⟨rfl, a2.trans (Fr_pI (by simp)), fun j hj => ?_⟩, fun rec => ?_⟩
    · show gI (pI s4 78 i _) 78 j = _
      rw [gI_pI]
      by_cases q : j = i
      · rw [if_pos ⟨rfl, q⟩, q]
      · rw [if_neg (fun z => q z.2)]
        exact a4 j (by omega)
    · have w1 : w32 (19 * (n : Int)) = 19 * (n : Int) := w32e (by omega)
      have w2 : w32 (19 * (n : Int) + (i : Int)) = 19 * (n : Int) + (i : Int) := w32e (by clear w1; omega)
      have hw := wk1 hi6
      simp [X13_undo_b38_body, tF, isK, shF hS4, c19, c80, g1, g2, g3, g4, i1, w1, w2, hw]
  · obtain ⟨s4, a2⟩ := a
    obtain ⟨a1, a2, a4⟩ := ha
    simp only at a1
    subst a1
    simp only at a2 a4
    have hS4 : Sh s4 := by rw [a2.sh]; exact hS
    exact ⟨s4, by simp [X13_undo_b38_body, tF, isK, shF hS4, m_grant hS4], a2, a4⟩
theorem s_undo (h : INV s) : STP s (fun s => X11_undo s 0) (fun s => X13_undo s 76) := by
  obtain ⟨W, L, I, tr, fl, fp, tp, hO, ht, hC, hM⟩ := h
  obtain ⟨hS, ⟨h0, h2, h3⟩, hW⟩ := hC.1
  have l1 := hC.2.2.2.2.1.1
  rcases W with _ | ⟨T, N⟩
  · have z0 := (hO.1 rfl).1
    refine step_read hO ht hC hM (6, 0) (by decide) (CR_eq ?_) (fun s1 h1 => MR_no ?_)
    · simp [X11_undo, X11_undo_b17, tF, isK, shF hS, l1, z0, gI_pI]
    · obtain ⟨hS1, hno, -⟩ := h1
      have hS2 : Sh (pI s1 76 0 0) := hS1
      simp [X13_undo, X13_undo_b19, tF, isK, shF hS1, hno rfl, m_deny hS2]
  · obtain ⟨hT, hN, hLo, hIm⟩ := hO.2.2.2 T N rfl
    have hW0 := hW T N rfl
    have hWA := hW0.tr 2 0
    have hSA := hWA.1
    by_cases c : L.1 = 0
    · have hfr : Fr (fun a => a < 76) s (pI s 0 2 6) := Fr_pI (by decide)
      have hC1 : CI (some (T, N)) L I 6 fl fp tp (pI s 0 2 6) := hC.cread hO.2.2.1 (Fr.refl _ _)
      refine step_act (s1 := pI s 0 2 6) (r := 0) (w := 6) hO ht hM ?_ hfr hC1 ?_
      · simp [X11_undo, X11_undo_b17, tF, isK, shF hS, l1, c, gI_pI]
      · intro hM1
        have hM1' := hM1
        obtain ⟨⟨m1, m2, m3⟩, m4, m5, m6⟩ := hM1
        obtain ⟨t, t1, t2, t3⟩ := m3 T N rfl
        have hF := mF t1
        have tA := t1.tr 0 0
        have a19 : gI (pI (pI s 0 2 6) 76 0 0) 76 19 = 0 := by
          have : gI (pI (pI s 0 2 6) 76 0 0) 76 19 = (L.1 : Int) := m4.2.2.2.2.1
          rw [this, c]; rfl
        have hv : Mv (pI s 0 2 6) (fiM 6 (pI (pI s 0 2 6) 76 0 0)) := Mv_fiM (Mv_pI (by decide))
        refine ⟨fiM 6 (pI (pI s 0 2 6) 76 0 0), ?_, hv.1.mono (fun a ha => by unfold mS at ha; omega), hM1'.mread hv rfl rfl (by decide)⟩
        simp [X13_undo, X13_undo_b19, tF, isK, shF m1, hF.1, a19, m_deny tA.1]
    · have hLA : LGc (pI s 0 2 0) L := (hC.cread hO.2.2.1 (Fr.refl cS (pI s 0 2 0))).2.2.2.2.1
      obtain ⟨sC, r1, r2, r3, r4⟩ := revert_e hWA hT hLo hLA (by omega)
      obtain ⟨o1, o2, o3⟩ := hLo.top (by omega)
      have hA : CI (some (T, N)) L I 0 fl fp tp (pI s 0 2 0) := hC.cread hO.2.2.1 (Fr.refl _ _)
      have hfr : Fr (fun a => a < 76) s sC := (Fr_pI (by decide)).trans (r2.mono (fun a ha => by omega))
      refine step_act (s1 := sC) (r := 1) (w := 0) (hO.set o2 (hLo.popd (by omega))) ht hM ?_ hfr ?_ ?_
      · simp [X11_undo, X11_undo_b17, tF, isK, shF hS, l1, c, gI_pI, r1]
      · exact hA.actW hO.2.2.1 (r2.mono (fun a ha => by unfold aC; omega)) (fun k hk => r2.nu (by simp)) ((r2.nu (by simp)).trans (by rw [gI_pI]; simp)) r4 r3
      · intro hM1
        have hM1' := hM1
        obtain ⟨⟨m1, m2, m3⟩, m4, m5, m6⟩ := hM1
        obtain ⟨t, t1, t2, t3⟩ := m3 T N rfl
        have hF := mF t1
        have h16 := hLo.1
        obtain ⟨n, hn⟩ : ∃ n, L.1 = n + 1 := ⟨L.1 - 1, by clear hF; omega⟩
        have a19 : gI (pI sC 76 0 0) 76 19 = (n : Int) + 1 := by
          have : gI (pI sC 76 0 0) 76 19 = (L.1 : Int) := m4.2.2.2.2.1
          rw [this, hn]; simp
        obtain ⟨s1, u1, u2, u3⟩ := undo_b38 (s := pI (pI sC 76 0 0) 76 19 (n : Int)) (n := n) m1 (by clear hF; omega) (by rw [gI_pI]; simp)
        have hx4 : RXf (fun j => gI s1 78 j) T (L.2.2 (L.1 - 1)) := by
          have := (m6 T N rfl).1.2 (L.1 - 1) (by clear hF; omega)
          rw [show L.1 - 1 = n by clear hF; omega] at this ⊢
          exact this.cg hT.1 (fun i hi => u3 i hi)
        have eA : ∀ (a : Int) (k : Nat), a.toNat ≠ 78 → a.toNat ≠ 76 → gI (fiM 0 s1) a k = gI sC a k := fun a k h78 h76 => by
          unfold fiM
          rw [gI_pI, if_neg (fun z => h76 z.1), gI_pI, if_neg (fun z => h76 z.1), u2.nu h78, gI_pI, if_neg (fun z => h76 z.1), gI_pI, if_neg (fun z => h76 z.1)]
        have e6 : ∀ k, k ≠ 0 → k ≠ 19 → gI s1 76 k = gI sC 76 k := fun k k1 k2 => by
          rw [u2.nu (by simp), gI_pI, if_neg (fun z => k2 z.2), gI_pI, if_neg (fun z => k1 z.2)]
        have n1 : w32 ((n : Int) + 1 - 1) = (n : Int) := by rw [w32e (by clear hF; omega)]; clear hF; omega
        have n1' : w32 (n : Int) = (n : Int) := wk0 (by clear hF n1; omega)
        have c' : ¬ (n : Int) + 1 = 0 := by clear hF n1 n1'; omega
        refine ⟨fiM 0 s1, ?_, ?_, ?_⟩
        · simp [X13_undo, X13_undo_b19, tF, isK, shF m1, hF.1, a19, c', n1', u1]
        · exact (((Fr_pI (by decide)).trans (Fr_pI (by decide))).trans (u2.mono (fun a ha => by clear hF n1 n1'; omega))).trans ((Fr_pI (by decide)).trans (Fr_pI (by decide)))
        · refine hM1'.act (s1 := fiM 0 s1) ?_ ?_ ?_ ?_ ?_ hx4 rfl rfl (by decide) o2
          · exact (((Fr_pI (by unfold aM; simp)).trans (Fr_pI (by unfold aM; simp))).trans (u2.mono (fun a ha => by unfold aM; clear hF n1 n1'; omega))).trans ((Fr_pI (by unfold aM; simp)).trans (Fr_pI (by unfold aM; simp)))
          · exact e6 6 (by decide) (by decide)
          · exact e6 12 (by decide) (by decide)
          · exact e6 20 (by decide) (by decide)
          · refine ⟨?_, fun j hj => ?_⟩
            · show gI s1 76 19 = ((L.1 - 1 : Nat) : Int)
              rw [u2.nu (by simp), gI_pI, show L.1 - 1 = n by clear hF n1 n1'; omega]; simp
            · have hj' : j < L.1 - 1 := hj
              have e80 : ∀ k, gI (fiM 0 s1) 80 k = gI sC 80 k := fun k => eA 80 k (by decide) (by decide)
              simp only [e80]
              exact (m6 T N rfl).1.2 j (by clear hF n1 n1'; omega)
end ACTS5
