/-! acts: what they keep -/
section ACT
variable {W W2 : Wd} {T : Tw} {N N2 : Nw} {L L2 : Lg} {I I2 : Im} {tr fl fp w : Int} {tp : Nat × (Nat → Int)} {s s1 s2 : St}
def aC (a : Nat) : Prop := a = 0 ∨ (32 ≤ a ∧ a ≤ 38) ∨ (59 ≤ a ∧ a ≤ 62)
theorem CI.act (h : CI (some (T, N)) L I tr fl fp tp s) (hI : I.1 ≤ 3) (hf : Fr aC s s1) (h0 : ∀ k, k ≠ 2 → gI s1 0 k = gI s 0 k) (hw : gI s1 0 2 = w) (hL : LGc s1 L2) (hV : CV s1 T N2 33 34 35 36 37 38) (hn : gI s1 32 0 = nN N2) (hN : NOK T N2) : CI (some (T, N2)) L2 I w fl fp tp s1 := by
  obtain ⟨⟨a1, a2, a3⟩, h4, h5, h6, h7, h8, h9⟩ := h
  have hW := a3 T N rfl
  have c : ∀ a : Nat, a = 1 ∨ (19 ≤ a ∧ a ≤ 31) ∨ a = 51 ∨ a = 55 ∨ a = 56 ∨ (63 ≤ a ∧ a ≤ 75) → ¬ aC a := fun a ha => by unfold aC; omega
  have e : ∀ (a : Int) (k : Nat), ¬ aC a.toNat → gI s1 a k = gI s a k := fun a k ha => hf.nu ha
  have e1 : ∀ k, gI s1 1 k = gI s 1 k := fun k => e 1 k (c 1 (by omega))
  have e19 : ∀ k, gI s1 19 k = gI s 19 k := fun k => e 19 k (c 19 (by omega))
  have e51 : ∀ k, gI s1 51 k = gI s 51 k := fun k => e 51 k (c 51 (by omega))
  have e4 : gI s1 4 0 = gI s 4 0 := e 4 0 (by show ¬ aC 4; unfold aC; omega)
  have e55 : ∀ k, gI s1 55 k = gI s 55 k := fun k => e 55 k (c 55 (by omega))
  have e56 : ∀ k, gI s1 56 k = gI s 56 k := fun k => e 56 k (c 56 (by omega))
  have hS1 : Sh s1 := by rw [hf.sh]; exact a1
  refine ⟨⟨hS1, ?_, fun T' N' q => ?_⟩, ⟨(h0 1 (by decide)).trans h4.1, hw, (h0 3 (by decide)).trans h4.2.2.1, (h0 4 (by decide)).trans h4.2.2.2.1, (h0 15 (by decide)).trans h4.2.2.2.2⟩, ?_, ?_, hL, (fun q => by cases q), fun T' N' q => ?_⟩
  · simp only [e19]; exact a2
  · cases q
    exact ⟨hS1, hW.2.1, hN, hW.2.2.2.1.sm (hf.sm fun a x y => c a (by omega)), hV, hn⟩
  · simp only [e1]; exact h5
  · simp only [e51, e4]; exact h6
  · cases q
    obtain ⟨b1, b2⟩ := h9 T N rfl
    refine ⟨?_, fun i hi => (b2 i hi).eq (fun j j1 j2 k => e _ k (c _ (by omega)))⟩
    unfold FTc at b1 ⊢
    simp only [e55, e56]
    exact b1
def aM (a : Nat) : Prop := a = 76 ∨ a = 78 ∨ a = 79 ∨ a = 80
theorem MI_.act (h : MI_ (some (T, N)) L I tr fl fp tp s) (hf : Fr aM s s1) (h6 : gI s1 76 6 = gI s 76 6) (h12 : gI s1 76 12 = gI s 76 12) (h20 : gI s1 76 20 = gI s 76 20) (hL : LGm s1 T L2) (hx : RXf (fun j => gI s1 78 j) T N2) (hw : gI s1 76 1 = w) (hw2 : gI s1 76 2 = -1) (hw4 : w ≠ 4) (hN : NOK T N2) : MI_ (some (T, N2)) L2 I w fl fp tp s1 := by
  obtain ⟨⟨m1, m2, m3⟩, m4, m5, m6⟩ := h
  have c : ∀ a : Nat, a = 77 ∨ a = 81 ∨ 89 ≤ a → ¬ aM a := fun a ha => by unfold aM; omega
  have e77 : ∀ k, gI s1 77 k = gI s 77 k := fun k => hf.nu (c 77 (by omega))
  have e81 : ∀ k, gI s1 81 k = gI s 81 k := fun k => hf.nu (c 81 (by omega))
  obtain ⟨t, t1, t2, t3⟩ := m3 T N rfl
  refine ⟨⟨by rw [hf.sh]; exact m1, (fun q => by cases q), fun T' N' q => ?_⟩, ⟨hw, by rw [hw2, if_neg hw4], h6.trans m4.2.2.1, h12.trans m4.2.2.2.1, hL.1, h20.trans m4.2.2.2.2.2⟩, ?_, fun T' N' q => ?_⟩
  · cases q
    exact ⟨t, t1.fr hf (fun a ha => c a (by omega)), hN, hx⟩
  · simp only [e77]; exact m5
  · cases q
    refine ⟨hL, ?_⟩
    simp only [e81]
    exact (m6 T N rfl).2
theorem step_act {F G : St → Rs} {r : Int} (hO : OKS W2 L2 I2) (ht : tp.1 ≤ 800 ∧ ∀ j, ok8 (tp.2 j)) (hM : MI_ W L I tr fl fp tp s) (hF : F s = some (r, s1)) (hf : Fr (fun a => a < 76) s s1) (hC : CI W2 L2 I2 w fl fp tp s1) (hG : MI_ W L I tr fl fp tp s1 → ∃ s2, G s1 = some (r, s2) ∧ Fr (fun a => 76 ≤ a) s1 s2 ∧ MI_ W2 L2 I2 w fl fp tp s2) : STP s F G := by
  obtain ⟨s2, g1, g2, g3⟩ := hG (hM.cfr hf)
  have e : s2.1 = s.1 := g2.1.trans hf.1
  refine ⟨r, s1, s2, hF, g1, hC.1.1, ⟨W2, L2, I2, w, fl, fp, tp, hO, ht, hC.mfr hO.2.2.1 g2, g3⟩, ?_, ?_, ?_⟩ <;> rw [e] <;> omega
theorem OKS.set (h : OKS (some (T, N)) L I) (hN : NOK T N2) (hL : LOK T L2 N2) : OKS (some (T, N2)) L2 I := by
  obtain ⟨h1, h2, h3, h4⟩ := h
  obtain ⟨b1, b2, b3, b4⟩ := h4 T N rfl
  exact ⟨(fun q => by cases q), hL.1, h3, fun T' N' q => by cases q; exact ⟨b1, hN, hL, b4⟩⟩
theorem m_grant (hS : Sh s) : X13_granted s 76 = some (1, fiM 0 s) := by
  unfold X13_granted
  simp [tF, isK, shF hS, m_good hS]
theorem m_deny (hS : Sh s) (x : Int) : X13_denied s 76 x = some (0, fiM x s) := by
  unfold X13_denied
  simp [tF, isK, shF hS, m_refd hS]
theorem RXf.nig {f : Nat → Int} {x : Int} (hx : RXf f T N) (hT : TOK T) : RXf (fun j => if j = 18 then x else f j) T (nigN N x) := by
  have t5 := hT.1.2.2.2.2.1
  have t6 := hT.1.2.2.2.2.2.1
  refine ⟨fun p hp => ?_, fun e he => ⟨?_, ?_⟩, ?_⟩
  · show (if p = 18 then x else f p) = _
    rw [if_neg (by omega)]; exact hx.1 p hp
  · show (if 6 + e = 18 then x else f (6 + e)) = _
    rw [if_neg (by omega)]; exact (hx.2.1 e he).1
  · show (if 12 + e = 18 then x else f (12 + e)) = _
    rw [if_neg (by omega)]; exact (hx.2.1 e he).2
  · rfl
theorem NOK.nig {x : Int} (hN : NOK T N) (hx : 0 ≤ x ∧ x ≤ 99) : NOK T (nigN N x) := ⟨hx, hN.2.1, hN.2.2.1, hN.2.2.2⟩
theorem nigN_self (N : Nw) (x : Int) : nigN (nigN N x) (nN N) = N := rfl
theorem mirN_mirN (N : Nw) (d : Nat) (x : Int) : mirN (mirN N d x) d (nMi N d) = N := by
  have : mirN (mirN N d x) d (nMi N d) = mirN N d (nMi N d) := by
    unfold mirN
    congr 3
    funext j
    by_cases h : j = d <;> simp [h]
  rw [this, mirN_self]
theorem sliN_sliN (N : Nw) (d : Nat) (x : Int) : sliN (sliN N d x) d (nSl N d) = N := by
  have : sliN (sliN N d x) d (nSl N d) = sliN N d (nSl N d) := by
    unfold sliN
    congr 3
    funext j
    by_cases h : j = d <;> simp [h]
  rw [this, sliN_self]
end ACT
section ACTS
variable {s : St}
theorem s_night (h : INV s) : STP s (fun s => X11_night s 0) (fun s => X13_night s 76) := by
  obtain ⟨W, L, I, tr, fl, fp, tp, hO, ht, hC, hM⟩ := h
  obtain ⟨hS, ⟨h0, h2, h3⟩, hW⟩ := hC.1
  have eT := c_town hS h0
  rcases W with _ | ⟨T, N⟩
  · refine step_read hO ht hC hM (1, -1) (by decide) (CR_eq ?_) (fun s1 h1 => MR_no ?_)
    · simp [X11_night, tF, isK, shF hS, eT, c_ref hS, nH]
    · obtain ⟨hS1, hno, -⟩ := h1
      have hS2 : Sh (pI s1 76 0 0) := hS1
      simp [X13_night, tF, isK, shF hS1, hno rfl, m_refd hS2]
  · obtain ⟨hT, hN, hLo, hIm⟩ := hO.2.2.2 T N rfl
    have hW0 := hW T N rfl
    have hH0 : ¬ tH T = 0 := by have := hW0.2.1.1.1; omega
    have n32 := hW0.2.2.2.2.2
    have nb := hN.1
    by_cases c : nN N < 99
    · have hNn : NOK T (nigN N (nN N + 1)) := hN.nig (by omega)
      have hA : CI (some (T, N)) L I 0 fl fp tp (pI s 0 2 0) := hC.cread hO.2.2.1 (Fr.refl _ _)
      have hWA := hW0.tr 2 0
      have hSA := hWA.1
      obtain ⟨sB, k1, k2, k3⟩ := keep_e hSA hA.2.2.2.2.1 hO.2.1 ((0 : Int), 0, nN N) N
      have hSB : Sh sB := by rw [k2.sh]; exact hSA
      have hWB : WC T N sB := hWA.fr k2 (fun a a1 a2 z => by simp [fL] at z; omega)
      have hWC : WC T (nigN N (nN N + 1)) (pI sB 32 0 (nN N + 1)) := by
        obtain ⟨b1, b2, b3, b4, b5, b6⟩ := hWB
        refine ⟨b1, b2, hNn, b4.sm (fun a a1 a2 => ?_), ?_, by rw [gI_pI]; simp; rfl⟩
        · exact (Fr_pI (L := fun a => a = 32) rfl).2.2.2 a (by omega)
        · have hx : Sm sB (pI sB 32 0 (nN N + 1)) 33 38 := fun a a1 a2 => (Fr_pI (L := fun a => a = 32) rfl).2.2.2 a (by omega)
          obtain ⟨v1, v2, v3⟩ := b5
          refine ⟨fun p hp => (hx.nu p (by decide) (by decide)).trans (v1 p hp), fun d hd => ⟨(hx.nu d (by decide) (by decide)).trans (v2 d hd).1, (hx.nu d (by decide) (by decide)).trans (v2 d hd).2⟩, ?_, fun j hj => (hx.nu j (by decide) (by decide)).trans (v3.2.1 j hj), fun j hj => (hx.nu j (by decide) (by decide)).trans (v3.2.2 j hj)⟩
          exact (hx.nu 2 (by decide) (by decide)).trans v3.1
      have er := rightBits_e (night := nN N + 1) vc1 hWC.1 hWC.2.1 hWC.2.2.1 hWC.2.2.2.1 hWC.2.2.2.2.1 (by omega)
      have hLo2 : LOK T (psh L ((0 : Int), 0, nN N) N) (nigN N (nN N + 1)) := hLo.push ⟨Or.inl rfl, (fun q => by cases q), (fun q => by rcases q with q | q <;> cases q)⟩ hN rfl
      have hfr : Fr (fun a => a < 76) s (pI sB 32 0 (nN N + 1)) := ((Fr_pI (by decide)).trans (k2.mono (fun a ha => by simp [fL] at ha; omega))).trans (Fr_pI (by decide))
      have w1 : w32 (nN N + 1) = nN N + 1 := w32e (by omega)
      refine step_act (s1 := pI sB 32 0 (nN N + 1)) (r := ((bst (fun d => rigT T N d (nN N + 1)) (tD T) : Nat) : Int)) (w := 0) (hO.set hNn hLo2) ht hM ?_ hfr ?_ ?_
      · have c' : nN N < 99 := c
        have k1' : X3_keep (pI s 0 2 0) 59 0 0 (nN N) = some (0, sB) := k1
        simp [X11_night, tF, isK, shF hS, shF hSB, eT, c_ref hS, nH, hH0, gI_pI, n32, c', k1', w1]
        rw [er]
        rfl
      · refine hA.act hO.2.2.1 ((k2.mono (fun a ha => by simp [fL] at ha; unfold aC; omega)).trans (Fr_pI (by unfold aC; simp))) (fun k hk => ?_) ?_ ?_ hWC.2.2.2.2.1 (by rw [gI_pI]; simp; rfl) hNn
        · rw [gI_pI, if_neg (by simp)]
          exact k2.nu (by simp [fL])
        · rw [gI_pI, if_neg (by simp)]
          exact (k2.nu (by simp [fL])).trans (by rw [gI_pI]; simp)
        · unfold LGc at k3 ⊢
          have z : ∀ (a : Int) (k : Nat), a.toNat ≠ 32 → gI (pI sB 32 0 (nN N + 1)) a k = gI sB a k := fun a k ha => by rw [gI_pI, if_neg (fun q => ha q.1)]
          simp only [z 59 _ (by decide), z 60 _ (by decide), z 61 _ (by decide), z 62 _ (by decide)]
          exact k3
      · intro hM1
        have hM1' := hM1
        obtain ⟨⟨m1, m2, m3⟩, m4, m5, m6⟩ := hM1
        obtain ⟨t, t1, t2, t3⟩ := m3 T N rfl
        have hF := mF t1
        have tA := t1.tr 0 0
        have x18 : gI (pI (pI sB 32 0 (nN N + 1)) 76 0 0) 78 18 = nN N := t3.2.2
        obtain ⟨s3, q1, q2, q3, q4⟩ := rem_e (s := pI (pI sB 32 0 (nN N + 1)) 76 0 0) tA.1 hT.1 (m6 T N rfl).1 hO.2.1 t3 ((0 : Int), 0, nN N)
        have hS3 : Sh s3 := by rw [q2.sh]; exact tA.1
        have t3M : MW T t s3 := tA.fr q2 (fun a ha z => by simp [fP] at z; omega)
        have e78 : ∀ k, gI s3 78 k = gI (pI (pI sB 32 0 (nN N + 1)) 76 0 0) 78 k := fun k => q2.nu (by simp [fP])
        have x18' : gI s3 78 18 = nN N := (e78 18).trans x18
        have hx4 : RXf (fun j => gI (pI s3 78 18 (nN N + 1)) 78 j) T (nigN N (nN N + 1)) := by
          rw [gI_pI_fun]
          have : RXf (fun j => gI s3 78 j) T N := by simp only [e78]; exact t3
          exact this.nig hT.1
        have t4M : MW T t (pI s3 78 18 (nN N + 1)) := t3M.fr (L := fun a => a = 78) (Fr_pI rfl) (fun a ha z => by omega)
        have hX : WM T (nigN N (nN N + 1)) t (wk (pI s3 78 18 (nN N + 1))) := by
          have := wk_world t4M hNn hx4 0 (gI (pI s3 78 18 (nN N + 1)) 76 0)
          rw [pI_self] at this
          exact this
        have er2 := m_rightOn (night := nN N + 1) hX (by clear hF; omega)
        have hS4 : Sh (pI s3 78 18 (nN N + 1)) := hS3
        have hSx := hX.1.1
        have g18 : gI (pI s3 78 18 (nN N + 1)) 78 18 = nN N + 1 := by rw [gI_pI]; simp
        have g18x : gI (wk (pI s3 78 18 (nN N + 1))) 78 18 = nN N + 1 := g18
        refine ⟨fiM 0 (wk (pI s3 78 18 (nN N + 1))), ?_, ?_, ?_⟩
        · have c' : ¬ nN N = 99 := by clear hF; omega
          simp [X13_night, tF, wkF, isK, shF m1, shF hS3, hF.1, x18, c', q1, x18', w1, m_works hS4, g18x, er2, m_good hSx]
          rfl
        · exact ((((Fr_pI (by decide)).trans (q2.mono (fun a ha => by simp [fP] at ha; omega))).trans (Fr_pI (by decide))).trans (Fr_sR (by decide))).trans ((Fr_pI (by decide)).trans (Fr_pI (by decide)))
        · refine hM1'.act (s1 := fiM 0 (wk (pI s3 78 18 (nN N + 1)))) ?_ ?_ ?_ ?_ ?_ ?_ rfl rfl (by decide) hNn
          · exact ((((Fr_pI (by unfold aM; simp)).trans (q2.mono (fun a ha => by simp [fP] at ha; unfold aM; omega))).trans (Fr_pI (by unfold aM; simp))).trans (Fr_sR (by unfold aM; simp))).trans ((Fr_pI (by unfold aM; simp)).trans (Fr_pI (by unfold aM; simp)))
          · exact (q3 6 (by decide))
          · exact (q3 12 (by decide))
          · exact (q3 20 (by decide))
          · exact q4
          · exact hx4
    · refine step_read hO ht hC hM (3, -1) (by decide) (CR_eq ?_) (fun s1 h1 => MR_no ?_)
      · simp [X11_night, tF, isK, shF hS, eT, c_ref hS, nH, hH0, gI_pI, n32, c, X11_refuse, pI_pI]
      · obtain ⟨m1, m2, m3⟩ := h1
        obtain ⟨t, t1, t2, t3⟩ := m3 T N rfl
        have hF := mF t1
        have x18 : gI (pI s1 76 0 0) 78 18 = nN N := t3.2.2
        have c' : nN N = 99 := by clear hF; omega
        have hS2 : Sh (pI s1 76 0 0) := m1
        simp [X13_night, tF, isK, shF m1, hF.1, x18, c', m_refd hS2]
end ACTS
