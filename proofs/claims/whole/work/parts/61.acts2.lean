/-! acts: move, undo -/
section ACTS4
variable {s : St}
theorem houN_back (N : Nw) (p : Nat) (x : Int) : houN (houN N p x) p (nHo N p) = N := by rw [houN_houN, houN_self]
/-- what the class's acts leave, from the pieces -/
theorem CI.actW {T : Tw} {N N2 : Nw} {L L2 : Lg} {I : Im} {tr fl fp w : Int} {tp : Nat × (Nat → Int)} {s s1 : St} (h : CI (some (T, N)) L I tr fl fp tp s) (hI : I.1 ≤ 3) (hf : Fr aC s s1) (h0 : ∀ k, k ≠ 2 → gI s1 0 k = gI s 0 k) (hw : gI s1 0 2 = w) (hL : LGc s1 L2) (hW : WC T N2 s1) : CI (some (T, N2)) L2 I w fl fp tp s1 :=
  h.act hI hf h0 hw hL hW.2.2.2.2.1 hW.2.2.2.2.2 hW.2.2.1
theorem s_move (a b : Int) (h : INV s) : STP s (fun s => X11_move s 0 a b) (fun s => X13_move s 76 a b) := by
  obtain ⟨W, L, I, tr, fl, fp, tp, hO, ht, hC, hM⟩ := h
  obtain ⟨hS, ⟨h0, h2, h3⟩, hW⟩ := hC.1
  have eP := c_pers hS h2
  have eH := c_hous hS h0
  rcases W with _ | ⟨T, N⟩
  · refine step_read hO ht hC hM (1, -1) (by decide) (CR_eq ?_) (fun s1 h1 => MR_no ?_)
    · have a0 : ¬ (0 ≤ a ∧ a < 0) := by omega
      simp [X11_move, X11_move_b17, X11_move_b22, tF, isK, shF hS, eP, c_ref hS, nP, a0]
    · obtain ⟨hS1, hno, -⟩ := h1
      have hS2 : Sh (pI s1 76 0 0) := hS1
      have hn1 : gR (pI s1 76 0 0) 76 3 < 0 := hno rfl
      simp [X13_move, X13_move_b21, tF, isK, shF hS1, n_pers hS2 hn1, m_refd hS2]
  · by_cases j0 : 0 ≤ a ∧ a < tP T
    · by_cases j1 : 0 ≤ b ∧ b < tH T
      · obtain ⟨p, rfl, hp⟩ := nat_of j0
        obtain ⟨hT, hN, hLo, hIm⟩ := hO.2.2.2 T N rfl
        have hW0 := hW T N rfl
        have t5 := hT.1.1.2.2.2.2.1
        have hWA := hW0.tr 2 0
        have hSA := hWA.1
        have vm := hWA.2.2.2.2.1.1 p hp
        have g6 : (p : Int) < 6 := by omega
        have g19 : (p : Int) < 19 := by omega
        have eo := occupantOf_e (h := b) vc1.st hSA hWA.2.2.2.2.1.2.2 hT.1.1.2.1 j1
        by_cases c : whoF (tP T) (nHo N) b = -2
        · have hNn : NOK T (houN N p b) := hN.hou j1 c
          obtain ⟨sB, k1, k2, k3⟩ := keep_e hSA (hC.cread hO.2.2.1 (Fr.refl cS (pI s 0 2 0))).2.2.2.2.1 hO.2.1 ((1 : Int), p, nHo N p) N
          have k1' : X3_keep (pI s 0 2 0) 59 1 p (nHo N p) = some (0, sB) := k1
          have hSB : Sh sB := by rw [k2.sh]; exact hSA
          have hWB : WC T N sB := hWA.fr k2 (fun a a1 a2 z => by simp [fL] at z; omega)
          obtain ⟨sC, p1, p2, p3⟩ := putPerson_e (h := b) (p := p) vc1 hSB hT.1 hNn hWB.2.2.2.1 hWB.2.2.2.2.1 hp
          have p2' : Fr (fun a => 33 ≤ a ∧ a ≤ 38) sB sC := p2.mono (fun a ha => by simp at ha; omega)
          have hSC : Sh sC := by rw [p2.sh]; exact hSB
          have hWC : WC T (houN N p b) sC := ⟨hSC, hT.1, hNn, hWB.2.2.2.1.sm (p2'.sm (fun a a1 a2 z => by omega)), p3, (p2'.nu (by simp)).trans hWB.2.2.2.2.2⟩
          have hLo2 : LOK T (psh L ((1 : Int), p, nHo N p) N) (houN N p b) := hLo.push ⟨Or.inr (Or.inl rfl), fun _ => hp, (fun q => by rcases q with q | q <;> cases q)⟩ hN (houN_back N p b)
          have hfr : Fr (fun a => a < 76) s sC := ((Fr_pI (by decide)).trans (k2.mono (fun a ha => by simp [fL] at ha; omega))).trans (p2'.mono (fun a ha => by omega))
          have hA : CI (some (T, N)) L I 0 fl fp tp (pI s 0 2 0) := hC.cread hO.2.2.1 (Fr.refl _ _)
          refine step_act (s1 := sC) (r := nHo N p) (w := 0) (hO.set hNn hLo2) ht hM ?_ hfr ?_ ?_
          · simp [X11_move, X11_move_b17, X11_move_b22, tF, isK, shF hS, shF hSB, eP, eH, c_ref hS, nP, nH, hp, j1, eo, c, vm, g6, k1', p1]
          · refine hA.actW hO.2.2.1 ((k2.mono (fun a ha => by simp [fL] at ha; unfold aC; omega)).trans (p2'.mono (fun a ha => by unfold aC; omega))) (fun k hk => ?_) ?_ ?_ hWC
            · exact (p2'.nu (by simp)).trans (k2.nu (by simp [fL]))
            · exact ((p2'.nu (by simp)).trans (k2.nu (by simp [fL]))).trans (by rw [gI_pI]; simp)
            · have z : ∀ (a : Int) (j : Nat), 59 ≤ a.toNat → gI sC a j = gI sB a j := fun a j ha => p2'.nu (by omega)
              unfold LGc at k3 ⊢
              simp only [z 59 _ (by decide), z 60 _ (by decide), z 61 _ (by decide), z 62 _ (by decide)]
              exact k3
          · intro hM1
            have hM1' := hM1
            obtain ⟨⟨m1, m2, m3⟩, m4, m5, m6⟩ := hM1
            obtain ⟨t, t1, t2, t3⟩ := m3 T N rfl
            have tA := t1.tr 0 0
            have hX := wk_world t1 hN t3 0 0
            have hSx := hX.1.1
            have ew := m_who (ho := b) hX
            have hLx : LGm (wk (pI sC 76 0 0)) T L := (m6 T N rfl).1
            obtain ⟨s3, q1, q2, q3, q4⟩ := rem_e (s := wk (pI sC 76 0 0)) (N := N) hSx hT.1 hLx hO.2.1 t3 ((1 : Int), p, nHo N p)
            have hS3 : Sh s3 := by rw [q2.sh]; exact hSx
            have e78 : ∀ k, gI s3 78 k = gI sC 78 k := fun k => q2.nu (by simp [fP])
            have e79 : gI s3 79 p = nHo N p := (q2.nu (by simp [fP])).trans (hX.2.2.1 p hp)
            have e79' : gI (pI s3 78 p b) 79 p = nHo N p := by rw [gI_pI, if_neg (by simp)]; exact e79
            have hx4 : RXf (fun j => gI (pI s3 78 p b) 78 j) T (houN N p b) := by
              rw [gI_pI_fun]
              have : RXf (fun j => gI s3 78 j) T N := by simp only [e78]; exact t3
              exact this.hou hT.1 hp
            obtain ⟨f1, f2⟩ := hM1'.fin (sA := wk (pI sC 76 0 0)) ((Mv_pI (k := 0) (x := 0) (by decide)).trans (Mv_wk _)) q2 q3 q4 hx4 hNn
            have hS4 : Sh (pI s3 78 p b) := hS3
            refine ⟨_, ?_, f1, f2⟩
            simp [X13_move, X13_move_b21, tF, wkF, isK, shF m1, shF hS3, m_pers tA, m_hous tA, hp, j1, m_works tA.1, ew, c, q1, g19, e79', m_good hS4]
        · refine step_read hO ht hC hM (5, -1) (by decide) (CR_eq ?_) (fun s1 h1 => MR_ok ?_)
          · simp [X11_move, X11_move_b17, X11_move_b22, tF, isK, shF hS, eP, eH, c_ref hS, nP, nH, hp, j1, eo, c, X11_refuse, pI_pI]
          · obtain ⟨m1, m2, m3⟩ := h1
            obtain ⟨t, t1, t2, t3⟩ := m3 T N rfl
            have tA := t1.tr 0 0
            have hX := wk_world t1 hN t3 0 0
            have ew := m_who (ho := b) hX
            simp [X13_move, X13_move_b21, tF, wkF, isK, shF m1, m_pers tA, m_hous tA, hp, j1, m_works tA.1, ew, c, m_refd hX.1.1]
      · refine step_read hO ht hC hM (1, -1) (by decide) (CR_eq ?_) (fun s1 h1 => MR_no ?_)
        · simp [X11_move, X11_move_b17, X11_move_b22, tF, isK, shF hS, eP, eH, c_ref hS, nP, nH, j0, j1]
        · obtain ⟨m1, m2, m3⟩ := h1
          obtain ⟨t, t1, t2, t3⟩ := m3 T N rfl
          have tA := t1.tr 0 0
          simp [X13_move, X13_move_b21, tF, isK, shF m1, m_pers tA, m_hous tA, j0, j1, m_refd tA.1]
    · refine step_read hO ht hC hM (1, -1) (by decide) (CR_eq ?_) (fun s1 h1 => MR_no ?_)
      · simp [X11_move, X11_move_b17, X11_move_b22, tF, isK, shF hS, eP, c_ref hS, nP, j0]
      · obtain ⟨m1, m2, m3⟩ := h1
        obtain ⟨t, t1, t2, t3⟩ := m3 T N rfl
        have tA := t1.tr 0 0
        simp [X13_move, X13_move_b21, tF, isK, shF m1, m_pers tA, j0, m_refd tA.1]
/-- the latest act reverted, the class -/
theorem revert_e {T : Tw} {N : Nw} {L : Lg} (hW : WC T N s) (hT : TFK T) (hLo : LOK T L N) (hL : LGc s L) (hn : 0 < L.1) : ∃ s1, X3_revertLatest s 59 31 = some (0, s1) ∧ Fr (fun a => (32 ≤ a ∧ a ≤ 38) ∨ a = 59) s s1 ∧ WC T (L.2.2 (L.1 - 1)) s1 ∧ LGc s1 (pop L) := by
  have hS := hW.1
  obtain ⟨l1, l2⟩ := hL
  obtain ⟨o1, o2, o3⟩ := hLo.top hn
  obtain ⟨y1, y2, y3⟩ := l2 (L.1 - 1) (by omega)
  have h16 := hLo.1
  have t5 := hT.1.1.2.2.2.2.1
  have t6 := hT.1.1.2.2.2.2.2.1
  obtain ⟨n, hn1⟩ : ∃ n, L.1 = n + 1 := ⟨L.1 - 1, by omega⟩
  have e1 : L.1 - 1 = n := by omega
  rw [e1] at o1 o2 o3 y1 y2 y3 ⊢
  have hWn : WC T N (pI s 59 0 (n : Int)) := hW.fr (L := fun a => a = 59) (Fr_pI rfl) (fun a a1 a2 z => by omega)
  have c59 : gI s 59 0 = (n : Int) + 1 := by rw [l1, hn1]; simp
  have g16 : (n : Int) < 16 := by omega
  have gp : (1 : Int) ≤ (n : Int) + 1 := by omega
  have hfin : ∀ s1 : St, Fr (fun a => 32 ≤ a ∧ a ≤ 38) (pI s 59 0 (n : Int)) s1 → Fr (fun a => (32 ≤ a ∧ a ≤ 38) ∨ a = 59) s s1 ∧ LGc s1 (pop L) := by
    intro s1 hf
    refine ⟨(Fr_pI (by simp)).trans (hf.mono (fun a ha => Or.inl ha)), ?_, fun j hj => ?_⟩
    · show gI s1 59 0 = ((L.1 - 1 : Nat) : Int)
      rw [hf.nu (by simp), gI_pI, e1]; simp
    · have hj' : j < L.1 - 1 := hj
      have z : ∀ a : Int, 60 ≤ a.toNat → gI s1 a j = gI s a j := fun a ha => (hf.nu (by omega)).trans (by rw [gI_pI, if_neg (by simp; omega)])
      rw [z 60 (by decide), z 61 (by decide), z 62 (by decide)]
      exact l2 j (by omega)
  have w1 : w32 ((n : Int) + 1 - 1) = (n : Int) := by rw [w32e (by omega)]; omega
  have w1' : w32 (n : Int) = (n : Int) := wk0 (by clear w1; omega)
  generalize he : L.2.1 n = e at o1 o3 y1 y2 y3
  obtain ⟨ek, ew, ev⟩ := e
  obtain ⟨u1, u2, u3⟩ := o1
  simp only at u1 u2 u3 y1 y2 y3
  have f60 : gI (pI s 59 0 (n : Int)) 60 n = ek := by rw [gI_pI, if_neg (by simp)]; exact y1
  have f61 : gI (pI s 59 0 (n : Int)) 61 n = (ew : Int) := by rw [gI_pI, if_neg (by simp)]; exact y2
  have f62 : gI (pI s 59 0 (n : Int)) 62 n = ev := by rw [gI_pI, if_neg (by simp)]; exact y3
  have f59 : gI (pI s 59 0 (n : Int)) 59 0 = (n : Int) := by rw [gI_pI]; simp
  rcases u1 with rfl | rfl | rfl | rfl
  · have o3' : L.2.2 n = nigN N ev := o3
    rw [o3'] at o2 ⊢
    have hWC : WC T (nigN N ev) (pI (pI s 59 0 (n : Int)) 32 0 ev) := by
      obtain ⟨b1, b2, b3, b4, b5, b6⟩ := hWn
      refine ⟨b1, b2, o2, b4.sm (fun a a1 a2 => (Fr_pI (L := fun a => a = 32) rfl).2.2.2 a (by clear w1 w1'; omega)), b5, by rw [gI_pI]; simp; rfl⟩
    obtain ⟨c1, c2⟩ := hfin (pI (pI s 59 0 (n : Int)) 32 0 ev) (Fr_pI (by simp))
    refine ⟨_, ?_, c1, hWC, c2⟩
    simp [X3_revertLatest, X3_revertLatest_b119, tF, isK, shF hS, c59, gp, w1', f59, g16, f60, f61, f62, swt]
  · have o3' : L.2.2 n = houN N ew ev := o3
    rw [o3'] at o2 ⊢
    have hp := u2 rfl
    obtain ⟨sC, p1, p2, p3⟩ := putPerson_e (h := ev) (p := ew) vc1 hWn.1 hT.1 o2 hWn.2.2.2.1 hWn.2.2.2.2.1 hp
    have p2' : Fr (fun a => 33 ≤ a ∧ a ≤ 38) (pI s 59 0 (n : Int)) sC := p2.mono (fun a ha => by simp at ha; clear w1 w1'; omega)
    have hWC : WC T (houN N ew ev) sC := ⟨by rw [p2.sh]; exact hWn.1, hT.1, o2, hWn.2.2.2.1.sm (p2'.sm (fun a a1 a2 z => by clear w1 w1'; omega)), p3, (p2'.nu (by simp)).trans hWn.2.2.2.2.2⟩
    obtain ⟨c1, c2⟩ := hfin sC (p2'.mono (fun a ha => by clear w1 w1'; omega))
    refine ⟨_, ?_, c1, hWC, c2⟩
    simp [X3_revertLatest, X3_revertLatest_b119, tF, isK, shF hS, c59, gp, w1', f59, g16, f60, f61, f62, swt, p1]
  · have o3' : L.2.2 n = mirN N ew ev := o3
    rw [o3'] at o2 ⊢
    have hd := u3 (Or.inl rfl)
    have hWC := hWn.mirr o2
    have gd : (ew : Int) < 6 := by clear w1 w1'; omega
    obtain ⟨c1, c2⟩ := hfin (pI (pI s 59 0 (n : Int)) 35 ew ev) (Fr_pI (by simp))
    refine ⟨_, ?_, c1, hWC, c2⟩
    simp [X3_revertLatest, X3_revertLatest_b119, tF, isK, shF hS, c59, gp, w1', f59, g16, f60, f61, f62, swt, gd]
  · have o3' : L.2.2 n = sliN N ew ev := o3
    rw [o3'] at o2 ⊢
    have hd := u3 (Or.inr rfl)
    have hWC := hWn.slip o2
    have gd : (ew : Int) < 6 := by clear w1 w1'; omega
    obtain ⟨c1, c2⟩ := hfin (pI (pI s 59 0 (n : Int)) 34 ew ev) (Fr_pI (by simp))
    refine ⟨_, ?_, c1, hWC, c2⟩
    simp [X3_revertLatest, X3_revertLatest_b119, tF, isK, shF hS, c59, gp, w1', f59, g16, f60, f61, f62, swt, gd]
end ACTS4
