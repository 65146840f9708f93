/-! acts: move, hang, take, teach -/
section ACTS2
variable {T : Tw} {N N2 : Nw} {L L2 : Lg} {I : Im} {tr fl fp : Int} {tp : Nat × (Nat → Int)} {s s1 sA s3 : St} {k : Nat} {x : Int} {d : Nat}
theorem MI_.fin (h : MI_ (some (T, N)) L I tr fl fp tp s1) (hv : Mv s1 sA) (q2 : Fr fP sA s3) (q3 : ∀ k, k ≠ 19 → gI s3 76 k = gI sA 76 k) (q4 : LGm s3 T L2) (hx4 : RXf (fun j => gI (pI s3 78 k x) 78 j) T N2) (hN : NOK T N2) : Fr (fun a => 76 ≤ a) s1 (fiM 0 (pI s3 78 k x)) ∧ MI_ (some (T, N2)) L2 I 0 fl fp tp (fiM 0 (pI s3 78 k x)) := by
  obtain ⟨v1, v6, v12, v19, v20⟩ := hv
  have hm : Fr (fun a => 76 ≤ a) s1 (fiM 0 (pI s3 78 k x)) := (((v1.mono (fun a ha => by unfold mS at ha; omega)).trans (q2.mono (fun a ha => by simp [fP] at ha; omega))).trans (Fr_pI (by decide))).trans ((Fr_pI (by decide)).trans (Fr_pI (by decide)))
  refine ⟨hm, ?_⟩
  obtain ⟨⟨m1, m2, m3⟩, m4, m5, m6⟩ := h
  obtain ⟨t, t1, t2, t3⟩ := m3 T N rfl
  have c : ∀ a : Nat, a = 77 ∨ a = 81 ∨ 89 ≤ a → ¬ (mS a) ∧ ¬ (fP a) ∧ a ≠ 78 ∧ a ≠ 76 := fun a ha => by unfold mS; simp [fP]; omega
  have e : ∀ (a : Int) (j : Nat), (a.toNat = 77 ∨ a.toNat = 81 ∨ 89 ≤ a.toNat) → gI (fiM 0 (pI s3 78 k x)) a j = gI s1 a j := fun a j ha => by
    obtain ⟨c1, c2, c3, c4⟩ := c _ ha
    unfold fiM
    rw [gI_pI, if_neg (fun z => c4 z.1), gI_pI, if_neg (fun z => c4 z.1), gI_pI, if_neg (fun z => c3 z.1), q2.nu c2, v1.nu c1]
  have e77 : ∀ j, gI (fiM 0 (pI s3 78 k x)) 77 j = gI s1 77 j := fun j => e 77 j (by decide)
  have e81 : ∀ j, gI (fiM 0 (pI s3 78 k x)) 81 j = gI s1 81 j := fun j => e 81 j (by decide)
  refine ⟨⟨by rw [hm.sh]; exact m1, (fun q => by cases q), fun T' N' q => ?_⟩, ⟨rfl, rfl, ((q3 6 (by decide)).trans v6).trans m4.2.2.1, ((q3 12 (by decide)).trans v12).trans m4.2.2.2.1, q4.1, ((q3 20 (by decide)).trans v20).trans m4.2.2.2.2.2⟩, ?_, fun T' N' q => ?_⟩
  · cases q
    refine ⟨t, ?_, hN, hx4⟩
    have f1 : MW T t sA := t1.fr v1 (fun a ha => (c a (by omega)).1)
    have f2 : MW T t s3 := f1.fr q2 (fun a ha => (c a (by omega)).2.1)
    have f3 : MW T t (pI s3 78 k x) := f2.fr (L := fun a => a = 78) (Fr_pI rfl) (fun a ha z => by omega)
    exact (f3.tr 1 0).tr 2 (-1)
  · simp only [e77]; exact m5
  · cases q
    refine ⟨q4, ?_⟩
    simp only [e81]
    exact (m6 T N rfl).2
theorem WC.mirr (hW : WC T N s) (hN : NOK T (mirN N d x)) : WC T (mirN N d x) (pI s 35 d x) := by
  obtain ⟨b1, b2, b3, b4, b5, b6⟩ := hW
  have hx : ∀ (a : Int) (j : Nat), a.toNat ≠ 35 → gI (pI s 35 d x) a j = gI s a j := fun a j ha => by rw [gI_pI, if_neg (fun z => ha z.1)]
  obtain ⟨v1, v2, v3⟩ := b5
  refine ⟨b1, b2, hN, b4.sm (fun a a1 a2 => (Fr_pI (L := fun a => a = 35) rfl).2.2.2 a (by omega)), ⟨fun p hp => v1 p hp, fun e he => ⟨(v2 e he).1, ?_⟩, v3⟩, b6⟩
  show gI (pI s 35 d x) 35 e = (if e = d then x else nMi N e)
  rw [gI_pI]
  by_cases q : e = d
  · rw [if_pos ⟨rfl, q⟩, if_pos q]
  · rw [if_neg (fun z => q z.2), if_neg q]; exact (v2 e he).2
theorem WC.slip (hW : WC T N s) (hN : NOK T (sliN N d x)) : WC T (sliN N d x) (pI s 34 d x) := by
  obtain ⟨b1, b2, b3, b4, b5, b6⟩ := hW
  obtain ⟨v1, v2, v3⟩ := b5
  refine ⟨b1, b2, hN, b4.sm (fun a a1 a2 => (Fr_pI (L := fun a => a = 34) rfl).2.2.2 a (by omega)), ⟨fun p hp => v1 p hp, fun e he => ⟨?_, (v2 e he).2⟩, v3⟩, b6⟩
  show gI (pI s 34 d x) 34 e = (if e = d then x else nSl N e)
  rw [gI_pI]
  by_cases q : e = d
  · rw [if_pos ⟨rfl, q⟩, if_pos q]
  · rw [if_neg (fun z => q z.2), if_neg q]; exact (v2 e he).1
/-- an act that writes one number of the state, on the class's side -/
theorem CI.act1 {c : Int} {e : EE} (hC : CI (some (T, N)) L I tr fl fp tp s) (hI : I.1 ≤ 3) (hc : 32 ≤ c.toNat ∧ c.toNat ≤ 38) (k2 : Fr fL (pI s 0 2 0) s3) (k3 : LGc s3 (psh L e N)) (hW : WC T N2 (pI s3 c k x)) : Fr (fun a => a < 76) s (pI s3 c k x) ∧ CI (some (T, N2)) (psh L e N) I 0 fl fp tp (pI s3 c k x) := by
  have hA : CI (some (T, N)) L I 0 fl fp tp (pI s 0 2 0) := hC.cread hI (Fr.refl _ _)
  refine ⟨((Fr_pI (by decide)).trans (k2.mono (fun a ha => by simp [fL] at ha; omega))).trans (Fr_pI (by omega)), ?_⟩
  have z : ∀ (a : Int) (j : Nat), a.toNat ≠ c.toNat → gI (pI s3 c k x) a j = gI s3 a j := fun a j ha => by rw [gI_pI, if_neg (fun q => ha q.1)]
  refine hA.act hI ((k2.mono (fun a ha => by simp [fL] at ha; unfold aC; omega)).trans (Fr_pI (by unfold aC; omega))) (fun j hj => ?_) ?_ ?_ hW.2.2.2.2.1 hW.2.2.2.2.2 hW.2.2.1
  · rw [z 0 j (by simp; omega)]
    exact k2.nu (by simp [fL])
  · rw [z 0 2 (by simp; omega)]
    exact (k2.nu (by simp [fL])).trans (by rw [gI_pI]; simp)
  · unfold LGc at k3 ⊢
    simp only [z 59 _ (by simp; omega), z 60 _ (by simp; omega), z 61 _ (by simp; omega), z 62 _ (by simp; omega)]
    exact k3
/-- a mirror changed, both sides -/
theorem s_mirror {F G : St → Rs} {h : Int} (hO : OKS (some (T, N)) L I) (ht : tp.1 ≤ 800 ∧ ∀ j, ok8 (tp.2 j)) (hC : CI (some (T, N)) L I tr fl fp tp s) (hM : MI_ (some (T, N)) L I tr fl fp tp s) (hd : d < tD T) (hh : h = -2 ∨ (0 ≤ h ∧ h < tH T))
    (hF : F s = bnd (X11_changeMirror (pI s 0 2 0) 0 d h) (fun r5 s6 => grd (r5 = 0 ∨ r5 = 1) (some (r5, s6)))) (hG : ∀ s1, MWd (some (T, N)) s1 → G s1 = bnd (X13_hangs (pI s1 76 0 0) 76 d h) (fun r5 s6 => grd (r5 = 0 ∨ r5 = 1) (some (r5, s6)))) : STP s F G := by
  obtain ⟨hS, ⟨h0, h2, h3⟩, hW⟩ := hC.1
  obtain ⟨hT, hN, hLo, hIm⟩ := hO.2.2.2 T N rfl
  have hW0 := hW T N rfl
  have t6 := hT.1.1.2.2.2.2.2.1
  have hWA := hW0.tr 2 0
  have hSA := hWA.1
  have vm := (hWA.2.2.2.2.1.2.1 d hd).2
  have g6 : (d : Int) < 6 := by omega
  have g19 : (12 : Int) + d < 19 := by omega
  have g0 : (0 : Int) ≤ 12 + d := by omega
  have i2 : (12 + (d : Int)).toNat = 12 + d := by omega
  have w12 : w32 (12 + (d : Int)) = 12 + d := w32e (by omega)
  by_cases c : nMi N d = h
  · refine step_read hO ht hC hM (5, 0) (by decide) (CR_eq ?_) (fun s1 h1 => ?_)
    · rw [hF]
      simp [X11_changeMirror, tF, isK, shF hS, vm, g6, c, pI_pI]
    · rw [hG s1 h1]
      obtain ⟨m1, m2, m3⟩ := h1
      obtain ⟨t, t1, t2, t3⟩ := m3 T N rfl
      have x12 : gI (pI s1 76 0 0) 78 (12 + d) = nMi N d := (t3.2.1 d hd).2
      have hS2 : Sh (pI s1 76 0 0) := m1
      refine MR_no ?_
      simp [X13_hangs, tF, isK, shF m1, w12, g19, g0, i2, x12, c, m_deny hS2]
  · have hNn : NOK T (mirN N d h) := by
      rcases hh with rfl | hh
      · exact hN.tak
      · exact hN.mir hh
    obtain ⟨sB, k1, k2, k3⟩ := keep_e hSA (hC.cread hO.2.2.1 (Fr.refl cS (pI s 0 2 0))).2.2.2.2.1 hO.2.1 ((2 : Int), d, nMi N d) N
    have k1' : X3_keep (pI s 0 2 0) 59 2 d (nMi N d) = some (0, sB) := k1
    have hSB : Sh sB := by rw [k2.sh]; exact hSA
    have hWB : WC T N sB := hWA.fr k2 (fun a a1 a2 z => by simp [fL] at z; omega)
    have hWC := hWB.mirr hNn
    obtain ⟨c1, c2⟩ := hC.act1 hO.2.2.1 (by decide) k2 k3 hWC
    have hLo2 : LOK T (psh L ((2 : Int), d, nMi N d) N) (mirN N d h) := hLo.push ⟨Or.inr (Or.inr (Or.inl rfl)), (fun q => by cases q), fun _ => hd⟩ hN (mirN_mirN N d h)
    refine step_act (s1 := pI sB 35 d h) (r := 1) (w := 0) (hO.set hNn hLo2) ht hM ?_ c1 c2 ?_
    · rw [hF]
      simp [X11_changeMirror, tF, isK, shF hS, shF hSB, vm, g6, c, k1']
    · intro hM1
      rw [hG _ hM1.1]
      have hM1' := hM1
      obtain ⟨⟨m1, m2, m3⟩, m4, m5, m6⟩ := hM1
      obtain ⟨t, t1, t2, t3⟩ := m3 T N rfl
      have tA := t1.tr 0 0
      have x12 : gI (pI (pI sB 35 d h) 76 0 0) 78 (12 + d) = nMi N d := (t3.2.1 d hd).2
      obtain ⟨s3, q1, q2, q3, q4⟩ := rem_e (s := pI (pI sB 35 d h) 76 0 0) tA.1 hT.1 (m6 T N rfl).1 hO.2.1 t3 ((2 : Int), d, nMi N d)
      have hS3 : Sh s3 := by rw [q2.sh]; exact tA.1
      have e78 : ∀ k, gI s3 78 k = gI (pI (pI sB 35 d h) 76 0 0) 78 k := fun k => q2.nu (by simp [fP])
      have hx4 : RXf (fun j => gI (pI s3 78 (12 + d) h) 78 j) T (mirN N d h) := by
        rw [gI_pI_fun]
        have : RXf (fun j => gI s3 78 j) T N := by simp only [e78]; exact t3
        exact this.mir hT.1 hd
      obtain ⟨f1, f2⟩ := hM1'.fin (Mv_pI (by decide)) q2 q3 q4 hx4 hNn
      have hS4 : Sh (pI s3 78 (12 + d) h) := hS3
      refine ⟨_, ?_, f1, f2⟩
      simp [X13_hangs, tF, isK, shF m1, shF hS3, w12, g19, g0, i2, x12, c, q1, m_grant hS4]
end ACTS2
section ACTS3
variable {s : St}
theorem s_hang (a b : Int) (h : INV s) : STP s (fun s => X11_hang s 0 a b) (fun s => X13_hang s 76 a b) := by
  obtain ⟨W, L, I, tr, fl, fp, tp, hO, ht, hC, hM⟩ := h
  obtain ⟨hS, ⟨h0, h2, h3⟩, hW⟩ := hC.1
  have eD := c_dead hS h3
  have eH := c_hous hS h0
  rcases W with _ | ⟨T, N⟩
  · refine step_read hO ht hC hM (1, 0) (by decide) (CR_eq ?_) (fun s1 h1 => MR_no ?_)
    · have a0 : ¬ (0 ≤ a ∧ a < 0) := by omega
      simp [X11_hang, X11_hang_b17, X11_hang_b22, tF, isK, shF hS, eD, c_ref hS, nD, a0]
    · obtain ⟨hS1, hno, -⟩ := h1
      have hS2 : Sh (pI s1 76 0 0) := hS1
      have hn1 : gR (pI s1 76 0 0) 76 3 < 0 := hno rfl
      simp [X13_hang, X13_hang_b30, X13_hang_b35, tF, isK, shF hS1, n_dead hS2 hn1, m_deny hS2]
  · by_cases j0 : 0 ≤ a ∧ a < tD T
    · by_cases j1 : 0 ≤ b ∧ b < tH T
      · obtain ⟨d, rfl, hd⟩ := nat_of j0
        refine s_mirror (h := b) hO ht hC hM hd (Or.inr j1) ?_ (fun s1 h1 => ?_)
        · simp [X11_hang, X11_hang_b17, X11_hang_b22, tF, isK, shF hS, eD, eH, c_ref hS, nD, nH, hd, j1]
        · obtain ⟨m1, m2, m3⟩ := h1
          obtain ⟨t, t1, t2, t3⟩ := m3 T N rfl
          have tA := t1.tr 0 0
          simp [X13_hang, X13_hang_b30, X13_hang_b35, tF, isK, shF m1, m_dead tA, m_hous tA, hd, j1]
      · refine step_read hO ht hC hM (1, 0) (by decide) (CR_eq ?_) (fun s1 h1 => MR_no ?_)
        · simp [X11_hang, X11_hang_b17, X11_hang_b22, tF, isK, shF hS, eD, eH, c_ref hS, nD, nH, j0, j1]
        · obtain ⟨m1, m2, m3⟩ := h1
          obtain ⟨t, t1, t2, t3⟩ := m3 T N rfl
          have tA := t1.tr 0 0
          simp [X13_hang, X13_hang_b30, X13_hang_b35, tF, isK, shF m1, m_dead tA, m_hous tA, j0, j1, m_deny tA.1]
    · refine step_read hO ht hC hM (1, 0) (by decide) (CR_eq ?_) (fun s1 h1 => MR_no ?_)
      · simp [X11_hang, X11_hang_b17, X11_hang_b22, tF, isK, shF hS, eD, eH, c_ref hS, nD, nH, j0]
      · obtain ⟨m1, m2, m3⟩ := h1
        obtain ⟨t, t1, t2, t3⟩ := m3 T N rfl
        have tA := t1.tr 0 0
        simp [X13_hang, X13_hang_b30, X13_hang_b35, tF, isK, shF m1, m_dead tA, j0, m_deny tA.1]
theorem s_take (a : Int) (h : INV s) : STP s (fun s => X11_take s 0 a) (fun s => X13_take s 76 a) := by
  obtain ⟨W, L, I, tr, fl, fp, tp, hO, ht, hC, hM⟩ := h
  obtain ⟨hS, ⟨h0, h2, h3⟩, hW⟩ := hC.1
  have eD := c_dead hS h3
  rcases W with _ | ⟨T, N⟩
  · refine step_read hO ht hC hM (1, 0) (by decide) (CR_eq ?_) (fun s1 h1 => MR_no ?_)
    · have a0 : ¬ (0 ≤ a ∧ a < 0) := by omega
      simp [X11_take, tF, isK, shF hS, eD, c_ref hS, nD, a0]
    · obtain ⟨hS1, hno, -⟩ := h1
      have hS2 : Sh (pI s1 76 0 0) := hS1
      have hn1 : gR (pI s1 76 0 0) 76 3 < 0 := hno rfl
      simp [X13_take, X13_take_b28, tF, isK, shF hS1, n_dead hS2 hn1, m_deny hS2]
  · by_cases j0 : 0 ≤ a ∧ a < tD T
    · obtain ⟨d, rfl, hd⟩ := nat_of j0
      refine s_mirror (h := -2) hO ht hC hM hd (Or.inl rfl) ?_ (fun s1 h1 => ?_)
      · simp [X11_take, tF, isK, shF hS, eD, c_ref hS, nD, hd]
      · obtain ⟨m1, m2, m3⟩ := h1
        obtain ⟨t, t1, t2, t3⟩ := m3 T N rfl
        have tA := t1.tr 0 0
        simp [X13_take, X13_take_b28, tF, isK, shF m1, m_dead tA, hd]
    · refine step_read hO ht hC hM (1, 0) (by decide) (CR_eq ?_) (fun s1 h1 => MR_no ?_)
      · simp [X11_take, tF, isK, shF hS, eD, c_ref hS, nD, j0]
      · obtain ⟨m1, m2, m3⟩ := h1
        obtain ⟨t, t1, t2, t3⟩ := m3 T N rfl
        have tA := t1.tr 0 0
        simp [X13_take, X13_take_b28, tF, isK, shF m1, m_dead tA, j0, m_deny tA.1]
theorem s_teach (a b : Int) (h : INV s) : STP s (fun s => X11_teach s 0 a b) (fun s => X13_teach s 76 a b) := by
  obtain ⟨W, L, I, tr, fl, fp, tp, hO, ht, hC, hM⟩ := h
  obtain ⟨hS, ⟨h0, h2, h3⟩, hW⟩ := hC.1
  have eD := c_dead hS h3
  rcases W with _ | ⟨T, N⟩
  · refine step_read hO ht hC hM (1, 0) (by decide) (CR_eq ?_) (fun s1 h1 => MR_no ?_)
    · have a0 : ¬ (0 ≤ a ∧ a < 0) := by omega
      by_cases b0 : b < 0 <;> by_cases b1 : b ≤ 39 <;>
      simp [X11_teach, X11_teach_b16, X11_teach_b21, tF, isK, shF hS, eD, c_ref hS, nD, a0, b0, b1]
    · obtain ⟨hS1, hno, -⟩ := h1
      have hS2 : Sh (pI s1 76 0 0) := hS1
      have hn1 : gR (pI s1 76 0 0) 76 3 < 0 := hno rfl
      simp [X13_teach, tF, isK, shF hS1, n_dead hS2 hn1, m_deny hS2]
  · by_cases j0 : 0 ≤ a ∧ a < tD T
    · by_cases j1 : 0 ≤ b ∧ b ≤ 39
      · obtain ⟨d, rfl, hd⟩ := nat_of j0
        obtain ⟨hT, hN, hLo, hIm⟩ := hO.2.2.2 T N rfl
        have hW0 := hW T N rfl
        have t6 := hT.1.1.2.2.2.2.2.1
        have hWA := hW0.tr 2 0
        have hSA := hWA.1
        have vm := (hWA.2.2.2.2.1.2.1 d hd).1
        have b0 : ¬ b < 0 := by omega
        have g6 : (d : Int) < 6 := by omega
        have g19 : (6 : Int) + d < 19 := by omega
        have g0 : (0 : Int) ≤ 6 + d := by omega
        have i2 : (6 + (d : Int)).toNat = 6 + d := by omega
        have w12 : w32 (6 + (d : Int)) = 6 + d := w32e (by omega)
        by_cases c : nSl N d = b
        · refine step_read hO ht hC hM (5, 0) (by decide) (CR_eq ?_) (fun s1 h1 => ?_)
          · simp [X11_teach, X11_teach_b16, X11_teach_b21, tF, isK, shF hS, eD, c_ref hS, nD, hd, b0, j1.2, vm, g6, c, pI_pI]
          · obtain ⟨m1, m2, m3⟩ := h1
            obtain ⟨t, t1, t2, t3⟩ := m3 T N rfl
            have tA := t1.tr 0 0
            have x12 : gI (pI s1 76 0 0) 78 (6 + d) = nSl N d := (t3.2.1 d hd).1
            refine MR_no ?_
            simp [X13_teach, tF, isK, shF m1, m_dead tA, m_in, hd, j1, w12, g19, g0, i2, x12, c, m_deny tA.1]
        · have hNn : NOK T (sliN N d b) := hN.sli j1
          obtain ⟨sB, k1, k2, k3⟩ := keep_e hSA (hC.cread hO.2.2.1 (Fr.refl cS (pI s 0 2 0))).2.2.2.2.1 hO.2.1 ((3 : Int), d, nSl N d) N
          have k1' : X3_keep (pI s 0 2 0) 59 3 d (nSl N d) = some (0, sB) := k1
          have hSB : Sh sB := by rw [k2.sh]; exact hSA
          have hWB : WC T N sB := hWA.fr k2 (fun a a1 a2 z => by simp [fL] at z; omega)
          have hWC := hWB.slip hNn
          obtain ⟨c1, c2⟩ := hC.act1 hO.2.2.1 (by decide) k2 k3 hWC
          have hLo2 : LOK T (psh L ((3 : Int), d, nSl N d) N) (sliN N d b) := hLo.push ⟨Or.inr (Or.inr (Or.inr rfl)), (fun q => by cases q), fun _ => hd⟩ hN (sliN_sliN N d b)
          refine step_act (s1 := pI sB 34 d b) (r := 1) (w := 0) (hO.set hNn hLo2) ht hM ?_ c1 c2 ?_
          · simp [X11_teach, X11_teach_b16, X11_teach_b21, tF, isK, shF hS, shF hSB, eD, c_ref hS, nD, hd, b0, j1.2, vm, g6, c, k1']
          · intro hM1
            have hM1' := hM1
            obtain ⟨⟨m1, m2, m3⟩, m4, m5, m6⟩ := hM1
            obtain ⟨t, t1, t2, t3⟩ := m3 T N rfl
            have tA := t1.tr 0 0
            have x12 : gI (pI (pI sB 34 d b) 76 0 0) 78 (6 + d) = nSl N d := (t3.2.1 d hd).1
            obtain ⟨s3, q1, q2, q3, q4⟩ := rem_e (s := pI (pI sB 34 d b) 76 0 0) tA.1 hT.1 (m6 T N rfl).1 hO.2.1 t3 ((3 : Int), d, nSl N d)
            have hS3 : Sh s3 := by rw [q2.sh]; exact tA.1
            have e78 : ∀ k, gI s3 78 k = gI (pI (pI sB 34 d b) 76 0 0) 78 k := fun k => q2.nu (by simp [fP])
            have hx4 : RXf (fun j => gI (pI s3 78 (6 + d) b) 78 j) T (sliN N d b) := by
              rw [gI_pI_fun]
              have : RXf (fun j => gI s3 78 j) T N := by simp only [e78]; exact t3
              exact this.sli hT.1 hd
            obtain ⟨f1, f2⟩ := hM1'.fin (Mv_pI (by decide)) q2 q3 q4 hx4 hNn
            have hS4 : Sh (pI s3 78 (6 + d) b) := hS3
            refine ⟨_, ?_, f1, f2⟩
            simp [X13_teach, tF, isK, shF m1, shF hS3, m_dead tA, m_in, hd, j1, w12, g19, g0, i2, x12, c, q1, m_grant hS4]
      · refine step_read hO ht hC hM (2, 0) (by decide) (CR_eq ?_) (fun s1 h1 => MR_no ?_)
        · by_cases b0 : b < 0
          · simp [X11_teach, X11_teach_b16, X11_teach_b21, tF, isK, shF hS, eD, c_ref hS, nD, j0, b0]
          · have b1 : ¬ b ≤ 39 := by omega
            simp [X11_teach, X11_teach_b16, X11_teach_b21, tF, isK, shF hS, eD, c_ref hS, nD, j0, b0, b1]
        · obtain ⟨m1, m2, m3⟩ := h1
          obtain ⟨t, t1, t2, t3⟩ := m3 T N rfl
          have tA := t1.tr 0 0
          simp [X13_teach, tF, isK, shF m1, m_dead tA, m_in, j0, j1, m_deny tA.1]
    · refine step_read hO ht hC hM (1, 0) (by decide) (CR_eq ?_) (fun s1 h1 => MR_no ?_)
      · by_cases b0 : b < 0 <;> by_cases b1 : b ≤ 39 <;>
        simp [X11_teach, X11_teach_b16, X11_teach_b21, tF, isK, shF hS, eD, c_ref hS, nD, j0, b0, b1]
      · obtain ⟨m1, m2, m3⟩ := h1
        obtain ⟨t, t1, t2, t3⟩ := m3 T N rfl
        have tA := t1.tr 0 0
        simp [X13_teach, tF, isK, shF m1, m_dead tA, j0, m_deny tA.1]
end ACTS3
