/-! the lines on the reference, whole -/
def mlV (s : St) : Int := if mWv s 9 = 0 then (if mWv s 10 = 0 then (if mWv s 11 = 0 then (if mWv s 12 = 0 then -1 else 3) else 2) else 1) else 0
section MLN
variable {s s1 : St} {n t : Nat} {b : Nat → Int} {q : PQ} {D : DR}
theorem kI (hs : Sh s) : isK s 23 76 := ⟨by decide, kd_76 hs⟩
theorem kT (hs : RTs s t) : isK s 22 (ad t 0) := ⟨⟨ad_0 t 0, (adF_ hs).2.2.1.1⟩, hs.2.2.1⟩
theorem m_lnTown (h : RdQ n b s q) (hR : RTs s t) (hD : MDr s t D) (h4 : q.1 = 0 → tkK n b q.2.2.1 ≠ 4) : ∃ s1, X13_readTown s 76 = some (0, s1) ∧ FmT t s s1 ∧ RdQ n b s1 (lnTown n b D q).1 ∧ MDr s1 t (lnTown n b D q).2 := by
  have hS := h.1
  have ht := hR.1.1
  have rest : ∀ s0 : St, Fm s s0 → RdQ n b s0 (qP n b (decide (tH (dT D) ≠ 0)) 3 q) → ∃ s1, X13_readTown_b15 s0 76 = some (0, s1) ∧ FmT t s s1 ∧ RdQ n b s1 (lnTown n b D q).1 ∧ MDr s1 t (lnTown n b D q).2 := by
    intro s0 f0 c0
    obtain ⟨s1, e1, f1, c1⟩ := m_goQ c0 (fun w => by
      obtain ⟨w1, w2, w3⟩ := qP_l (by decide) w
      rw [w3]; exact h4 w1)
    obtain ⟨r3, s3, e3, f3, c3, v3⟩ := m_readPart (w := 1) (c := 18) (lo := 2) (hi := 40) (q := tw1 n b D q) c1 rfl (by decide)
    obtain ⟨r5, s5, e5, f5, c5, v5⟩ := m_readPart (w := 2) (c := 19) (lo := 0) (hi := 100) (q := tw3 n b D q) c3 rfl (by decide)
    have c5' : RdQ n b s5 (tw5 n b D q) := c5
    have v5' : (tw5 n b D q).1 = 0 → r5 = (tkH n b (tw4 n b D q).2.2.1 : Int) := v5
    have v3' : (tw3 n b D q).1 = 0 → r3 = (tkH n b (tw2 n b D q).2.2.1 : Int) := v3
    have fr := ((f0.trans f1).trans f3).trans f5
    have hD5 := hD.fm ht fr
    have hR5 := hR.fr fr.1
    have hS5 := c5.1
    have hA := adF_ hR5
    unfold X13_readTown_b15
    rw [grd_t (kI c0.1), e1, bnd_some, grd_t (kI c1.1), e3, bnd_some, grd_t (kI c3.1), e5, bnd_some, grd_t (kI hS5)]
    unfold lnTown
    by_cases z : (tw5 n b D q).1 = 0
    · have n5 : ¬ gI s5 76 9 = 5 := fun w => c5'.nf.1 w z
      obtain ⟨z4, -, -, -⟩ := qW_l (q := tw4 n b D q) z
      obtain ⟨z3, -, -⟩ := qS_l (q := tw3 n b D q) z4
      have h3 := v3' z3
      have h5 := v5' z
      rw [if_pos n5, if_pos z]
      refine ⟨pI (pI s5 (ad t 0) 0 r3) (ad t 0) 1 r5, ?_, (fr.T.trans (fmA ht _ _ _ _)).trans (fmA ht _ _ _ _), (c5'.up ht).up ht, ?_⟩
      · simp [tF, isK, shF hS5, hR5.2, hA]
      · rw [h3, h5]; exact hD5.adT _ _
    · rw [if_neg (fun w => w (c5'.2.2 z).1), if_neg z]
      exact ⟨s5, rfl, fr.T, c5', hD5⟩
  unfold X13_readTown
  rw [grd_t (kI hS), hR.2.1, grd_t (kT hR), hD.1.1]
  by_cases y : tH (dT D) = 0
  · rw [if_pos (by omega)]
    exact rest s (Fm.refl s) (by rw [qP_t (by simp [y])]; exact h)
  · obtain ⟨s1, g1, g2, g3⟩ := m_flawQ (k := 3) h (by decide)
    obtain ⟨s2, t1, t2⟩ := rest s1 g2 (by rw [show decide (tH (dT D) ≠ 0) = true by simp [y]]; exact g3)
    refine ⟨s2, ?_, t2⟩
    rw [if_neg (by omega), grd_t (kI hS), g1, bnd_some]
    exact t1
theorem m_lnPers (h : RdQ n b s q) (hR : RTs s t) (hD : MDr s t D) (hO : DOK D) (h4 : q.1 = 0 → tkK n b q.2.2.1 ≠ 4) : ∃ s1, X13_readPerson s 76 = some (0, s1) ∧ FmT t s s1 ∧ RdQ n b s1 (lnPers n b D q).1 ∧ MDr s1 t (lnPers n b D q).2 := by
  have hS := h.1
  have ht := hR.1.1
  have h40 := hO.1.2.2.1
  have hp6 := hO.1.2.2.2.2.1
  have hd6 := hO.1.2.2.2.2.2.1
  have w1 : w32 ((tH (dT D) : Int) - 1) = (tH (dT D) : Int) - 1 := w32e (by omega)
  obtain ⟨s1, e1, f1, c1⟩ := m_begin (many := tP (dT D)) (most := 6) (full := decide (6 ≤ tP (dT D))) h hR hD (by rw [decide_eq_decide]; clear w1; omega) (fun z => by have := (hO.1.1 z).1; clear w1; omega) h4
  have hR1 := hR.fr f1.1
  have hD1 := hD.fm ht f1
  obtain ⟨r2, s2, e2, f2, c2, v2⟩ := m_fresh (q := pr1 n b D q) c1 hR1 hD1 hO
  obtain ⟨s3, e3, f3, c3⟩ := m_needs (w := 8) (c := 25) (q := pr2 n b D q) c2 rfl (by decide)
  have f123 := (f1.trans f2).trans f3
  have hR3 := hR.fr f123.1
  have hD3 := hD.fm ht f123
  obtain ⟨r4, s4, e4, f4, c4, v4⟩ := m_wholeAt (lo := 0) (hi := (tH (dT D) : Int) - 1) (q := pr3 n b D q) c3
  have f14 := f123.trans f4
  have hR4 := hR.fr f14.1
  have hD4 := hD.fm ht f14
  have hS4 := c4.1
  have b63 : ∀ s5 : St, Fm s s5 → RdQ n b s5 (qP n b (tkB D (tkH n b (pr3 n b D q).2.2.1 : Int)) 3 (qWa n b 0 ((tH (dT D) : Int) - 1) (pr3 n b D q))) → ∃ s6, X13_readPerson_b63 s5 76 r2 r4 = some (0, s6) ∧ FmT t s s6 ∧ RdQ n b s6 (lnPers n b D q).1 ∧ MDr s6 t (lnPers n b D q).2 := by
    intro s5 f5 c5
    obtain ⟨s6, e6, f6, c6⟩ := m_goQ c5 (fun w => by
      obtain ⟨a1, a2, a3⟩ := qP_l (by decide) w
      obtain ⟨b1, b2, b3, b4⟩ := qWa_l a1
      rw [a3, b4]; unfold hB at b2; simp at b2; clear w1; omega)
    have c6' : RdQ n b s6 (pr5 n b D q) := qWa_SF (by decide) c6
    have fr := f5.trans f6
    have hR6 := hR.fr fr.1
    have hD6 := hD.fm ht fr
    have hS6 := c6.1
    have hA := adF_ hR6
    unfold X13_readPerson_b63
    rw [grd_t (kI c5.1), e6, bnd_some, grd_t (kI hS6)]
    unfold lnPers
    by_cases z : (pr5 n b D q).1 = 0
    · have n5 : ¬ gI s6 76 9 = 5 := fun w => c6'.nf.1 w z
      obtain ⟨z4, z4t, -⟩ := qF_l (q := pr4 n b D q) (by decide) z
      obtain ⟨z3, z3h, z3r, -⟩ := qW_l (q := pr3 n b D q) z4
      obtain ⟨z2, -, -⟩ := qS_l (q := pr2 n b D q) z3
      obtain ⟨z1, z1n, z1t, -⟩ := qNew_l (q := pr1 n b D q) z2
      obtain ⟨z0, -, zf, -⟩ := qB_l (q := q) z1
      have pf : tP (dT D) < 6 := by simpa using zf
      have h2 := v2 z2
      have h4' := v4 (by unfold qWa; rw [qP_t (c := !hB n b (pr3 n b D q).2.2.1) (by rw [z3h]; rfl), qP_t (by simp [z3r])]; exact z3)
      have d2 := hD6.1.2.2.1
      have nm := m_names (K := r2) (so := 0) (nu := (tP (dT D) : Int)) hS6 hR6 hD6 hO (by clear w1 hA; omega)
      rw [if_pos n5, if_pos z, grd_t (kI hS6), hR6.2.1, grd_t (kT hR6), grd_t (kI hS6), d2, nm, bnd_some]
      refine ⟨pI (pI (nmW s6 t (tP (dT D) + tD (dT D)) r2 0 (tP (dT D) : Int)) (ad t 1) (tP (dT D)) r4) (ad t 0) 2 ((tP (dT D) + 1 : Nat) : Int), ?_, ?_, ?_, ?_⟩
      · have gp : (tP (dT D) : Int) < 6 := by clear w1 hA; omega
        have hw := wk1 (k := tP (dT D)) (by clear w1 hA; omega)
        unfold nmW
        simp [tF, isK, shF hS6, hR6.2, hA, gI_pI, d2, gp, hw]
      · exact (fr.T.trans ((((fmA ht _ _ _ _).trans (fmA ht _ _ _ _)).trans (fmA ht _ _ _ _)).trans (fmA ht _ _ _ _))).trans ((fmA ht _ _ _ _).trans (fmA ht _ _ _ _))
      · exact (((((c6'.up ht).up ht).up ht).up ht).up ht).up ht
      · rw [h2, h4']; exact hD6.adP _ _
    · rw [if_neg (fun w => w (c6'.2.2 z).1), if_neg z]
      exact ⟨s6, rfl, fr.T, c6', hD6⟩
  unfold X13_readPerson
  rw [grd_t (kI hS), hR.2.1, grd_t (kT hR), grd_t (kI hS), hD.1.2.2.1]
  have e1' : X13_lineBegins s 76 (tP (dT D) : Int) 6 = some (0, s1) := e1
  rw [e1', bnd_some, grd_t (kI c1.1), e2, bnd_some, grd_t (kI c2.1), e3, bnd_some, grd_t (kI c3.1), hR3.2.1, grd_t (kT hR3), grd_t (kI c3.1), hD3.1.1, w1, e4, bnd_some, grd_t (kI hS4)]
  by_cases z : (qWa n b 0 ((tH (dT D) : Int) - 1) (pr3 n b D q)).1 = 0
  · have n5 : ¬ gI s4 76 9 = 5 := fun w => c4.nf.1 w z
    have h4' := v4 z
    rw [if_neg n5, grd_t (kI hS4), hR4.2.1, grd_t (kT hR4)]
    rw [h4'] at b63
    rw [h4', m_taken hR4 hD4 hO, bnd_some]
    by_cases y : tkB D (tkH n b (pr3 n b D q).2.2.1 : Int) = true
    · obtain ⟨s5, g1, g2, g3⟩ := m_flawQ (k := 3) c4 (by decide)
      obtain ⟨s6, e6, f6⟩ := b63 s5 (f14.trans g2) (by rw [y]; exact g3)
      refine ⟨s6, ?_, f6⟩
      rw [if_pos y, if_neg (by decide), grd_t (kI hS4), g1, bnd_some]
      exact e6
    · obtain ⟨s6, e6, f6⟩ := b63 s4 f14 (by rw [qP_t (by simpa using y)]; exact c4)
      refine ⟨s6, ?_, f6⟩
      rw [if_neg y, if_pos rfl]
      exact e6
  · rw [if_pos (c4.2.2 z).1]
    exact b63 s4 f14 (by rw [qP_fz z]; exact c4)
theorem mlV_l (h : RdQ n b s q) (hz : q.1 = 0) : mlV s = lawN n b q.2.2.1 := by
  unfold mlV lawN
  rw [m_isWl h hz (w := 9), m_isWl h hz (w := 10), m_isWl h hz (w := 11), m_isWl h hz (w := 12)]
  cases wB n b 9 q.2.2.1 <;> cases wB n b 10 q.2.2.1 <;> cases wB n b 11 q.2.2.1 <;> cases wB n b 12 q.2.2.1 <;> rfl
theorem lawN_k4 {i : Nat} (h : 0 ≤ lawN n b i) : tkK n b i ≠ 4 := by
  have key : ∀ w, wB n b w i = true → tkK n b i ≠ 4 := fun w hw => by unfold wB at hw; simp at hw; omega
  unfold lawN at h
  by_cases y9 : wB n b 9 i = true
  · exact key 9 y9
  · rw [if_neg y9] at h
    by_cases y10 : wB n b 10 i = true
    · exact key 10 y10
    · rw [if_neg y10] at h
      by_cases y11 : wB n b 11 i = true
      · exact key 11 y11
      · rw [if_neg y11] at h
        by_cases y12 : wB n b 12 i = true
        · exact key 12 y12
        · rw [if_neg y12] at h; omega
theorem m_lnDead (h : RdQ n b s q) (hR : RTs s t) (hD : MDr s t D) (hO : DOK D) (h4 : q.1 = 0 → tkK n b q.2.2.1 ≠ 4) : ∃ s1, X13_readDead s 76 = some (0, s1) ∧ FmT t s s1 ∧ RdQ n b s1 (lnDead n b D q).1 ∧ MDr s1 t (lnDead n b D q).2 := by
  have hS := h.1
  have ht := hR.1.1
  have hp6 := hO.1.2.2.2.2.1
  have hd6 := hO.1.2.2.2.2.2.1
  obtain ⟨s1, e1, f1, c1⟩ := m_begin (many := tD (dT D)) (most := 6) (full := decide (6 ≤ tD (dT D))) h hR hD (by rw [decide_eq_decide]; omega) (fun z => by have := (hO.1.1 z).2.1; omega) h4
  have hR1 := hR.fr f1.1
  have hD1 := hD.fm ht f1
  obtain ⟨r2, s2, e2, f2, c2, v2⟩ := m_fresh (q := dd1 n b D q) c1 hR1 hD1 hO
  have c2' : RdQ n b s2 (dd2 n b D q) := c2
  have f12 := f1.trans f2
  have b82 : ∀ (s3 : St) (law : Int), Fm s s3 → RdQ n b s3 (qP n b (!decide (0 ≤ lawN n b (dd2 n b D q).2.2.1)) 1 (dd2 n b D q)) → ((dd2 n b D q).1 = 0 → law = lawN n b (dd2 n b D q).2.2.1) → ∃ s7, X13_readDead_b82 s3 76 r2 law = some (0, s7) ∧ FmT t s s7 ∧ RdQ n b s7 (lnDead n b D q).1 ∧ MDr s7 t (lnDead n b D q).2 := by
    intro s3 law f3 c3 hl
    obtain ⟨s4, e4, f4, c4⟩ := m_goQ c3 (fun w => by
      obtain ⟨a1, a2, a3⟩ := qP_l (by decide) w
      rw [a3]
      exact lawN_k4 (by simpa using a2))
    have c4' : RdQ n b s4 (dd3 n b D q) := by
      by_cases z : (dd2 n b D q).1 = 0
      · unfold dd3
        by_cases y : 0 ≤ lawN n b (dd2 n b D q).2.2.1
        · rw [qP_t (by simp [y])] at c4
          rw [show decide (0 ≤ lawN n b (dd2 n b D q).2.2.1) = true by simp [y]]; exact c4
        · have e : (!decide (0 ≤ lawN n b (dd2 n b D q).2.2.1)) = true := by simp; omega
          rw [e, qS_fz (qP1_nz z (by decide))] at c4
          rw [qS_w z (by simp; omega)]; exact c4
      · unfold dd3
        rw [qP_fz z, qS_fz z] at c4
        rw [qS_fz z]; exact c4
    obtain ⟨r5, s5, e5, f5, c5, v5⟩ := m_readPart (w := 13) (c := 30) (lo := 0) (hi := 39) (q := dd3 n b D q) c4' rfl (by decide)
    have v5' : (dd5 n b D q).1 = 0 → r5 = (tkH n b (dd4 n b D q).2.2.1 : Int) := v5
    obtain ⟨s6, e6, f6, c6⟩ := m_needs (w := 14) (c := 31) (q := dd5 n b D q) c5 rfl (by decide)
    have fr6 := ((f3.trans f4).trans f5).trans f6
    obtain ⟨r7, s7, e7, f7, c7, v7⟩ := m_rknown (so := 0) (q := dd6 n b D q) c6 (hR.fr fr6.1) (hD.fm ht fr6) hO (Or.inl ⟨rfl, rfl⟩)
    have c7' : RdQ n b s7 (dd7 n b D q) := c7
    have v7' : (dd7 n b D q).1 = 0 → ∃ p, fnP D (tkY n b (dd6 n b D q).2.2.1) = some p ∧ r7 = (p : Int) := v7
    have fr := fr6.trans f7
    have hR7 := hR.fr fr.1
    have hD7 := hD.fm ht fr
    have hS7 := c7.1
    have hA := adF_ hR7
    have e7' : X13_readKnown s6 76 0 = some (r7, s7) := e7
    unfold X13_readDead_b82
    rw [grd_t (kI c3.1), e4, bnd_some, grd_t (kI c4.1), e5, bnd_some, grd_t (kI c5.1), e6, bnd_some, grd_t (kI c6.1), e7', bnd_some, grd_t (kI hS7)]
    unfold lnDead
    by_cases z : (dd7 n b D q).1 = 0
    · have n5 : ¬ gI s7 76 9 = 5 := fun w => c7'.nf.1 w z
      obtain ⟨z6, z6n, z6s, -⟩ := qKn_l (q := dd6 n b D q) z
      obtain ⟨z5, -, -⟩ := qS_l (q := dd5 n b D q) z6
      obtain ⟨z4, z4h, z4r, -⟩ := qW_l (q := dd4 n b D q) z5
      obtain ⟨z3, -, -⟩ := qS_l (q := dd3 n b D q) z4
      obtain ⟨z2, -, -⟩ := qS_l (q := dd2 n b D q) z3
      obtain ⟨z1, z1n, z1t, -⟩ := qNew_l (q := dd1 n b D q) z2
      obtain ⟨z0, -, zf, -⟩ := qB_l (q := q) z1
      have pf : tD (dT D) < 6 := by simpa using zf
      have h2 := v2 z2
      have h3 := hl z2
      have h5 := v5' z5
      obtain ⟨p, hp1, hp2⟩ := v7' z
      have d3 := hD7.1.2.2.2.1
      have nm := m_names (K := r2) (so := 1) (nu := (tD (dT D) : Int)) hS7 hR7 hD7 hO (by clear hA; omega)
      rw [if_pos n5, if_pos z, grd_t (kI hS7), hR7.2.1, grd_t (kT hR7), grd_t (kI hS7), d3, nm, bnd_some]
      refine ⟨pI (pI (pI (pI (pI (nmW s7 t (tP (dT D) + tD (dT D)) r2 1 (tD (dT D) : Int)) (ad t 2) (tD (dT D)) law) (ad t 3) (tD (dT D)) r5) (ad t 4) (tD (dT D)) r7) (ad t 5) (tD (dT D)) (-2)) (ad t 0) 3 ((tD (dT D) + 1 : Nat) : Int), ?_, ?_, ?_, ?_⟩
      · have gp : (tD (dT D) : Int) < 6 := by clear hA; omega
        have hw := wk1 (k := tD (dT D)) (by clear hA; omega)
        unfold nmW
        simp [tF, isK, shF hS7, hR7.2, hA, gI_pI, d3, gp, hw]
      · exact (fr.T.trans ((((fmA ht _ _ _ _).trans (fmA ht _ _ _ _)).trans (fmA ht _ _ _ _)).trans (fmA ht _ _ _ _))).trans (((((fmA ht _ _ _ _).trans (fmA ht _ _ _ _)).trans (fmA ht _ _ _ _)).trans (fmA ht _ _ _ _)).trans (fmA ht _ _ _ _))
      · exact ((((((((c7'.up ht).up ht).up ht).up ht).up ht).up ht).up ht).up ht).up ht
      · rw [h2, h3, h5, hp2, hp1]; exact hD7.adD _ _ _ _
    · rw [if_neg (fun w => w (c7'.2.2 z).1), if_neg z]
      exact ⟨s7, rfl, fr.T, c7', hD7⟩
  have b71 : ∀ law : Int, law = mlV s2 → ∃ s7, X13_readDead_b71 s2 76 r2 law = some (0, s7) ∧ FmT t s s7 ∧ RdQ n b s7 (lnDead n b D q).1 ∧ MDr s7 t (lnDead n b D q).2 := by
    intro law hlaw
    have hl : (dd2 n b D q).1 = 0 → law = lawN n b (dd2 n b D q).2.2.1 := fun z => hlaw.trans (mlV_l c2' z)
    unfold X13_readDead_b71
    by_cases y : law = -1
    · obtain ⟨s3, g1, g2, g3⟩ := m_flawQ (k := 1) c2' (by decide)
      obtain ⟨s7, e7, f7⟩ := b82 s3 law (f12.trans g2) (by
        by_cases z : (dd2 n b D q).1 = 0
        · have := hl z
          rw [show (!decide (0 ≤ lawN n b (dd2 n b D q).2.2.1)) = true by simp; omega]; exact g3
        · rw [qP_fz z] at g3 ⊢; exact g3) hl
      refine ⟨s7, ?_, f7⟩
      rw [if_neg (fun w => w y), grd_t (kI c2.1), g1, bnd_some]
      exact e7
    · obtain ⟨s7, e7, f7⟩ := b82 s2 law f12 (by
        by_cases z : (dd2 n b D q).1 = 0
        · have hz := hl z
          have : 0 ≤ lawN n b (dd2 n b D q).2.2.1 := by
            have h1 : law = 0 ∨ law = 1 ∨ law = 2 ∨ law = 3 ∨ law = -1 := by
              rw [hz]; unfold lawN
              repeat' split
              all_goals decide
            omega
          rw [qP_t (by simp [this])]; exact c2'
        · rw [qP_fz z]; exact c2') hl
      refine ⟨s7, ?_, f7⟩
      rw [if_pos y]
      exact e7
  have e1' : X13_lineBegins s 76 (tD (dT D) : Int) 6 = some (0, s1) := e1
  unfold X13_readDead
  rw [grd_t (kI hS), hR.2.1, grd_t (kT hR), grd_t (kI hS), hD.1.2.2.2.1, e1', bnd_some, grd_t (kI c1.1), e2, bnd_some, grd_t (kI c2.1), m_isW c2.1 (w := 9) (c := 26) rfl (by decide), bnd_some, grd_t (kI c2.1), m_isW c2.1 (w := 10) (c := 27) rfl (by decide), bnd_some, grd_t (kI c2.1), m_isW c2.1 (w := 11) (c := 28) rfl (by decide), bnd_some, grd_t (kI c2.1), m_isW c2.1 (w := 12) (c := 29) rfl (by decide), bnd_some]
  by_cases v9 : mWv s2 9 = 0
  · rw [if_pos v9]
    by_cases v10 : mWv s2 10 = 0
    · rw [if_pos v10]
      by_cases v11 : mWv s2 11 = 0
      · rw [if_pos v11]
        by_cases v12 : mWv s2 12 = 0
        · rw [if_pos v12]; exact b71 _ (by unfold mlV; simp [v9, v10, v11, v12])
        · rw [if_neg v12]; exact b71 _ (by unfold mlV; simp [v9, v10, v11, v12])
      · rw [if_neg v11]; exact b71 _ (by unfold mlV; simp [v9, v10, v11])
    · rw [if_neg v10]; exact b71 _ (by unfold mlV; simp [v9, v10])
  · rw [if_neg v9]; exact b71 _ (by unfold mlV; simp [v9])
end MLN
