/-! the other lines on the reference; a text read -/
section MLN3
variable {s s1 : St} {n t : Nat} {b : Nat → Int} {q : PQ} {D : DR}
theorem m_lnMirr (h : RdQ n b s q) (hR : RTs s t) (hD : MDr s t D) (hO : DOK D) (h4 : q.1 = 0 → tkK n b q.2.2.1 ≠ 4) : ∃ s1, X13_readMirror s 76 = some (0, s1) ∧ FmT t s s1 ∧ RdQ n b s1 (lnMirr n b D q).1 ∧ MDr s1 t (lnMirr n b D q).2 := by
  have hS := h.1
  have ht := hR.1.1
  have h40 := hO.1.2.2.1
  have hd6 := hO.1.2.2.2.2.2.1
  have w1 : w32 ((tH (dT D) : Int) - 1) = (tH (dT D) : Int) - 1 := w32e (by omega)
  obtain ⟨s1, e1, f1, c1⟩ := m_begin (many := 0) (most := 1) (full := false) h hR hD rfl (fun _ => by decide) h4
  have hR1 := hR.fr f1.1
  have hD1 := hD.fm ht f1
  obtain ⟨r2, s2, e2, f2, c2, v2⟩ := m_known (so := 1) (f := mrF n b D q) (q := mr1 n b D q) c1 hR1 hD1 hO (Or.inr ⟨rfl, rfl⟩)
  have f12 := f1.trans f2
  have hR2 := hR.fr f12.1
  have hD2 := hD.fm ht f12
  have hS2 := c2.1
  have hA2 := adF_ hR2
  have b39 : ∀ s3 : St, Fm s s3 → RdQ n b s3 (qP n b (decide (0 ≤ nMi (tN (dT D)) ((mrF n b D q).getD 0))) 3 (qKa n b (mrF n b D q) (mr1 n b D q))) → ∃ s6, X13_readMirror_b39 s3 76 r2 = some (0, s6) ∧ FmT t s s6 ∧ RdQ n b s6 (lnMirr n b D q).1 ∧ MDr s6 t (lnMirr n b D q).2 := by
    intro s3 f3 c3
    obtain ⟨s4, e4, f4, c4⟩ := m_goQ c3 (fun w => by
      obtain ⟨a1, a2, a3⟩ := qP_l (by decide) w
      obtain ⟨b1, b2, b3, b4⟩ := qKa_l a1
      rw [a3, b4, nm_k4 b2]; decide)
    have c4' : RdQ n b s4 (mr3 n b D q) := qKa_SF (by decide) c4
    have f14 := f3.trans f4
    have hR4 := hR.fr f14.1
    have hD4 := hD.fm ht f14
    obtain ⟨r5, s5, e5, f5, c5, v5⟩ := m_readWhole (lo := 0) (hi := (tH (dT D) : Int) - 1) (q := mr3 n b D q) c4'
    have c5' : RdQ n b s5 (mr4 n b D q) := c5
    have v5' : (mr4 n b D q).1 = 0 → r5 = (tkH n b (mr3 n b D q).2.2.1 : Int) := v5
    have fr := f14.trans f5
    have hR5 := hR.fr fr.1
    have hD5 := hD.fm ht fr
    have hS5 := c5.1
    have hA := adF_ hR5
    unfold X13_readMirror_b39 X13_readMirror_b76
    rw [grd_t (kI c3.1), e4, bnd_some, grd_t (kI c4.1), hR4.2.1, grd_t (kT hR4), grd_t (kI c4.1), hD4.1.1, w1, e5, bnd_some, grd_t (kI hS5)]
    unfold lnMirr
    by_cases z : (mr4 n b D q).1 = 0
    · have n5 : ¬ gI s5 76 9 = 5 := fun w => c5'.nf.1 w z
      obtain ⟨z3, z3h, z3r, -⟩ := qW_l (q := mr3 n b D q) z
      obtain ⟨z2, -, -⟩ := qF_l (q := mr2 n b D q) (by decide) z3
      obtain ⟨z1, z1n, z1s, -⟩ := qKn_l (q := mr1 n b D q) z2
      have h5 := v5' z
      obtain ⟨d, hd1, hd2⟩ := v2 (by
        unfold qKa qNa
        rw [qP_t (c := !nmB n b (mr1 n b D q).2.2.1) (by rw [z1n]; rfl), qP_t (by rw [z1s]; rfl)]
        exact z1)
      have dl := (fnD_s hd1).1
      have gp : (d : Int) < 6 := by clear w1 hA hA2; omega
      rw [if_neg n5, if_pos z]
      refine ⟨pI s5 (ad t 5) d r5, ?_, fr.T.trans (fmA ht _ _ _ _), c5'.up ht, ?_⟩
      · rw [hd2]
        simp [tF, isK, shF hS5, hR5.2, hA, gp]
      · rw [h5, hd1]; exact hD5.adM _
    · rw [if_pos (c5'.2.2 z).1, if_neg z]
      exact ⟨s5, rfl, fr.T, c5', hD5⟩
  have e1' : X13_lineBegins s 76 0 1 = some (0, s1) := e1
  have e2' : X13_knownOne s1 76 1 = some (r2, s2) := e2
  unfold X13_readMirror
  rw [grd_t (kI hS), e1', bnd_some, grd_t (kI c1.1), e2', bnd_some, grd_t (kI hS2)]
  by_cases z : (qKa n b (mrF n b D q) (mr1 n b D q)).1 = 0
  · have n5 : ¬ gI s2 76 9 = 5 := fun w => c2.nf.1 w z
    obtain ⟨d, hd1, hd2⟩ := v2 z
    have dl := (fnD_s hd1).1
    have gp : (d : Int) < 6 := by clear w1 hA2; omega
    have em := (hD2.2.2.1 d dl).2.2
    have hm := (hO.2.2.1.2.2.2 d dl).2
    rw [hd1] at b39
    rw [hd2] at b39
    rw [if_neg n5, grd_t (kI hS2), hR2.2.1, grd_t (kT hR2), hR2.2.2.2.1.2.2.2.2.1, hd2, grd_t (by simp [isK, hR2.2.2, hA2.1, hA2.2.2.1, gp]), Int.toNat_natCast, em]
    have eg : (some d : Option Nat).getD 0 = d := rfl
    rw [eg] at b39
    by_cases y : nMi (tN (dT D)) d = -2
    · rw [if_pos y]
      refine b39 s2 f12 ?_
      rw [qP_t (by rw [y]; decide), ← hd1]; exact c2
    · obtain ⟨s3, g1, g2, g3⟩ := m_flawQ (k := 3) c2 (by decide)
      obtain ⟨s6, e6, f6⟩ := b39 s3 (f12.trans g2) (by
        rw [show decide (0 ≤ nMi (tN (dT D)) d) = true by simp; clear w1 hA2; omega, ← hd1]; exact g3)
      refine ⟨s6, ?_, f6⟩
      rw [if_neg y, grd_t (kI hS2), g1, bnd_some]
      exact e6
  · rw [if_pos (c2.2.2 z).1]
    exact b39 s2 f12 (by rw [qP_fz z]; exact c2)
theorem m_lnUns (h : RdQ n b s q) (hR : RTs s t) (hD : MDr s t D) (hO : DOK D) (h4 : q.1 = 0 → tkK n b q.2.2.1 ≠ 4) : ∃ s1, X13_readUnsure s 76 = some (0, s1) ∧ FmT t s s1 ∧ RdQ n b s1 (lnUns n b D q).1 ∧ MDr s1 t (lnUns n b D q).2 := by
  have hS := h.1
  have ht := hR.1.1
  have hu4 := hO.1.2.2.2.2.2.2.1
  obtain ⟨s1, e1, f1, c1⟩ := m_begin (many := tU (dT D)) (most := 4) (full := decide (4 ≤ tU (dT D))) h hR hD (by rw [decide_eq_decide]; omega) (fun z => by have := (hO.1.1 z).2.2.1; omega) h4
  have hR1 := hR.fr f1.1
  have hD1 := hD.fm ht f1
  obtain ⟨r2, s2, e2, f2, c2, v2⟩ := m_known (so := 1) (f := unF n b D q) (q := un1 n b D q) c1 hR1 hD1 hO (Or.inr ⟨rfl, rfl⟩)
  have f12 := f1.trans f2
  have hR2 := hR.fr f12.1
  have hD2 := hD.fm ht f12
  have hS2 := c2.1
  have b42 : ∀ s3 : St, Fm s s3 → RdQ n b s3 (qP n b (usB D ((unF n b D q).getD 0)) 3 (qKa n b (unF n b D q) (un1 n b D q))) → ∃ s6, X13_readUnsure_b42 s3 76 r2 = some (0, s6) ∧ FmT t s s6 ∧ RdQ n b s6 (lnUns n b D q).1 ∧ MDr s6 t (lnUns n b D q).2 := by
    intro s3 f3 c3
    obtain ⟨s4, e4, f4, c4⟩ := m_goQ c3 (fun w => by
      obtain ⟨a1, a2, a3⟩ := qP_l (by decide) w
      obtain ⟨b1, b2, b3, b4⟩ := qKa_l a1
      rw [a3, b4, nm_k4 b2]; decide)
    have c4' : RdQ n b s4 (un3 n b D q) := qKa_SF (by decide) c4
    have f14 := f3.trans f4
    obtain ⟨r5, s5, e5, f5, c5, v5⟩ := m_readWhole (lo := 0) (hi := 39) (q := un3 n b D q) c4'
    have c5' : RdQ n b s5 (un4 n b D q) := c5
    have v5' : (un4 n b D q).1 = 0 → r5 = (tkH n b (un3 n b D q).2.2.1 : Int) := v5
    have fr := f14.trans f5
    have hR5 := hR.fr fr.1
    have hD5 := hD.fm ht fr
    have hS5 := c5.1
    have hA := adF_ hR5
    unfold X13_readUnsure_b42
    rw [grd_t (kI c3.1), e4, bnd_some, grd_t (kI c4.1), e5, bnd_some, grd_t (kI hS5)]
    unfold lnUns
    by_cases z : (un4 n b D q).1 = 0
    · have n5 : ¬ gI s5 76 9 = 5 := fun w => c5'.nf.1 w z
      obtain ⟨z3, z3h, z3r, -⟩ := qW_l (q := un3 n b D q) z
      obtain ⟨z2, -, -⟩ := qF_l (q := un2 n b D q) (by decide) z3
      obtain ⟨z1, z1n, z1s, -⟩ := qKn_l (q := un1 n b D q) z2
      obtain ⟨z0, -, zf, -⟩ := qB_l (q := q) z1
      have pf : tU (dT D) < 4 := by simpa using zf
      have h5 := v5' z
      obtain ⟨d, hd1, hd2⟩ := v2 (by
        unfold qKa qNa
        rw [qP_t (c := !nmB n b (un1 n b D q).2.2.1) (by rw [z1n]; rfl), qP_t (by rw [z1s]; rfl)]
        exact z1)
      have d5 := hD5.1.2.2.2.2.1
      have gp : (tU (dT D) : Int) < 4 := by clear hA; omega
      have hw := wk1 (k := tU (dT D)) (by clear hA; omega)
      rw [if_pos n5, if_pos z]
      refine ⟨pI (pI (pI s5 (ad t 6) (tU (dT D)) r2) (ad t 7) (tU (dT D)) r5) (ad t 0) 5 ((tU (dT D) + 1 : Nat) : Int), ?_, fr.T.trans (((fmA ht _ _ _ _).trans (fmA ht _ _ _ _)).trans (fmA ht _ _ _ _)), ((c5'.up ht).up ht).up ht, ?_⟩
      · simp [tF, isK, shF hS5, hR5.2, hA, gI_pI, d5, gp, hw]
      · rw [h5, hd2, hd1]; exact hD5.adU _ _
    · rw [if_neg (fun w => w (c5'.2.2 z).1), if_neg z]
      exact ⟨s5, rfl, fr.T, c5', hD5⟩
  have e1' : X13_lineBegins s 76 (tU (dT D) : Int) 4 = some (0, s1) := e1
  have e2' : X13_knownOne s1 76 1 = some (r2, s2) := e2
  unfold X13_readUnsure
  rw [grd_t (kI hS), hR.2.1, grd_t (kT hR), grd_t (kI hS), hD.1.2.2.2.2.1, e1', bnd_some, grd_t (kI c1.1), e2', bnd_some, grd_t (kI hS2)]
  by_cases z : (qKa n b (unF n b D q) (un1 n b D q)).1 = 0
  · have n5 : ¬ gI s2 76 9 = 5 := fun w => c2.nf.1 w z
    obtain ⟨d, hd1, hd2⟩ := v2 z
    rw [hd1] at b42
    rw [hd2] at b42
    rw [if_neg n5, grd_t (kI hS2), hR2.2.1, grd_t (kT hR2), hd2, m_unsure hR2 hD2 hO, bnd_some]
    have eg : (some d : Option Nat).getD 0 = d := rfl
    rw [eg] at b42
    by_cases y : usB D d = true
    · obtain ⟨s3, g1, g2, g3⟩ := m_flawQ (k := 3) c2 (by decide)
      obtain ⟨s6, e6, f6⟩ := b42 s3 (f12.trans g2) (by rw [y, ← hd1]; exact g3)
      refine ⟨s6, ?_, f6⟩
      rw [if_pos y, if_neg (by decide), grd_t (kI hS2), g1, bnd_some]
      exact e6
    · obtain ⟨s6, e6, f6⟩ := b42 s2 f12 (by rw [qP_t (by simpa using y), ← hd1]; exact c2)
      refine ⟨s6, ?_, f6⟩
      rw [if_neg y, if_pos rfl]
      exact e6
  · rw [if_pos (c2.2.2 z).1]
    exact b42 s2 f12 (by rw [qP_fz z]; exact c2)
theorem m_lnHeard (h : RdQ n b s q) (hR : RTs s t) (hD : MDr s t D) (hO : DOK D) (h4 : q.1 = 0 → tkK n b q.2.2.1 ≠ 4) : ∃ s1, X13_readHeard s 76 = some (0, s1) ∧ FmT t s s1 ∧ RdQ n b s1 (lnHeard n b D q).1 ∧ MDr s1 t (lnHeard n b D q).2 := by
  have hS := h.1
  have ht := hR.1.1
  have hu8 := hO.1.2.2.2.2.2.2.2
  obtain ⟨s1, e1, f1, c1⟩ := m_begin (many := tQ (dT D)) (most := 8) (full := decide (8 ≤ tQ (dT D))) h hR hD (by rw [decide_eq_decide]; omega) (fun z => by have := (hO.1.1 z).2.2.2; omega) h4
  have hR1 := hR.fr f1.1
  have hD1 := hD.fm ht f1
  obtain ⟨r2, s2, e2, f2, c2, v2⟩ := m_rknown (so := 0) (f := heF n b D q) (q := he1 n b D q) c1 hR1 hD1 hO (Or.inl ⟨rfl, rfl⟩)
  have c2' : RdQ n b s2 (he2 n b D q) := c2
  have v2' : (he2 n b D q).1 = 0 → ∃ p, heF n b D q = some p ∧ r2 = (p : Int) := v2
  have f12 := f1.trans f2
  obtain ⟨r3, s3, e3, f3, c3, v3⟩ := m_rknown (so := 1) (f := heG n b D q) (q := he2 n b D q) c2' (hR.fr f12.1) (hD.fm ht f12) hO (Or.inr ⟨rfl, rfl⟩)
  have c3' : RdQ n b s3 (he3 n b D q) := c3
  have v3' : (he3 n b D q).1 = 0 → ∃ p, heG n b D q = some p ∧ r3 = (p : Int) := v3
  obtain ⟨s4, e4, f4, c4⟩ := m_needs (w := 15) (c := 32) (q := he3 n b D q) c3' rfl (by decide)
  obtain ⟨r5, s5, e5, f5, c5, v5⟩ := m_wholeAt (lo := 0) (hi := 60) (q := he4 n b D q) c4
  have f15 := ((f12.trans f3).trans f4).trans f5
  have hR5 := hR.fr f15.1
  have hD5 := hD.fm ht f15
  have hS5 := c5.1
  have b65 : ∀ s6 : St, Fm s s6 → RdQ n b s6 (qP n b (hdB D ((heG n b D q).getD 0) (tkH n b (he4 n b D q).2.2.1 : Int)) 3 (qWa n b 0 60 (he4 n b D q))) → ∃ s7, X13_readHeard_b65 s6 76 r2 r3 r5 = some (0, s7) ∧ FmT t s s7 ∧ RdQ n b s7 (lnHeard n b D q).1 ∧ MDr s7 t (lnHeard n b D q).2 := by
    intro s6 f6 c6
    obtain ⟨s7, e7, f7, c7⟩ := m_goQ c6 (fun w => by
      obtain ⟨a1, a2, a3⟩ := qP_l (by decide) w
      obtain ⟨b1, b2, b3, b4⟩ := qWa_l a1
      rw [a3, b4]; unfold hB at b2; simp at b2; omega)
    have c7' : RdQ n b s7 (he6 n b D q) := qWa_SF (by decide) c7
    have fr := f6.trans f7
    have hR7 := hR.fr fr.1
    have hD7 := hD.fm ht fr
    have hS7 := c7.1
    have hA := adF_ hR7
    unfold X13_readHeard_b65
    rw [grd_t (kI c6.1), e7, bnd_some, grd_t (kI hS7)]
    unfold lnHeard
    by_cases z : (he6 n b D q).1 = 0
    · have n5 : ¬ gI s7 76 9 = 5 := fun w => c7'.nf.1 w z
      obtain ⟨z5, -, -⟩ := qF_l (q := he5 n b D q) (by decide) z
      obtain ⟨z4, z4h, z4r, -⟩ := qW_l (q := he4 n b D q) z5
      obtain ⟨z3, -, -⟩ := qS_l (q := he3 n b D q) z4
      obtain ⟨z2, -, -, -⟩ := qKn_l (q := he2 n b D q) z3
      obtain ⟨z1, -, -, -⟩ := qKn_l (q := he1 n b D q) z2
      obtain ⟨z0, -, zf, -⟩ := qB_l (q := q) z1
      have pf : tQ (dT D) < 8 := by simpa using zf
      have h5 := v5 (by unfold qWa; rw [qP_t (c := !hB n b (he4 n b D q).2.2.1) (by rw [z4h]; rfl), qP_t (by simp only [decide_eq_true z4r]; rfl)]; exact z4)
      obtain ⟨p, hp1, hp2⟩ := v2' z2
      obtain ⟨d, hd1, hd2⟩ := v3' z3
      have d6 := hD7.1.2.2.2.2.2.1
      have gp : (tQ (dT D) : Int) < 8 := by clear hA; omega
      have hw := wk1 (k := tQ (dT D)) (by clear hA; omega)
      rw [if_pos n5, if_pos z]
      refine ⟨pI (pI (pI (pI s7 (ad t 8) (tQ (dT D)) r2) (ad t 9) (tQ (dT D)) r3) (ad t 10) (tQ (dT D)) r5) (ad t 0) 6 ((tQ (dT D) + 1 : Nat) : Int), ?_, fr.T.trans ((((fmA ht _ _ _ _).trans (fmA ht _ _ _ _)).trans (fmA ht _ _ _ _)).trans (fmA ht _ _ _ _)), (((c7'.up ht).up ht).up ht).up ht, ?_⟩
      · simp [tF, isK, shF hS7, hR7.2, hA, gI_pI, d6, gp, hw]
      · rw [h5, hd2, hp2, hp1, hd1]; exact hD7.adQ _ _ _
    · rw [if_neg (fun w => w (c7'.2.2 z).1), if_neg z]
      exact ⟨s7, rfl, fr.T, c7', hD7⟩
  have e1' : X13_lineBegins s 76 (tQ (dT D) : Int) 8 = some (0, s1) := e1
  have e2' : X13_readKnown s1 76 0 = some (r2, s2) := e2
  have e3' : X13_readKnown s2 76 1 = some (r3, s3) := e3
  unfold X13_readHeard
  rw [grd_t (kI hS), hR.2.1, grd_t (kT hR), grd_t (kI hS), hD.1.2.2.2.2.2.1, e1', bnd_some, grd_t (kI c1.1), e2', bnd_some, grd_t (kI c2.1), e3', bnd_some, grd_t (kI c3.1), e4, bnd_some, grd_t (kI c4.1), e5, bnd_some, grd_t (kI hS5)]
  by_cases z : (qWa n b 0 60 (he4 n b D q)).1 = 0
  · have n5 : ¬ gI s5 76 9 = 5 := fun w => c5.nf.1 w z
    obtain ⟨z4, z4h, z4r, -⟩ := qWa_l z
    obtain ⟨z3, -, -⟩ := qS_l (q := he3 n b D q) z4
    obtain ⟨d, hd1, hd2⟩ := v3' z3
    have h5 := v5 z
    rw [hd1, hd2, h5] at b65
    have eg : (some d : Option Nat).getD 0 = d := rfl
    rw [eg] at b65
    rw [if_neg n5, grd_t (kI hS5), hR5.2.1, grd_t (kT hR5), hd2, h5, m_heardB hR5 hD5 hO, bnd_some]
    by_cases y : hdB D d (tkH n b (he4 n b D q).2.2.1 : Int) = true
    · obtain ⟨s6, g1, g2, g3⟩ := m_flawQ (k := 3) c5 (by decide)
      obtain ⟨s7, e7, f7⟩ := b65 s6 (f15.trans g2) (by rw [y]; exact g3)
      refine ⟨s7, ?_, f7⟩
      rw [if_pos y, if_neg (by decide), grd_t (kI hS5), g1, bnd_some]
      exact e7
    · obtain ⟨s7, e7, f7⟩ := b65 s5 f15 (by rw [qP_t (by simpa using y)]; exact c5)
      refine ⟨s7, ?_, f7⟩
      rw [if_neg y, if_pos rfl]
      exact e7
  · rw [if_pos (c5.2.2 z).1]
    exact b65 s5 f15 (by rw [qP_fz z]; exact c5)
theorem m_lnAny (h : RdQ n b s q) (hR : RTs s t) (hD : MDr s t D) (hO : DOK D) : ∃ s1, X13_readLine s 76 = some (0, s1) ∧ FmT t s s1 ∧ RdQ n b s1 (lnAny n b D q).1 ∧ MDr s1 t (lnAny n b D q).2 := by
  have hS := h.1
  have ht := hR.1.1
  have kk := kI hS
  have n10 : ¬ (1 : Int) = 0 := by decide
  unfold X13_readLine X13_readLine_b101
  rw [grd_t kk, m_isW hS (w := 0) (c := 17) rfl (by decide), bnd_some, grd_t kk, m_isW hS (w := 3) (c := 20) rfl (by decide), bnd_some, grd_t kk, m_isW hS (w := 4) (c := 21) rfl (by decide), bnd_some, grd_t kk, m_isW hS (w := 5) (c := 22) rfl (by decide), bnd_some, grd_t kk, m_isW hS (w := 6) (c := 23) rfl (by decide), bnd_some, grd_t kk, m_isW hS (w := 7) (c := 24) rfl (by decide), bnd_some]
  by_cases z : q.1 = 0
  · have iw : ∀ w, (wB n b w q.2.2.1 = true → mWv s w = 1) ∧ (¬ wB n b w q.2.2.1 = true → mWv s w = 0) := fun w => ⟨fun y => by rw [m_isWl h z, if_pos y], fun y => by rw [m_isWl h z, if_neg y]⟩
    have k4 : ∀ w, wB n b w q.2.2.1 = true → q.1 = 0 → tkK n b q.2.2.1 ≠ 4 := fun w hw _ => by unfold wB at hw; simp at hw; omega
    have el : lnAny n b D q = if wB n b 0 q.2.2.1 = true then lnTown n b D q else if wB n b 3 q.2.2.1 = true then lnPers n b D q else if wB n b 4 q.2.2.1 = true then lnDead n b D q else if wB n b 5 q.2.2.1 = true then lnMirr n b D q else if wB n b 6 q.2.2.1 = true then lnUns n b D q else if wB n b 7 q.2.2.1 = true then lnHeard n b D q else (qP n b true 1 q, D) := if_neg (fun w => w z)
    rw [el]
    by_cases y0 : wB n b 0 q.2.2.1 = true
    · obtain ⟨s1, e1, e2⟩ := m_lnTown h hR hD (k4 0 y0)
      rw [(iw 0).1 y0, if_neg n10, if_pos y0, grd_t kk, e1, bnd_some]
      exact ⟨s1, rfl, e2⟩
    · rw [(iw 0).2 y0, if_pos rfl, if_neg y0]
      by_cases y3 : wB n b 3 q.2.2.1 = true
      · obtain ⟨s1, e1, e2⟩ := m_lnPers h hR hD hO (k4 3 y3)
        rw [(iw 3).1 y3, if_neg n10, if_pos y3, grd_t kk, e1, bnd_some]
        exact ⟨s1, rfl, e2⟩
      · rw [(iw 3).2 y3, if_pos rfl, if_neg y3]
        by_cases y4 : wB n b 4 q.2.2.1 = true
        · obtain ⟨s1, e1, e2⟩ := m_lnDead h hR hD hO (k4 4 y4)
          rw [(iw 4).1 y4, if_neg n10, if_pos y4, grd_t kk, e1, bnd_some]
          exact ⟨s1, rfl, e2⟩
        · rw [(iw 4).2 y4, if_pos rfl, if_neg y4]
          by_cases y5 : wB n b 5 q.2.2.1 = true
          · obtain ⟨s1, e1, e2⟩ := m_lnMirr h hR hD hO (k4 5 y5)
            rw [(iw 5).1 y5, if_neg n10, if_pos y5, grd_t kk, e1, bnd_some]
            exact ⟨s1, rfl, e2⟩
          · rw [(iw 5).2 y5, if_pos rfl, if_neg y5]
            by_cases y6 : wB n b 6 q.2.2.1 = true
            · obtain ⟨s1, e1, e2⟩ := m_lnUns h hR hD hO (k4 6 y6)
              rw [(iw 6).1 y6, if_neg n10, if_pos y6, grd_t kk, e1, bnd_some]
              exact ⟨s1, rfl, e2⟩
            · rw [(iw 6).2 y6, if_pos rfl, if_neg y6]
              by_cases y7 : wB n b 7 q.2.2.1 = true
              · obtain ⟨s1, e1, e2⟩ := m_lnHeard h hR hD hO (k4 7 y7)
                rw [(iw 7).1 y7, if_neg n10, if_pos y7, grd_t kk, e1, bnd_some]
                exact ⟨s1, rfl, e2⟩
              · obtain ⟨s1, g1, g2, g3⟩ := m_flawQ (k := 1) h (by decide)
                rw [(iw 7).2 y7, if_pos rfl, if_neg y7, grd_t kk, g1, bnd_some]
                exact ⟨s1, rfl, g2.T, g3, hD.fm ht g2⟩
  · have iw : ∀ w, mWv s w = 0 := fun w => m_isWf h z
    have el : lnAny n b D q = (q, D) := if_pos z
    obtain ⟨s1, g1, g2, g3⟩ := m_flawQ (k := 1) h (by decide)
    rw [qP_fz z] at g3
    rw [el, iw, if_pos rfl, iw, if_pos rfl, iw, if_pos rfl, iw, if_pos rfl, iw, if_pos rfl, iw, if_pos rfl, grd_t kk, g1, bnd_some]
    exact ⟨s1, rfl, g2.T, g3, hD.fm ht g2⟩
theorem m_semi (h : RdQ n b s q) : ∃ s1, X13_eatsSemicolon s 76 = some (if q.1 = 0 ∧ tkK n b q.2.2.1 = 3 then 1 else 0, s1) ∧ Fm s s1 ∧ RdQ n b s1 (if q.1 = 0 ∧ tkK n b q.2.2.1 = 3 then qS n b true q else q) := by
  have hS := h.1
  have kk := kI hS
  have i4 : gI s 76 9 = 4 ↔ q.1 = 0 ∧ tkK n b q.2.2.1 = 3 := by
    by_cases z : q.1 = 0
    · rw [(h.2.1 z).1.2.2.1, (srt_5 _).2.2.2.1]
      exact ⟨fun w => ⟨z, w⟩, fun w => w.2⟩
    · rw [(h.2.2 z).1]
      exact ⟨fun w => absurd w (by decide), fun w => absurd w.1 z⟩
  unfold X13_eatsSemicolon X13_eatsSemicolon_b13 X13_eatsSemicolon_b22
  by_cases y : gI s 76 9 = 4
  · have y2 := i4.1 y
    obtain ⟨s1, e1, f1, c1⟩ := m_goQ h (fun _ => by rw [y2.2]; decide)
    refine ⟨s1, ?_, f1, ?_⟩
    · rw [grd_t kk, if_neg (fun w => w y), if_neg (by decide), grd_t kk, e1, bnd_some, grd_t (by decide), if_pos y2]
    · rw [if_pos y2]; exact c1
  · have y2 : ¬ (q.1 = 0 ∧ tkK n b q.2.2.1 = 3) := fun w => y (i4.2 w)
    refine ⟨s, ?_, Fm.refl s, ?_⟩
    · rw [grd_t kk, if_pos y, if_pos rfl, grd_t (by decide), if_neg y2]
    · rw [if_neg y2]; exact h
/-- the loop over lines, from behind a line on -/
theorem m_rest (h8 : n ≤ 800) : ∀ (m fuel : Nat) (s : St) (x : PQ × DR), m < fuel → (x.1.1 = 0 → n ≤ x.1.2.2.1 + m ∧ x.1.2.2.1 ≤ n) → RdQ n b s x.1 → RTs s t → MDr s t x.2 → DOK x.2 → ∃ s1, bnd (X13_eatsSemicolon s 76) (fun r7 s8 => X13_readAll_b2 fuel s8 76 r7) = some (0, s1) ∧ FmT t s s1 ∧ RdQ n b s1 (fin6 n b (rdl n b m x)).1 ∧ MDr s1 t (fin6 n b (rdl n b m x)).2 ∧ RTs s1 t
  | m, 0, s, x, hf, hi, h, hR, hD, hO => absurd hf (Nat.not_lt_zero _)
  | m, g + 1, s, x, hf, hi, h, hR, hD, hO => by
    have ht := hR.1.1
    obtain ⟨s1, e1, f1, c1⟩ := m_semi h
    have hR1 := hR.fr f1.1
    have hD1 := hD.fm ht f1
    have hS1 := c1.1
    have b31 : ∀ (s2 : St) (y : PQ × DR), Fm s s2 → RdQ n b s2 y.1 → MDr s2 t y.2 → ∃ s3, X13_readAll_b31 s2 76 = some (0, s3) ∧ FmT t s s3 ∧ RdQ n b s3 (fin6 n b y).1 ∧ MDr s3 t (fin6 n b y).2 ∧ RTs s3 t := by
      intro s2 y f2 c2 d2
      have hR2 := hR.fr f2.1
      unfold X13_readAll_b31 X13_readAll_b47
      rw [grd_t (kI c2.1), hR2.2.1, grd_t (kT hR2), d2.1.2.2.1]
      by_cases z : tP (dT y.2) = 0
      · obtain ⟨s3, g1, g2, g3⟩ := m_flawQ (k := 6) c2 (by decide)
        refine ⟨s3, ?_, (f2.trans g2).T, ?_, d2.fm ht g2, hR2.fr g2.1⟩
        · rw [if_neg (by omega), grd_t (kI c2.1), g1, bnd_some]
        · unfold fin6; rw [show decide (tP (dT y.2) = 0) = true by simp [z]]; exact g3
      · refine ⟨s2, ?_, f2.T, ?_, d2, hR2⟩
        · rw [if_pos (by omega)]
        · unfold fin6; rw [qP_t (by simp [z])]; exact c2
    rw [e1, bnd_some, X13_readAll_b2_1]
    unfold X13_readAll_b2_body
    by_cases z : x.1.1 = 0 ∧ tkK n b x.1.2.2.1 = 3
    · rw [if_pos z] at c1
      rw [if_pos z, if_neg (by decide), grd_t (kI hS1)]
      obtain ⟨hi1, hi2⟩ := hi z.1
      have hx := tkX_ok (b := b) hi2
      have hlt := hx.2.2 (by rw [z.2]; decide)
      cases m with
      | zero => exfalso; omega
      | succ m =>
        have er : rdl n b (m + 1) x = rdl n b m (lnAny n b x.2 (qS n b true x.1)) := by
          show (if x.1.1 ≠ 0 ∨ tkK n b x.1.2.2.1 = 0 then x else rdl n b m (lnAny n b x.2 (qS n b (decide (tkK n b x.1.2.2.1 = 3)) x.1))) = _
          rw [if_neg (fun w => w.elim (fun v => v z.1) (fun v => by omega)), show decide (tkK n b x.1.2.2.1 = 3) = true by simp [z.2]]
        have qi : (qS n b true x.1).2.2.1 = tkX n b x.1.2.2.1 := by unfold qS; rw [if_pos z.1, if_pos rfl]
        obtain ⟨s2, e2, f2, c2, d2⟩ := m_lnAny c1 hR1 hD1 hO
        have hg := g_lnAny (n := n) (b := b) (q := qS n b true x.1) hO (fun _ => by rw [qi]; exact hx.2.1)
        obtain ⟨s3, e3, f3, c3⟩ := m_rest h8 m g s2 _ (by omega) (fun w => by
          obtain ⟨g1, g2, g3⟩ := hg.2 w
          rw [qi] at g2
          omega) c2 (hR1.fr f2.1) d2 hg.1
        refine ⟨s3, ?_, (f1.T.trans f2).trans f3, ?_⟩
        · rw [e2, bnd_some, grd_t (kI c2.1)]
          exact e3
        · rw [er]; exact c3
    · rw [if_neg z] at c1
      rw [if_neg z, if_pos rfl, grd_t (kI hS1)]
      by_cases z0 : x.1.1 = 0
      · by_cases k0 : tkK n b x.1.2.2.1 = 0
        · have er : rdl n b m x = x := by
            cases m with
            | zero => rfl
            | succ m => exact if_pos (Or.inr k0)
          have e9 : gI s1 76 9 = 1 := by rw [(c1.2.1 z0).1.2.2.1]; exact (srt_5 _).2.2.2.2.2 k0
          obtain ⟨s3, e3, e4⟩ := b31 s1 x f1 c1 hD1
          refine ⟨s3, ?_, ?_⟩
          · rw [if_pos e9]; exact e3
          · rw [er]; exact e4
        · have e9 : ¬ gI s1 76 9 = 1 := by rw [(c1.2.1 z0).1.2.2.1]; exact fun w => k0 ((srt_5 _).2.2.2.2.1 w)
          obtain ⟨s2, g1, g2, g3⟩ := m_flawQ (k := 1) c1 (by decide)
          obtain ⟨s3, e3, e4⟩ := b31 s2 (qP n b true 1 x.1, x.2) (f1.trans g2) g3 (hD1.fm ht g2)
          obtain ⟨hi1, hi2⟩ := hi z0
          cases m with
          | zero =>
            exfalso
            have hx := tkX_ok (b := b) hi2
            have := hx.2.2 k0
            omega
          | succ m =>
            have nz := qP1_nz (n := n) (b := b) (q := x.1) (k := 1) z0 (by decide)
            have er : rdl n b (m + 1) x = (qP n b true 1 x.1, x.2) := by
              show (if x.1.1 ≠ 0 ∨ tkK n b x.1.2.2.1 = 0 then x else rdl n b m (lnAny n b x.2 (qS n b (decide (tkK n b x.1.2.2.1 = 3)) x.1))) = _
              rw [if_neg (fun w => w.elim (fun v => v z0) k0), qS_w z0 (by simp; exact fun w => z ⟨z0, w⟩)]
              have el : lnAny n b x.2 (qP n b true 1 x.1) = (qP n b true 1 x.1, x.2) := if_pos nz
              rw [el]
              cases m with
              | zero => rfl
              | succ m => exact if_pos (Or.inl nz)
            refine ⟨s3, ?_, ?_⟩
            · rw [if_neg e9, grd_t (kI hS1), g1, bnd_some]; exact e3
            · rw [er]; exact e4
      · have er : rdl n b m x = x := by
          cases m with
          | zero => rfl
          | succ m => exact if_pos (Or.inl z0)
        have e9 : ¬ gI s1 76 9 = 1 := by rw [(c1.2.2 z0).1]; decide
        obtain ⟨s2, g1, g2, g3⟩ := m_flawQ (k := 1) c1 (by decide)
        rw [qP_fz z0] at g3
        obtain ⟨s3, e3, e4⟩ := b31 s2 x (f1.trans g2) g3 (hD1.fm ht g2)
        refine ⟨s3, ?_, ?_⟩
        · rw [if_neg e9, grd_t (kI hS1), g1, bnd_some]; exact e3
        · rw [er]; exact e4
theorem m_readAll {l : Int} (h8 : n ≤ 800) (h : RdQ n b s (0, -1, 0, l)) (hR : RTs s t) (hD : MDr s t D0) : ∃ s1, X13_readAll s 76 = some (0, s1) ∧ FmT t s s1 ∧ RdQ n b s1 (rdA n b l).1 ∧ MDr s1 t (rdA n b l).2 ∧ RTs s1 t := by
  obtain ⟨s1, e1, f1, c1, d1⟩ := m_lnAny h hR hD DOK0
  have hg := g_lnAny (n := n) (b := b) (q := (0, -1, 0, l)) DOK0 (fun _ => Nat.zero_le _)
  obtain ⟨s2, e2, f2, c2⟩ := m_rest h8 n 5999 s1 _ (by omega) (fun w => by
    obtain ⟨g1, g2, g3⟩ := hg.2 w
    omega) c1 (hR.fr f1.1) d1 hg.1
  refine ⟨s2, ?_, f1.trans f2, c2⟩
  unfold X13_readAll
  rw [show FU = 5999 + 1 from rfl, X13_readAll_b2_1]
  unfold X13_readAll_b2_body
  rw [if_neg (by decide), grd_t (kI h.1), e1, bnd_some, grd_t (kI c1.1)]
  exact e2
end MLN3
