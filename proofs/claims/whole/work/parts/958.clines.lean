/-! the lines on the class -/
section SPEC
variable (n : Nat) (b : Nat → Int) (D : DR) (q : PQ)
def tkB (D : DR) (h : Int) : Bool := (fnd (fun p => decide (nHo (tN (dT D)) p = h)) (tP (dT D))).isSome
def usB (D : DR) (d : Nat) : Bool := (fnd (fun k => decide (tUd (dT D) k = d)) (tU (dT D))).isSome
def hdB (D : DR) (d : Nat) (nt : Int) : Bool := (fnd (fun k => decide (tQd (dT D) k = d ∧ tQn (dT D) k = nt)) (tQ (dT D))).isSome
def tw1 : PQ := qS n b true (qP n b (decide (tH (dT D) ≠ 0)) 3 q)
def tw2 : PQ := qS n b (wB n b 1 (tw1 n b D q).2.2.1) (tw1 n b D q)
def tw3 : PQ := qW n b 2 40 (tw2 n b D q)
def tw4 : PQ := qS n b (wB n b 2 (tw3 n b D q).2.2.1) (tw3 n b D q)
def tw5 : PQ := qW n b 0 100 (tw4 n b D q)
def lnTown : PQ × DR := (tw5 n b D q, if (tw5 n b D q).1 = 0 then adT D (tkH n b (tw2 n b D q).2.2.1) (tkH n b (tw4 n b D q).2.2.1) else D)
def pr1 : PQ := qB n b D (decide (6 ≤ tP (dT D))) q
def pr2 : PQ := qNew n b D (pr1 n b D q)
def pr3 : PQ := qS n b (wB n b 8 (pr2 n b D q).2.2.1) (pr2 n b D q)
def pr4 : PQ := qW n b 0 ((tH (dT D) : Int) - 1) (pr3 n b D q)
def pr5 : PQ := qF (tkB D (tkH n b (pr3 n b D q).2.2.1 : Int)) 3 (pr4 n b D q)
def lnPers : PQ × DR := (pr5 n b D q, if (pr5 n b D q).1 = 0 then adP D (tkY n b (pr1 n b D q).2.2.1) (tkH n b (pr3 n b D q).2.2.1 : Int) else D)
def dd1 : PQ := qB n b D (decide (6 ≤ tD (dT D))) q
def dd2 : PQ := qNew n b D (dd1 n b D q)
def dd3 : PQ := qS n b (decide (0 ≤ lawN n b (dd2 n b D q).2.2.1)) (dd2 n b D q)
def dd4 : PQ := qS n b (wB n b 13 (dd3 n b D q).2.2.1) (dd3 n b D q)
def dd5 : PQ := qW n b 0 39 (dd4 n b D q)
def dd6 : PQ := qS n b (wB n b 14 (dd5 n b D q).2.2.1) (dd5 n b D q)
def dd7 : PQ := qKn n b (fnP D (tkY n b (dd6 n b D q).2.2.1)) (dd6 n b D q)
def lnDead : PQ × DR := (dd7 n b D q, if (dd7 n b D q).1 = 0 then adD D (tkY n b (dd1 n b D q).2.2.1) (lawN n b (dd2 n b D q).2.2.1) (tkH n b (dd4 n b D q).2.2.1 : Int) ((fnP D (tkY n b (dd6 n b D q).2.2.1)).getD 0) else D)
def mr1 : PQ := qB n b D false q
def mrF : Option Nat := fnD D (tkY n b (mr1 n b D q).2.2.1)
def mr2 : PQ := qKn n b (mrF n b D q) (mr1 n b D q)
def mr3 : PQ := qF (decide (0 ≤ nMi (tN (dT D)) ((mrF n b D q).getD 0))) 3 (mr2 n b D q)
def mr4 : PQ := qW n b 0 ((tH (dT D) : Int) - 1) (mr3 n b D q)
def lnMirr : PQ × DR := (mr4 n b D q, if (mr4 n b D q).1 = 0 then adM D ((mrF n b D q).getD 0) (tkH n b (mr3 n b D q).2.2.1 : Int) else D)
def un1 : PQ := qB n b D (decide (4 ≤ tU (dT D))) q
def unF : Option Nat := fnD D (tkY n b (un1 n b D q).2.2.1)
def un2 : PQ := qKn n b (unF n b D q) (un1 n b D q)
def un3 : PQ := qF (usB D ((unF n b D q).getD 0)) 3 (un2 n b D q)
def un4 : PQ := qW n b 0 39 (un3 n b D q)
def lnUns : PQ × DR := (un4 n b D q, if (un4 n b D q).1 = 0 then adU D ((unF n b D q).getD 0) (tkH n b (un3 n b D q).2.2.1 : Int) else D)
def he1 : PQ := qB n b D (decide (8 ≤ tQ (dT D))) q
def heF : Option Nat := fnP D (tkY n b (he1 n b D q).2.2.1)
def he2 : PQ := qKn n b (heF n b D q) (he1 n b D q)
def heG : Option Nat := fnD D (tkY n b (he2 n b D q).2.2.1)
def he3 : PQ := qKn n b (heG n b D q) (he2 n b D q)
def he4 : PQ := qS n b (wB n b 15 (he3 n b D q).2.2.1) (he3 n b D q)
def he5 : PQ := qW n b 0 60 (he4 n b D q)
def he6 : PQ := qF (hdB D ((heG n b D q).getD 0) (tkH n b (he4 n b D q).2.2.1 : Int)) 3 (he5 n b D q)
def lnHeard : PQ × DR := (he6 n b D q, if (he6 n b D q).1 = 0 then adQ D (((heF n b D q).getD 0 : Nat) : Int) ((heG n b D q).getD 0) (tkH n b (he4 n b D q).2.2.1 : Int) else D)
def lnAny : PQ × DR := if q.1 ≠ 0 then (q, D) else if wB n b 0 q.2.2.1 = true then lnTown n b D q else if wB n b 3 q.2.2.1 = true then lnPers n b D q else if wB n b 4 q.2.2.1 = true then lnDead n b D q else if wB n b 5 q.2.2.1 = true then lnMirr n b D q else if wB n b 6 q.2.2.1 = true then lnUns n b D q else if wB n b 7 q.2.2.1 = true then lnHeard n b D q else (qP n b true 1 q, D)
end SPEC
def cR (a : Nat) : Prop := 2 ≤ a ∧ a ≤ 18 ∧ a ≠ 4
section CLINES
variable {s s1 : St} {n : Nat} {b : Nat → Int} {q : PQ} {D : DR}
theorem cTR (h : Fr cT s s1) : Fr cR s s1 := h.mono (fun a ha => by unfold cT at ha; unfold cR; omega)
theorem CQ.up (h : CQ n b s q) {a : Int} {k : Nat} {x : Int} (ha : a.toNat ≠ 1 ∧ a.toNat ≠ 2 ∧ a.toNat ≠ 15) : CQ n b (pI s a k x) q := h.fr (L := fun c => c = a.toNat) (Fr_pI rfl) ⟨fun z => ha.1 z.symm, fun z => ha.2.1 z.symm, fun z => ha.2.2 z.symm⟩
theorem frR {a : Int} {k : Nat} {x : Int} (ha : 2 ≤ a.toNat ∧ a.toNat ≤ 18 ∧ a.toNat ≠ 4) : Fr cR s (pI s a k x) := Fr_pI ha
theorem c_taken {h : Int} (hS : Sh s) (hD : CDr s D) (hO : DOK D) : X9_isTaken s 3 h = some (if tkB D h = true then 1 else 0, s) := by
  have p6 := hO.1.2.2.2.2.1
  unfold X9_isTaken X9_isTaken_b2
  refine (iter_fnd (fun k : Nat => (s, (3 : Int), h, (k : Int))) (tP (dT D)) (fun p => decide (nHo (tN (dT D)) p = h)) (fun k => some (1, s)) (some (0, s)) FU (by unfold FU; omega) (fun k hk rec => ?_) (fun rec => ?_)).trans ?_
  · have g1 : ¬ tP (dT D) ≤ k := by omega
    have g2 : (k : Int) < 6 := by omega
    have e := (hD.2.1 k hk).1
    have hw := wk1 (k := k) (by omega)
    by_cases y : nHo (tN (dT D)) k = h <;> simp [X9_isTaken_b2_body, tF, isK, shF hS, hD.1, g1, g2, e, y, hw]
  · simp [X9_isTaken_b2_body, tF, isK, shF hS, hD.1]
  · unfold tkB
    cases fnd (fun p => decide (nHo (tN (dT D)) p = h)) (tP (dT D)) <;> rfl
theorem c_unsure {d : Nat} (hS : Sh s) (hD : CDr s D) (hO : DOK D) : X9_isUnsure s 3 d = some (if usB D d = true then 1 else 0, s) := by
  have p6 := hO.1.2.2.2.2.2.2.1
  unfold X9_isUnsure X9_isUnsure_b2
  refine (iter_fnd (fun k : Nat => (s, (3 : Int), (d : Int), (k : Int))) (tU (dT D)) (fun k => decide (tUd (dT D) k = d)) (fun k => some (1, s)) (some (0, s)) FU (by unfold FU; omega) (fun k hk rec => ?_) (fun rec => ?_)).trans ?_
  · have g1 : ¬ tU (dT D) ≤ k := by omega
    have g2 : (k : Int) < 4 := by omega
    have e := (hD.2.2.2.1 k hk).1
    have hw := wk1 (k := k) (by omega)
    by_cases y : tUd (dT D) k = d
    · simp [X9_isUnsure_b2_body, tF, isK, shF hS, hD.1, g1, g2, e, y]
    · have y2 : ¬ ((tUd (dT D) k : Nat) : Int) = (d : Int) := by clear hw; omega
      simp [X9_isUnsure_b2_body, tF, isK, shF hS, hD.1, g1, g2, e, y, y2, hw]
  · simp [X9_isUnsure_b2_body, tF, isK, shF hS, hD.1]
  · unfold usB
    cases fnd (fun k => decide (tUd (dT D) k = d)) (tU (dT D)) <;> rfl
theorem c_heard {d : Nat} {nt : Int} (hS : Sh s) (hD : CDr s D) (hO : DOK D) : X9_isHeard s 3 d nt = some (if hdB D d nt = true then 1 else 0, s) := by
  have p6 := hO.1.2.2.2.2.2.2.2
  unfold X9_isHeard X9_isHeard_b2
  refine (iter_fnd (fun k : Nat => (s, (3 : Int), (d : Int), nt, (k : Int))) (tQ (dT D)) (fun k => decide (tQd (dT D) k = d ∧ tQn (dT D) k = nt)) (fun k => some (1, s)) (some (0, s)) FU (by unfold FU; omega) (fun k hk rec => ?_) (fun rec => ?_)).trans ?_
  · have g1 : ¬ tQ (dT D) ≤ k := by omega
    have g2 : (k : Int) < 8 := by omega
    have e := (hD.2.2.2.2 k hk).2
    have hw := wk1 (k := k) (by omega)
    have iq : ((tQd (dT D) k : Nat) : Int) = (d : Int) ↔ tQd (dT D) k = d := by clear hw; omega
    by_cases y : tQd (dT D) k = d <;> by_cases y2 : tQn (dT D) k = nt <;> simp [X9_isHeard_b2_body, X9_isHeard_b32, tF, isK, shF hS, hD.1, g1, g2, e, iq, y, y2, hw]
  · simp [X9_isHeard_b2_body, tF, isK, shF hS, hD.1]
  · unfold hdB
    cases fnd (fun k => decide (tQd (dT D) k = d ∧ tQn (dT D) k = nt)) (tQ (dT D)) <;> rfl
/-- a fault at the place taken last, if c says so -/
theorem c_failT {k : Int} {c : Bool} (h : CQ n b s q) (hk : k ≠ 0) (hq : q.1 = 0) : ∃ s1, X4_fail s 2 k (gI s 2 6) = some (0, s1) ∧ Fr cT s s1 ∧ CQ n b s1 (qF true k q) :=
  c_failQ (c := true) h rfl hk _ (by
    unfold qF
    rw [if_pos hq, if_pos ⟨hq, rfl⟩, (h.2.2 hq).2.2])
theorem c_lnTown (h : CQ n b s q) (hD : CDr s D) : ∃ s1, X4_readTown s 2 = some (0, s1) ∧ Fr cR s s1 ∧ CQ n b s1 (lnTown n b D q).1 ∧ CDr s1 (lnTown n b D q).2 := by
  have hS := h.1
  have k2 : ∀ s : St, Sh s → isK s 14 2 := fun s hs => ⟨by decide, kd_2 hs⟩
  have k3 : ∀ s : St, Sh s → isK s 19 3 := fun s hs => ⟨by decide, kd_3 hs⟩
  have k15 : isK s 18 15 := ⟨by decide, kd_15 hS⟩
  have pl : q.1 = 0 → gI s 15 1 = (tkP n b q.2.2.1 : Int) := fun z => (h.2.2 z).2.1.2.2.2.1
  have rest : ∀ s0 : St, Fr cT s s0 → CQ n b s0 (qP n b (decide (tH (dT D) ≠ 0)) 3 q) → ∃ s1, X4_readTown_b22 s0 2 = some (0, s1) ∧ Fr cR s s1 ∧ CQ n b s1 (lnTown n b D q).1 ∧ CDr s1 (lnTown n b D q).2 := by
    intro s0 f0 c0
    obtain ⟨s1, e1, f1, c1⟩ := c_take (m := 1) c0
    obtain ⟨s2, e2, f2, c2⟩ := c_takeWord (w := 1) (q := tw1 n b D q) c1 (by decide)
    obtain ⟨r3, s3, e3, f3, c3, v3⟩ := c_takeWhole (lo := 2) (hi := 40) (q := tw2 n b D q) c2
    obtain ⟨s4, e4, f4, c4⟩ := c_takeWord (w := 2) (q := tw3 n b D q) c3 (by decide)
    obtain ⟨r5, s5, e5, f5, c5, v5⟩ := c_takeWhole (lo := 0) (hi := 100) (q := tw4 n b D q) c4
    have c5' : CQ n b s5 (tw5 n b D q) := c5
    have fr := ((((f0.trans f1).trans f2).trans f3).trans f4).trans f5
    have hD5 := hD.fT fr
    have hS5 := c5.1
    have g1 := c5'.2.1.1
    unfold X4_readTown_b22 X4_readTown_b78
    rw [grd_t (k2 _ c0.1), e1, bnd_some, grd_t (k2 _ c1.1), e2, bnd_some, grd_t (k2 _ c2.1), e3, bnd_some, grd_t (k2 _ c3.1), e4, bnd_some, grd_t (k2 _ c4.1), e5, bnd_some, grd_t (k2 _ hS5), g1]
    unfold lnTown
    by_cases z : (tw5 n b D q).1 = 0
    · rw [if_neg (fun w => w z), if_pos z]
      obtain ⟨z4, z4h, z4r, -⟩ := qW_l (q := tw4 n b D q) z
      obtain ⟨z3, -, -⟩ := qS_l (q := tw3 n b D q) z4
      obtain ⟨z2, z2h, z2r, -⟩ := qW_l (q := tw2 n b D q) z3
      have h3 := v3 z2 z2h
      have h5 := v5 z4 z4h
      refine ⟨pI (pI s5 3 0 r3) 3 1 r5, ?_, ((cTR fr).trans (frR (by decide))).trans (frR (by decide)), (c5'.up (by decide)).up (by decide), ?_⟩
      · simp [tF, isK, shF hS5]
      · rw [h3, h5]; exact hD5.adT _ _
    · rw [if_pos z, if_neg z]
      exact ⟨s5, rfl, cTR fr, c5', hD5⟩
  unfold X4_readTown
  rw [grd_t (k2 _ hS), gR_2_0 hS, grd_t (k3 _ hS), hD.1.1]
  by_cases y : tH (dT D) = 0
  · rw [if_pos (by omega)]
    exact rest s (Fr.refl _ s) (by unfold qP; rw [if_neg (fun z => by simp [y] at z)]; exact h)
  · rw [if_neg (by omega), grd_t (k2 _ hS), gR_2_3 hS, grd_t k15, grd_t (k2 _ hS)]
    obtain ⟨s1, g1, g2, g3⟩ := c_failQ (k := 3) (x := gI s 15 1) (c := true) h rfl (by decide) (qP n b (decide (tH (dT D) ≠ 0)) 3 q) (by
      unfold qP
      by_cases z : q.1 = 0
      · rw [if_pos z, if_pos ⟨z, by simp [y]⟩, pl z]
      · rw [if_neg z, if_neg (fun w => z w.1)])
    obtain ⟨s2, t1, t2⟩ := rest s1 g2 g3
    refine ⟨s2, ?_, t2⟩
    rw [g1, bnd_some]
    exact t1
theorem c_lnPers (h : CQ n b s q) (hD : CDr s D) (hO : DOK D) : ∃ s1, X4_readPerson s 2 = some (0, s1) ∧ Fr cR s s1 ∧ CQ n b s1 (lnPers n b D q).1 ∧ CDr s1 (lnPers n b D q).2 := by
  have hS := h.1
  have k2 : ∀ s : St, Sh s → isK s 14 2 := fun s hs => ⟨by decide, kd_2 hs⟩
  have k3 : ∀ s : St, Sh s → isK s 19 3 := fun s hs => ⟨by decide, kd_3 hs⟩
  have h40 := hO.1.2.2.1
  have hp6 := hO.1.2.2.2.2.1
  have rest : ∃ s1, X4_readPerson_b18 s 2 (if decide (6 ≤ tP (dT D)) = true then 1 else 0) 2 = some (0, s1) ∧ Fr cR s s1 ∧ CQ n b s1 (lnPers n b D q).1 ∧ CDr s1 (lnPers n b D q).2 := by
    obtain ⟨s1, e1, f1, c1⟩ := c_begin (full := decide (6 ≤ tP (dT D))) h hD
    obtain ⟨r2, s2, e2, f2, c2, v2⟩ := c_newName (q := pr1 n b D q) c1 (hD.fT f1) hO
    obtain ⟨s3, e3, f3, c3⟩ := c_takeWord (w := 8) (q := pr2 n b D q) c2 (by decide)
    obtain ⟨r4, s4, e4, f4, c4, v4⟩ := c_takeWhole (lo := 0) (hi := (tH (dT D) : Int) - 1) (q := pr3 n b D q) c3
    have c4' : CQ n b s4 (pr4 n b D q) := c4
    have fr := ((f1.trans f2).trans f3).trans f4
    have hD3 := hD.fT ((f1.trans f2).trans f3)
    have hD4 := hD.fT fr
    have hS4 := c4.1
    have g1 := c4'.2.1.1
    have w1 : w32 ((tH (dT D) : Int) - 1) = (tH (dT D) : Int) - 1 := w32e (by omega)
    have frozen : ∀ s5 : St, Sh s5 → ¬ gI s5 2 1 = 0 → X4_readPerson_b74 s5 2 r2 r4 = some (0, s5) := fun s5 hs hz => by
      unfold X4_readPerson_b74 X4_readPerson_b126
      rw [grd_t (k2 _ hs), if_pos hz]
    unfold X4_readPerson_b18
    rw [grd_t (k2 _ hS), e1, bnd_some, grd_t (k2 _ c1.1), e2, bnd_some, grd_t (k2 _ c2.1), e3, bnd_some, grd_t (k2 _ c3.1), gR_2_0 c3.1, grd_t (k3 _ c3.1), grd_t (k2 _ c3.1), hD3.1.1, w1, e4, bnd_some, grd_t (k2 _ hS4), g1]
    unfold lnPers
    by_cases z : (pr4 n b D q).1 = 0
    · rw [if_neg (fun w => w z), grd_t (k2 _ hS4), gR_2_0 hS4, grd_t (k3 _ hS4)]
      obtain ⟨z3, z3h, z3r, -⟩ := qW_l (q := pr3 n b D q) z
      obtain ⟨z2, -, -⟩ := qS_l (q := pr2 n b D q) z3
      obtain ⟨z1, z1n, z1t, -⟩ := qNew_l (q := pr1 n b D q) z2
      obtain ⟨z0, -, zf, -⟩ := qB_l (q := q) z1
      have h4 := v4 z3 z3h
      have h2 := v2 z1 z1n
      rw [h4, c_taken hS4 hD4 hO, bnd_some]
      have e5 : pr5 n b D q = qF (tkB D (tkH n b (pr3 n b D q).2.2.1 : Int)) 3 (pr4 n b D q) := rfl
      by_cases y : tkB D (tkH n b (pr3 n b D q).2.2.1 : Int) = true
      · rw [y] at e5
        obtain ⟨s5, t1, t2, t3⟩ := c_failT (k := 3) (c := true) c4' (by decide) z
        rw [← e5] at t3
        have ez : ¬ (pr5 n b D q).1 = 0 := by rw [e5]; unfold qF; rw [if_pos ⟨z, rfl⟩]; exact (by decide : ¬ (3 : Int) = 0)
        refine ⟨s5, ?_, cTR (fr.trans t2), t3, ?_⟩
        · rw [if_pos y, if_neg (by decide), grd_t (k2 _ hS4), grd_t (k2 _ hS4), t1, bnd_some, ← h4, frozen s5 t3.1 (by rw [t3.2.1.1]; exact ez)]
        · rw [if_neg ez]; exact hD4.fT t2
      · have y0 : tkB D (tkH n b (pr3 n b D q).2.2.1 : Int) = false := by simpa using y
        rw [y0] at e5
        have e6 : pr5 n b D q = pr4 n b D q := by rw [e5]; unfold qF; rw [if_neg (fun w => by cases w.2)]
        have pf : tP (dT D) < 6 := by simpa using zf
        rw [e6, if_pos z]
        refine ⟨pI (pI (pI s4 17 (tP (dT D)) r2) 5 (tP (dT D)) r4) 3 2 ((tP (dT D) + 1 : Nat) : Int), ?_, (((cTR fr).trans (frR (by decide))).trans (frR (by decide))).trans (frR (by decide)), ((c4'.up (by decide)).up (by decide)).up (by decide), ?_⟩
        · rw [if_neg y, if_pos rfl, ← h4]
          have d2 := hD4.1.2.2.1
          have gp : (tP (dT D) : Int) < 6 := by omega
          have hw := wk1 (k := tP (dT D)) (by omega)
          unfold X4_readPerson_b74 X4_readPerson_b126
          rw [g1, if_neg (fun w => w z)]
          simp [tF, isK, shF hS4, d2, gI_pI, gp, hw]
        · rw [h2, h4]; exact hD4.adP _ _
    · rw [if_pos z, frozen s4 hS4 (by rw [g1]; exact z)]
      have e6 : pr5 n b D q = pr4 n b D q := qF_fz z
      rw [e6, if_neg z]
      exact ⟨s4, rfl, cTR fr, c4', hD4⟩
  unfold X4_readPerson
  rw [grd_t (k2 _ hS), gR_2_0 hS, grd_t (k3 _ hS), hD.1.2.2.1]
  by_cases y : 6 ≤ tP (dT D)
  · rw [if_neg (by omega)]
    rw [if_pos (by simp [y])] at rest
    exact rest
  · rw [if_pos (by omega)]
    rw [if_neg (by simp [y])] at rest
    exact rest
theorem c_lnDead (h : CQ n b s q) (hD : CDr s D) (hO : DOK D) : ∃ s1, X4_readDead s 2 = some (0, s1) ∧ Fr cR s s1 ∧ CQ n b s1 (lnDead n b D q).1 ∧ CDr s1 (lnDead n b D q).2 := by
  have hS := h.1
  have k2 : ∀ s : St, Sh s → isK s 14 2 := fun s hs => ⟨by decide, kd_2 hs⟩
  have k3 : ∀ s : St, Sh s → isK s 19 3 := fun s hs => ⟨by decide, kd_3 hs⟩
  have hd6 := hO.1.2.2.2.2.2.1
  have rest : ∃ s1, X4_readDead_b18 s 2 (if decide (6 ≤ tD (dT D)) = true then 1 else 0) 2 = some (0, s1) ∧ Fr cR s s1 ∧ CQ n b s1 (lnDead n b D q).1 ∧ CDr s1 (lnDead n b D q).2 := by
    obtain ⟨s1, e1, f1, c1⟩ := c_begin (full := decide (6 ≤ tD (dT D))) h hD
    obtain ⟨r2, s2, e2, f2, c2, v2⟩ := c_newName (q := dd1 n b D q) c1 (hD.fT f1) hO
    obtain ⟨r3, s3, e3, f3, c3, v3⟩ := c_takeLaw (q := dd2 n b D q) c2
    obtain ⟨s4, e4, f4, c4⟩ := c_takeWord (w := 13) (q := dd3 n b D q) c3 (by decide)
    obtain ⟨r5, s5, e5, f5, c5, v5⟩ := c_takeWhole (lo := 0) (hi := 39) (q := dd4 n b D q) c4
    obtain ⟨s6, e6, f6, c6⟩ := c_takeWord (w := 14) (q := dd5 n b D q) c5 (by decide)
    have fr6 := ((((f1.trans f2).trans f3).trans f4).trans f5).trans f6
    obtain ⟨r7, s7, e7, f7, c7, v7⟩ := c_person (q := dd6 n b D q) c6 (hD.fT fr6) hO
    have c7' : CQ n b s7 (dd7 n b D q) := c7
    have v7' : (dd7 n b D q).1 = 0 → ∃ p, fnP D (tkY n b (dd6 n b D q).2.2.1) = some p ∧ r7 = (p : Int) := v7
    have fr := fr6.trans f7
    have hD7 := hD.fT fr
    have hS7 := c7.1
    have g1 := c7'.2.1.1
    unfold X4_readDead_b18 X4_readDead_b175
    rw [grd_t (k2 _ hS), e1, bnd_some, grd_t (k2 _ c1.1), e2, bnd_some, grd_t (k2 _ c2.1), e3, bnd_some, grd_t (k2 _ c3.1), e4, bnd_some, grd_t (k2 _ c4.1), e5, bnd_some, grd_t (k2 _ c5.1), e6, bnd_some, grd_t (k2 _ c6.1), grd_t (k2 _ c6.1), gR_2_0 c6.1, grd_t (k3 _ c6.1), grd_t (k2 _ c6.1), gR_2_4 c6.1, (hD.fT fr6).1.2.2.1, e7, bnd_some, grd_t (k2 _ hS7), g1]
    unfold lnDead
    by_cases z : (dd7 n b D q).1 = 0
    · rw [if_neg (fun w => w z), if_pos z]
      obtain ⟨z6, z6n, z6s, -⟩ := qKn_l (q := dd6 n b D q) z
      obtain ⟨z5, -, -⟩ := qS_l (q := dd5 n b D q) z6
      obtain ⟨z4, z4h, z4r, -⟩ := qW_l (q := dd4 n b D q) z5
      obtain ⟨z3, -, -⟩ := qS_l (q := dd3 n b D q) z4
      obtain ⟨z2, -, -⟩ := qS_l (q := dd2 n b D q) z3
      obtain ⟨z1, z1n, z1t, -⟩ := qNew_l (q := dd1 n b D q) z2
      obtain ⟨z0, -, zf, -⟩ := qB_l (q := q) z1
      have h2 := v2 z1 z1n
      have h3 := v3 z2
      have h5 := v5 z4 z4h
      obtain ⟨p, hp1, hp2⟩ := v7' z
      have pf : tD (dT D) < 6 := by simpa using zf
      refine ⟨pI (pI (pI (pI (pI (pI s7 18 (tD (dT D)) r2) 8 (tD (dT D)) r3) 9 (tD (dT D)) r7) 6 (tD (dT D)) r5) 7 (tD (dT D)) (-2)) 3 3 ((tD (dT D) + 1 : Nat) : Int), ?_, ((((((cTR fr).trans (frR (by decide))).trans (frR (by decide))).trans (frR (by decide))).trans (frR (by decide))).trans (frR (by decide))).trans (frR (by decide)), (((((c7'.up (by decide)).up (by decide)).up (by decide)).up (by decide)).up (by decide)).up (by decide), ?_⟩
      · have d2 := hD7.1.2.2.2.1
        have gp : (tD (dT D) : Int) < 6 := by omega
        have hw := wk1 (k := tD (dT D)) (by omega)
        simp [tF, isK, shF hS7, d2, gI_pI, gp, hw]
      · rw [h2, h3, h5, hp2, hp1]; exact hD7.adD _ _ _ _
    · rw [if_pos z, if_neg z]
      exact ⟨s7, rfl, cTR fr, c7', hD7⟩
  unfold X4_readDead
  rw [grd_t (k2 _ hS), gR_2_0 hS, grd_t (k3 _ hS), hD.1.2.2.2.1]
  by_cases y : 6 ≤ tD (dT D)
  · rw [if_neg (by omega)]
    rw [if_pos (by simp [y])] at rest
    exact rest
  · rw [if_pos (by omega)]
    rw [if_neg (by simp [y])] at rest
    exact rest
theorem c_lnMirr (h : CQ n b s q) (hD : CDr s D) (hO : DOK D) : ∃ s1, X4_readMirror s 2 = some (0, s1) ∧ Fr cR s s1 ∧ CQ n b s1 (lnMirr n b D q).1 ∧ CDr s1 (lnMirr n b D q).2 := by
  have hS := h.1
  have k2 : ∀ s : St, Sh s → isK s 14 2 := fun s hs => ⟨by decide, kd_2 hs⟩
  have k3 : ∀ s : St, Sh s → isK s 19 3 := fun s hs => ⟨by decide, kd_3 hs⟩
  have h40 := hO.1.2.2.1
  have hd6 := hO.1.2.2.2.2.2.1
  have w1 : w32 ((tH (dT D) : Int) - 1) = (tH (dT D) : Int) - 1 := w32e (by omega)
  obtain ⟨s1, e1, f1, c1⟩ := c_begin (full := false) h hD
  obtain ⟨r2, s2, e2, f2, c2, v2⟩ := c_deadN (q := mr1 n b D q) c1 (hD.fT f1) hO
  have c2' : CQ n b s2 (mr2 n b D q) := c2
  have v2' : (mr2 n b D q).1 = 0 → ∃ d, mrF n b D q = some d ∧ r2 = (d : Int) := v2
  have f12 := f1.trans f2
  have hD2 := hD.fT f12
  have hS2 := c2.1
  have e1' : X4_beginLine s 2 0 = some (0, s1) := e1
  have rest : ∀ s3 : St, Fr cT s s3 → CQ n b s3 (mr3 n b D q) → ∃ s1, X4_readMirror_b52 s3 2 r2 = some (0, s1) ∧ Fr cR s s1 ∧ CQ n b s1 (lnMirr n b D q).1 ∧ CDr s1 (lnMirr n b D q).2 := by
    intro s3 f3 c3
    obtain ⟨r4, s4, e4, f4, c4, v4⟩ := c_takeWhole (lo := 0) (hi := (tH (dT D) : Int) - 1) (q := mr3 n b D q) c3
    have c4' : CQ n b s4 (mr4 n b D q) := c4
    have hD3 := hD.fT f3
    have fr := f3.trans f4
    have hD4 := hD.fT fr
    have hS4 := c4.1
    have g1 := c4'.2.1.1
    unfold X4_readMirror_b52 X4_readMirror_b87
    rw [grd_t (k2 _ c3.1), gR_2_0 c3.1, grd_t (k3 _ c3.1), grd_t (k2 _ c3.1), hD3.1.1, w1, e4, bnd_some, grd_t (k2 _ hS4), g1]
    unfold lnMirr
    by_cases z : (mr4 n b D q).1 = 0
    · rw [if_neg (fun w => w z), if_pos z]
      obtain ⟨z3, z3h, z3r, -⟩ := qW_l (q := mr3 n b D q) z
      obtain ⟨z2, -, -⟩ := qF_l (q := mr2 n b D q) (by decide) z3
      have h4 := v4 z3 z3h
      obtain ⟨d, hd1, hd2⟩ := v2' z2
      have dl := (fnd_some hd1).1
      have gp : (d : Int) < 6 := by clear w1; omega
      refine ⟨pI s4 7 d r4, ?_, (cTR fr).trans (frR (by decide)), c4'.up (by decide), ?_⟩
      · rw [hd2]
        simp [tF, isK, shF hS4, gp]
      · rw [h4, hd1]; exact hD4.adM _
    · rw [if_pos z, if_neg z]
      exact ⟨s4, rfl, cTR fr, c4', hD4⟩
  unfold X4_readMirror
  rw [grd_t (k2 _ hS), e1', bnd_some, grd_t (k2 _ c1.1), grd_t (k2 _ c1.1), gR_2_0 c1.1, grd_t (k3 _ c1.1), grd_t (k2 _ c1.1), gR_2_5 c1.1, (hD.fT f1).1.2.2.2.1, e2, bnd_some, grd_t (k2 _ hS2), c2'.2.1.1]
  by_cases z : (mr2 n b D q).1 = 0
  · obtain ⟨d, hd1, hd2⟩ := v2' z
    have dl := (fnd_some hd1).1
    have gp : (d : Int) < 6 := by clear w1; omega
    have em := (hD2.2.2.1 d dl).2.1.2
    have k4 : isK s2 16 4 := ⟨by decide, kd_4 hS2⟩
    have e3 : mr3 n b D q = qF (decide (0 ≤ nMi (tN (dT D)) d)) 3 (mr2 n b D q) := by unfold mr3; rw [hd1]; rfl
    rw [if_neg (fun w => w z), grd_t (k2 _ hS2), gR_2_0 hS2, grd_t (k3 _ hS2), gR_3_6 hS2, grd_t k4, gR_4_3 hS2, hd2, grd_t (by simp [isK, shF hS2, gp]), Int.toNat_natCast, em]
    by_cases y : nMi (tN (dT D)) d < 0
    · rw [if_pos y, ← hd2]
      refine rest s2 f12 ?_
      rw [e3]
      unfold qF
      rw [if_neg (fun w => by have := w.2; simp at this; clear w1; omega)]
      exact c2'
    · rw [if_neg y]
      obtain ⟨s5, t1, t2, t3⟩ := c_failT (k := 3) (c := true) c2' (by decide) z
      have : mr3 n b D q = qF true 3 (mr2 n b D q) := by
        rw [e3]; congr 1; simp; clear w1; omega
      rw [← this] at t3
      obtain ⟨s6, u1, u2⟩ := rest s5 (f12.trans t2) t3
      refine ⟨s6, ?_, u2⟩
      rw [grd_t (k2 _ hS2), grd_t (k2 _ hS2), t1, bnd_some, ← hd2]
      exact u1
  · rw [if_pos z]
    refine rest s2 f12 ?_
    unfold mr3
    rw [qF_fz z]
    exact c2'
theorem c_lnUns (h : CQ n b s q) (hD : CDr s D) (hO : DOK D) : ∃ s1, X4_readUnsure s 2 = some (0, s1) ∧ Fr cR s s1 ∧ CQ n b s1 (lnUns n b D q).1 ∧ CDr s1 (lnUns n b D q).2 := by
  have hS := h.1
  have k2 : ∀ s : St, Sh s → isK s 14 2 := fun s hs => ⟨by decide, kd_2 hs⟩
  have k3 : ∀ s : St, Sh s → isK s 19 3 := fun s hs => ⟨by decide, kd_3 hs⟩
  have hu4 := hO.1.2.2.2.2.2.2.1
  have main : ∃ s1, X4_readUnsure_b17 s 2 (if decide (4 ≤ tU (dT D)) = true then 1 else 0) 2 = some (0, s1) ∧ Fr cR s s1 ∧ CQ n b s1 (lnUns n b D q).1 ∧ CDr s1 (lnUns n b D q).2 := by
    obtain ⟨s1, e1, f1, c1⟩ := c_begin (full := decide (4 ≤ tU (dT D))) h hD
    obtain ⟨r2, s2, e2, f2, c2, v2⟩ := c_deadN (q := un1 n b D q) c1 (hD.fT f1) hO
    have c2' : CQ n b s2 (un2 n b D q) := c2
    have v2' : (un2 n b D q).1 = 0 → ∃ d, unF n b D q = some d ∧ r2 = (d : Int) := v2
    have f12 := f1.trans f2
    have hD2 := hD.fT f12
    have hS2 := c2.1
    have rest : ∀ s3 : St, Fr cT s s3 → CQ n b s3 (un3 n b D q) → ∃ s1, X4_readUnsure_b63 s3 2 r2 = some (0, s1) ∧ Fr cR s s1 ∧ CQ n b s1 (lnUns n b D q).1 ∧ CDr s1 (lnUns n b D q).2 := by
      intro s3 f3 c3
      obtain ⟨r4, s4, e4, f4, c4, v4⟩ := c_takeWhole (lo := 0) (hi := 39) (q := un3 n b D q) c3
      have c4' : CQ n b s4 (un4 n b D q) := c4
      have fr := f3.trans f4
      have hD4 := hD.fT fr
      have hS4 := c4.1
      have g1 := c4'.2.1.1
      unfold X4_readUnsure_b63 X4_readUnsure_b123
      rw [grd_t (k2 _ c3.1), e4, bnd_some, grd_t (k2 _ hS4), g1]
      unfold lnUns
      by_cases z : (un4 n b D q).1 = 0
      · rw [if_neg (fun w => w z), if_pos z]
        obtain ⟨z3, z3h, z3r, -⟩ := qW_l (q := un3 n b D q) z
        obtain ⟨z2, -, -⟩ := qF_l (q := un2 n b D q) (by decide) z3
        obtain ⟨z1, -, -, -⟩ := qKn_l (q := un1 n b D q) z2
        obtain ⟨z0, -, zf, -⟩ := qB_l (q := q) z1
        have pf : tU (dT D) < 4 := by simpa using zf
        have h4 := v4 z3 z3h
        obtain ⟨d, hd1, hd2⟩ := v2' z2
        have d4 := hD4.1.2.2.2.2.1
        have gp : (tU (dT D) : Int) < 4 := by omega
        have hw := wk1 (k := tU (dT D)) (by omega)
        refine ⟨pI (pI (pI s4 10 (tU (dT D)) r2) 11 (tU (dT D)) r4) 3 4 ((tU (dT D) + 1 : Nat) : Int), ?_, (((cTR fr).trans (frR (by decide))).trans (frR (by decide))).trans (frR (by decide)), ((c4'.up (by decide)).up (by decide)).up (by decide), ?_⟩
        · simp [tF, isK, shF hS4, d4, gI_pI, gp, hw]
        · rw [h4, hd2, hd1]; exact hD4.adU _ _
      · rw [if_pos z, if_neg z]
        exact ⟨s4, rfl, cTR fr, c4', hD4⟩
    unfold X4_readUnsure_b17
    rw [grd_t (k2 _ hS), e1, bnd_some, grd_t (k2 _ c1.1), grd_t (k2 _ c1.1), gR_2_0 c1.1, grd_t (k3 _ c1.1), grd_t (k2 _ c1.1), gR_2_5 c1.1, (hD.fT f1).1.2.2.2.1, e2, bnd_some, grd_t (k2 _ hS2), c2'.2.1.1]
    by_cases z : (un2 n b D q).1 = 0
    · obtain ⟨d, hd1, hd2⟩ := v2' z
      have e3 : un3 n b D q = qF (usB D d) 3 (un2 n b D q) := by unfold un3; rw [hd1]; rfl
      rw [if_neg (fun w => w z), grd_t (k2 _ hS2), gR_2_0 hS2, grd_t (k3 _ hS2), hd2, c_unsure hS2 hD2 hO, bnd_some]
      by_cases y : usB D d = true
      · obtain ⟨s5, t1, t2, t3⟩ := c_failT (k := 3) (c := true) c2' (by decide) z
        rw [y] at e3
        rw [← e3] at t3
        obtain ⟨s6, u1, u2⟩ := rest s5 (f12.trans t2) t3
        refine ⟨s6, ?_, u2⟩
        rw [if_pos y, if_neg (by decide), grd_t (k2 _ hS2), grd_t (k2 _ hS2), t1, bnd_some, ← hd2]
        exact u1
      · rw [if_neg y, if_pos rfl, ← hd2]
        refine rest s2 f12 ?_
        rw [e3]
        unfold qF
        rw [if_neg (fun w => y w.2)]
        exact c2'
    · rw [if_pos z]
      refine rest s2 f12 ?_
      unfold un3
      rw [qF_fz z]
      exact c2'
  unfold X4_readUnsure
  rw [grd_t (k2 _ hS), gR_2_0 hS, grd_t (k3 _ hS), hD.1.2.2.2.2.1]
  by_cases y : 4 ≤ tU (dT D)
  · rw [if_neg (by omega)]
    rw [if_pos (by simp [y])] at main
    exact main
  · rw [if_pos (by omega)]
    rw [if_neg (by simp [y])] at main
    exact main
theorem c_lnHeard (h : CQ n b s q) (hD : CDr s D) (hO : DOK D) : ∃ s1, X4_readHeard s 2 = some (0, s1) ∧ Fr cR s s1 ∧ CQ n b s1 (lnHeard n b D q).1 ∧ CDr s1 (lnHeard n b D q).2 := by
  have hS := h.1
  have k2 : ∀ s : St, Sh s → isK s 14 2 := fun s hs => ⟨by decide, kd_2 hs⟩
  have k3 : ∀ s : St, Sh s → isK s 19 3 := fun s hs => ⟨by decide, kd_3 hs⟩
  have hu8 := hO.1.2.2.2.2.2.2.2
  have main : ∃ s1, X4_readHeard_b18 s 2 (if decide (8 ≤ tQ (dT D)) = true then 1 else 0) 2 = some (0, s1) ∧ Fr cR s s1 ∧ CQ n b s1 (lnHeard n b D q).1 ∧ CDr s1 (lnHeard n b D q).2 := by
    obtain ⟨s1, e1, f1, c1⟩ := c_begin (full := decide (8 ≤ tQ (dT D))) h hD
    obtain ⟨r2, s2, e2, f2, c2, v2⟩ := c_person (q := he1 n b D q) c1 (hD.fT f1) hO
    have c2' : CQ n b s2 (he2 n b D q) := c2
    have v2' : (he2 n b D q).1 = 0 → ∃ d, heF n b D q = some d ∧ r2 = (d : Int) := v2
    obtain ⟨r3, s3, e3, f3, c3, v3⟩ := c_deadN (q := he2 n b D q) c2' (hD.fT (f1.trans f2)) hO
    have c3' : CQ n b s3 (he3 n b D q) := c3
    have v3' : (he3 n b D q).1 = 0 → ∃ d, heG n b D q = some d ∧ r3 = (d : Int) := v3
    obtain ⟨s4, e4, f4, c4⟩ := c_takeWord (w := 15) (q := he3 n b D q) c3' (by decide)
    obtain ⟨r5, s5, e5, f5, c5, v5⟩ := c_takeWhole (lo := 0) (hi := 60) (q := he4 n b D q) c4
    have c5' : CQ n b s5 (he5 n b D q) := c5
    have fr := (((f1.trans f2).trans f3).trans f4).trans f5
    have hD5 := hD.fT fr
    have hS5 := c5.1
    have g1 := c5'.2.1.1
    have frozen : ∀ s6 : St, Sh s6 → ¬ gI s6 2 1 = 0 → X4_readHeard_b95 s6 2 r2 r3 r5 = some (0, s6) := fun s6 hs hz => by
      unfold X4_readHeard_b95 X4_readHeard_b163
      rw [grd_t (k2 _ hs), if_pos hz]
    unfold X4_readHeard_b18
    rw [grd_t (k2 _ hS), e1, bnd_some, grd_t (k2 _ c1.1), grd_t (k2 _ c1.1), gR_2_0 c1.1, grd_t (k3 _ c1.1), grd_t (k2 _ c1.1), gR_2_4 c1.1, (hD.fT f1).1.2.2.1, e2, bnd_some, grd_t (k2 _ c2.1), grd_t (k2 _ c2.1), gR_2_0 c2.1, grd_t (k3 _ c2.1), grd_t (k2 _ c2.1), gR_2_5 c2.1, (hD.fT (f1.trans f2)).1.2.2.2.1, e3, bnd_some, grd_t (k2 _ c3.1), e4, bnd_some, grd_t (k2 _ c4.1), e5, bnd_some, grd_t (k2 _ hS5), g1]
    unfold lnHeard
    by_cases z : (he5 n b D q).1 = 0
    · obtain ⟨z4, z4h, z4r, -⟩ := qW_l (q := he4 n b D q) z
      obtain ⟨z3, -, -⟩ := qS_l (q := he3 n b D q) z4
      obtain ⟨z2, -, -, -⟩ := qKn_l (q := he2 n b D q) z3
      obtain ⟨z1, -, -, -⟩ := qKn_l (q := he1 n b D q) z2
      obtain ⟨z0, -, zf, -⟩ := qB_l (q := q) z1
      have pf : tQ (dT D) < 8 := by simpa using zf
      have h5 := v5 z4 z4h
      obtain ⟨p, hp1, hp2⟩ := v2' z2
      obtain ⟨d, hd1, hd2⟩ := v3' z3
      have e6 : he6 n b D q = qF (hdB D d (tkH n b (he4 n b D q).2.2.1 : Int)) 3 (he5 n b D q) := by unfold he6; rw [hd1]; rfl
      rw [if_neg (fun w => w z), grd_t (k2 _ hS5), gR_2_0 hS5, grd_t (k3 _ hS5), hd2, h5, c_heard hS5 hD5 hO, bnd_some]
      by_cases y : hdB D d (tkH n b (he4 n b D q).2.2.1 : Int) = true
      · rw [y] at e6
        obtain ⟨s6, t1, t2, t3⟩ := c_failT (k := 3) (c := true) c5' (by decide) z
        rw [← e6] at t3
        have ez : ¬ (he6 n b D q).1 = 0 := by rw [e6]; unfold qF; rw [if_pos ⟨z, rfl⟩]; exact (by decide : ¬ (3 : Int) = 0)
        refine ⟨s6, ?_, cTR (fr.trans t2), t3, ?_⟩
        · rw [if_pos y, if_neg (by decide), grd_t (k2 _ hS5), grd_t (k2 _ hS5), t1, bnd_some, ← h5, ← hd2, frozen s6 t3.1 (by rw [t3.2.1.1]; exact ez)]
        · rw [if_neg ez]; exact hD5.fT t2
      · have e7 : he6 n b D q = he5 n b D q := by rw [e6]; unfold qF; rw [if_neg (fun w => y w.2)]
        rw [e7, if_pos z]
        refine ⟨pI (pI (pI (pI s5 12 (tQ (dT D)) r2) 13 (tQ (dT D)) r3) 14 (tQ (dT D)) r5) 3 5 ((tQ (dT D) + 1 : Nat) : Int), ?_, ((((cTR fr).trans (frR (by decide))).trans (frR (by decide))).trans (frR (by decide))).trans (frR (by decide)), (((c5'.up (by decide)).up (by decide)).up (by decide)).up (by decide), ?_⟩
        · rw [if_neg y, if_pos rfl, ← h5, ← hd2]
          have d5 := hD5.1.2.2.2.2.2
          have gp : (tQ (dT D) : Int) < 8 := by omega
          have hw := wk1 (k := tQ (dT D)) (by omega)
          unfold X4_readHeard_b95 X4_readHeard_b163
          rw [g1, if_neg (fun w => w z)]
          simp [tF, isK, shF hS5, d5, gI_pI, gp, hw]
        · rw [h5, hd2, hp2, hp1, hd1]; exact hD5.adQ _ _ _
    · rw [if_pos z, frozen s5 hS5 (by rw [g1]; exact z)]
      have e6 : he6 n b D q = he5 n b D q := qF_fz z
      rw [e6, if_neg z]
      exact ⟨s5, rfl, cTR fr, c5', hD5⟩
  unfold X4_readHeard
  rw [grd_t (k2 _ hS), gR_2_0 hS, grd_t (k3 _ hS), hD.1.2.2.2.2.2]
  by_cases y : 8 ≤ tQ (dT D)
  · rw [if_neg (by omega)]
    rw [if_pos (by simp [y])] at main
    exact main
  · rw [if_pos (by omega)]
    rw [if_neg (by simp [y])] at main
    exact main
theorem sw6_0 (a b c d e f x : Rs) : swt 0 0 [a, b, c, d, e, f] x = a := by unfold swt; rw [if_pos (by decide)]; rfl
theorem sw6_1 (a b c d e f x : Rs) : swt 1 0 [a, b, c, d, e, f] x = b := by unfold swt; rw [if_pos (by decide)]; rfl
theorem sw6_2 (a b c d e f x : Rs) : swt 2 0 [a, b, c, d, e, f] x = c := by unfold swt; rw [if_pos (by decide)]; rfl
theorem sw6_3 (a b c d e f x : Rs) : swt 3 0 [a, b, c, d, e, f] x = d := by unfold swt; rw [if_pos (by decide)]; rfl
theorem sw6_4 (a b c d e f x : Rs) : swt 4 0 [a, b, c, d, e, f] x = e := by unfold swt; rw [if_pos (by decide)]; rfl
theorem sw6_5 (a b c d e f x : Rs) : swt 5 0 [a, b, c, d, e, f] x = f := by unfold swt; rw [if_pos (by decide)]; rfl
theorem sw6_n (cs : List Rs) (x : Rs) : swt (-1) 0 cs x = x := by unfold swt; rw [if_neg (by decide)]
theorem c_lnAny (h : CQ n b s q) (z : q.1 = 0) (hD : CDr s D) (hO : DOK D) : ∃ s1, X4_readLine s 2 = some (0, s1) ∧ Fr cR s s1 ∧ CQ n b s1 (lnAny n b D q).1 ∧ CDr s1 (lnAny n b D q).2 := by
  have hS := h.1
  have k2 : ∀ s : St, Sh s → isK s 14 2 := fun s hs => ⟨by decide, kd_2 hs⟩
  have kk := k2 s hS
  have k15 : isK s 18 15 := ⟨by decide, kd_15 hS⟩
  have hc := (h.2.2 z).2.1
  have el : lnAny n b D q = if wB n b 0 q.2.2.1 = true then lnTown n b D q else if wB n b 3 q.2.2.1 = true then lnPers n b D q else if wB n b 4 q.2.2.1 = true then lnDead n b D q else if wB n b 5 q.2.2.1 = true then lnMirr n b D q else if wB n b 6 q.2.2.1 = true then lnUns n b D q else if wB n b 7 q.2.2.1 = true then lnHeard n b D q else (qP n b true 1 q, D) := if_neg (fun w => w z)
  unfold X4_readLine X4_readLine_b98
  rw [grd_t kk, c_lineS hS, bnd_some, lsV_l hc, el]
  unfold lsN
  by_cases y0 : wB n b 0 q.2.2.1 = true
  · obtain ⟨s1, e1, e2⟩ := c_lnTown h hD
    rw [if_pos y0, if_pos y0, sw6_0, grd_t kk, e1, bnd_some]
    exact ⟨s1, rfl, e2⟩
  rw [if_neg y0, if_neg y0]
  by_cases y3 : wB n b 3 q.2.2.1 = true
  · obtain ⟨s1, e1, e2⟩ := c_lnPers h hD hO
    rw [if_pos y3, if_pos y3, sw6_1, grd_t kk, e1, bnd_some]
    exact ⟨s1, rfl, e2⟩
  rw [if_neg y3, if_neg y3]
  by_cases y4 : wB n b 4 q.2.2.1 = true
  · obtain ⟨s1, e1, e2⟩ := c_lnDead h hD hO
    rw [if_pos y4, if_pos y4, sw6_2, grd_t kk, e1, bnd_some]
    exact ⟨s1, rfl, e2⟩
  rw [if_neg y4, if_neg y4]
  by_cases y5 : wB n b 5 q.2.2.1 = true
  · obtain ⟨s1, e1, e2⟩ := c_lnMirr h hD hO
    rw [if_pos y5, if_pos y5, sw6_3, grd_t kk, e1, bnd_some]
    exact ⟨s1, rfl, e2⟩
  rw [if_neg y5, if_neg y5]
  by_cases y6 : wB n b 6 q.2.2.1 = true
  · obtain ⟨s1, e1, e2⟩ := c_lnUns h hD hO
    rw [if_pos y6, if_pos y6, sw6_4, grd_t kk, e1, bnd_some]
    exact ⟨s1, rfl, e2⟩
  rw [if_neg y6, if_neg y6]
  by_cases y7 : wB n b 7 q.2.2.1 = true
  · obtain ⟨s1, e1, e2⟩ := c_lnHeard h hD hO
    rw [if_pos y7, if_pos y7, sw6_5, grd_t kk, e1, bnd_some]
    exact ⟨s1, rfl, e2⟩
  rw [if_neg y7, if_neg y7]
  rw [sw6_n, grd_t kk, gR_2_3 hS, grd_t k15, grd_t kk]
  obtain ⟨s1, g1, g2, g3⟩ := c_failQ (k := 1) (x := gI s 15 1) (c := true) h rfl (by decide) (qP n b true 1 q) (by
    unfold qP
    rw [if_pos z, if_pos ⟨z, rfl⟩, hc.2.2.2.1])
  rw [g1, bnd_some]
  exact ⟨s1, rfl, cTR g2, g3, hD.fT g2⟩
/-- a line is read, if no fault stands -/
theorem c_lnOpt (h : CQ n b s q) (hD : CDr s D) (hO : DOK D) (K : St → Rs) : ∃ s1, (if ¬ gI s 2 1 = 0 then K s else grd (isK s 14 2) (bnd (X4_readLine s 2) (fun _ t => K t))) = K s1 ∧ Fr cR s s1 ∧ CQ n b s1 (lnAny n b D q).1 ∧ CDr s1 (lnAny n b D q).2 := by
  by_cases z : q.1 = 0
  · obtain ⟨s1, e1, e2⟩ := c_lnAny h z hD hO
    refine ⟨s1, ?_, e2⟩
    rw [if_neg (fun w => w (h.2.1.1.trans z)), grd_t (show isK s 14 2 from ⟨by decide, kd_2 h.1⟩), e1, bnd_some]
  · refine ⟨s, if_pos (fun w => z (h.2.1.1.symm.trans w)), Fr.refl _ s, ?_⟩
    have el : lnAny n b D q = (q, D) := if_pos z
    rw [el]
    exact ⟨h, hD⟩
end CLINES
