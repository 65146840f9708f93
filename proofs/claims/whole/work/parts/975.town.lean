/-! town: both sides -/
section TOWNX
variable {s s1 s2 : St} {n : Nat} {b : Nat → Int} {q : PQ} {D : DR}
theorem gR_pRx (s : St) (a : Int) (k : Nat) (x b : Int) (j : Nat) : gR (pR s a k x) b j = if b.toNat = a.toNat ∧ j = k then x else gR s b j := rfl
theorem bit0 (k : Nat) : bitB 0 k = false := by
  unfold bitB
  simp
theorem supp0 (T : Tw) : ∀ k, suppK T 0 k = tN T
  | 0 => rfl
  | k + 1 => by
    have ih := supp0 T k
    show (if bitB 0 k = true then sliN (suppK T 0 k) (tUd T k) (tUs T k) else suppK T 0 k) = _
    rw [if_neg (by rw [bit0]; decide), ih]
theorem m_twG {t : Nat} (h : RdQ n b s q) (z : q.1 = 0) (hR : RTs s t) (hD : MDr s t D) (hT : TFK (dT D)) (hc : t + 14 ≤ s.1.1) :
    ∃ s2, twE s = some ((tP (dT D) : Int), s2) ∧ MW (dT D) (t : Int) s2 ∧ Fr (fun a => a = 76 ∨ a = 78 ∨ a = 79) (pR s 76 3 (t : Int)) s2 ∧ RXf (fun j => gI s2 78 j) (dT D) (tN (dT D)) ∧ (gI s2 76 1 = 0 ∧ gI s2 76 2 = -1 ∧ gI s2 76 6 = gI s 76 6 ∧ gI s2 76 12 = 0 ∧ gI s2 76 19 = 0 ∧ gI s2 76 20 = 0) := by
  have hS := h.1
  have h12 := (h.2.1 z).2
  have t9 := hR.1
  have r4 : gR s 76 4 = (t : Int) := hR.2.1.trans (by unfold ad; rfl)
  generalize hs17 : pR s 76 3 (t : Int) = s17
  have e0 : ∀ k, gR s17 (ad t 0) k = gR s (ad t 0) k := fun k => by
    rw [← hs17]
    show (if (ad t 0).toNat = (76 : Int).toNat ∧ k = 3 then (t : Int) else s.2.2.1 (ad t 0).toNat k) = _
    rw [ad_t, if_neg (fun w => by have e : (76 : Int).toNat = 76 := rfl; omega)]
    unfold gR; rw [ad_t]
  have e3 : gR s17 76 3 = (t : Int) := by rw [← hs17, gR_pRx, if_pos ⟨rfl, rfl⟩]
  have e4 : gR s17 76 4 = gR s 76 4 := by rw [← hs17, gR_pRx, if_neg (by decide)]
  have hS17 : Sh s17 := by
    rw [← hs17]
    refine ⟨hS.1, fun q hq => ?_⟩
    show (if q.1 = 76 ∧ q.2.1 = 3 then (t : Int) else s.2.2.1 q.1 q.2.1) = q.2.2
    rw [if_neg (fun w => (rf764 q hq).1 ⟨w.1, Or.inr w.2⟩)]
    exact hS.2 q hq
  have hR17 : RTs s17 t := by
    obtain ⟨r1, r2, r3, r4, r5, r6⟩ := hR
    refine ⟨r1, e4.trans r2, ?_, ?_, ?_, ?_⟩
    · rw [← hs17]; exact r3
    · simp only [e0]; exact r4
    · rw [← hs17]; exact r5
    · rw [← hs17]; exact r6
  have hD17 : MDr s17 t D := by rw [← hs17]; exact hD
  have n17 : ∀ a k, gI s17 a k = gI s a k := fun a k => by rw [← hs17]; rfl
  have hM := RT_mw hS17 hR17 hD17 hT.1 e3 (by rw [← hs17]; exact hc)
  have e18 : X13_asTold s17 76 0 = some (0, sR s17 79 (rwN (dT D) 0 (tf3 s17 t 6) (tU (dT D)))) := m_asTold hT hM (x := 0) (by decide)
  have hX := rwN_ok hT 0 (tf3_ok hT hM) (tU (dT D)) (Nat.le_refl _)
  rw [supp0] at hX
  generalize hf : rwN (dT D) 0 (tf3 s17 t 6) (tU (dT D)) = f at *
  have t78 : ((t : Int)).toNat ≠ 76 ∧ ((t : Int)).toNat ≠ 78 ∧ ((t : Int)).toNat ≠ 79 := by rw [Int.toNat_natCast]; omega
  have e3' : gR (sR s17 79 f) 76 3 = (t : Int) := e3
  have hk22 : isK (sR s17 79 f) 22 (t : Int) := ⟨by omega, hM.2.2.1.2.2.1⟩
  obtain ⟨s4, e19, f19, c19⟩ := town_b104 (s := sR s17 79 f) hS17 (by rw [e3']; exact hk22) (by rw [e3']; exact ⟨t78.1, t78.2.1⟩)
  have vt : gI (sR s17 79 f) (t : Int) 2 = (tP (dT D) : Int) := by
    rw [gI_sR, if_neg (show ¬ (t : Int).toNat = (79 : Int).toNat from t78.2.2)]
    exact hM.2.2.2.2.1.2.2.1
  rw [e3', vt] at e19
  generalize hs5 : fiM 0 (pI (pI s4 76 19 0) 76 20 0) = s5 at *
  have fA : Fr (fun a => a = 76 ∨ a = 78 ∨ a = 79) s17 s5 := by
    have hf76 : ∀ (s' : St) (k : Nat) (x : Int), Fr (fun a => a = 76 ∨ a = 78 ∨ a = 79) s' (pI s' 76 k x) := fun s' k x => Fr_pI (Or.inl rfl)
    have g1 : Fr (fun a => a = 76 ∨ a = 78 ∨ a = 79) s17 (sR s17 79 f) := Fr_sR (Or.inr (Or.inr rfl))
    have g2 := g1.trans (f19.mono (fun a ha => Or.inr (Or.inl ha)))
    rw [← hs5]
    exact (((g2.trans (hf76 _ _ _)).trans (hf76 _ _ _)).trans (hf76 _ _ _)).trans (hf76 _ _ _)
  have u : ∀ k, k ≠ 1 → k ≠ 2 → k ≠ 19 → k ≠ 20 → gI s5 76 k = gI s 76 k := fun k k1 k2 k3 k4 => by
    have a1 : gI s5 76 k = gI s4 76 k := by
      rw [← hs5]
      unfold fiM
      rw [gI_pI, if_neg (fun w => k2 w.2), gI_pI, if_neg (fun w => k1 w.2), gI_pI, if_neg (fun w => k4 w.2), gI_pI, if_neg (fun w => k3 w.2)]
    have a2 : gI s4 76 k = gI (sR s17 79 f) 76 k := f19.nu (a := 76) (by decide)
    rw [a1, a2, gI_sR, if_neg (by decide), n17]
  refine ⟨s5, ?_, hM.fr fA (fun a ha w => by omega), fA, ?_, ?_, ?_, u 6 (by decide) (by decide) (by decide) (by decide), (u 12 (by decide) (by decide) (by decide) (by decide)).trans h12, ?_, ?_⟩
  · unfold twE
    rw [g23 hS, if_pos (by omega), g23 hS, g23 hS, r4, lets_e, hs17, g23 hS17, e18, bnd_some, e19]
  · refine hX.cg hT.1 (fun j hj => ?_)
    have a1 : gI s5 78 j = gI s4 78 j := by
      rw [← hs5]
      unfold fiM
      simp [gI_pI]
    show gI s5 78 j = _
    rw [a1, c19 j hj, gI_sR, if_pos rfl]
  · rw [← hs5]; rfl
  · rw [← hs5]; rfl
  · rw [← hs5]; rfl
  · rw [← hs5]; rfl
variable {W : Wd} {L : Lg} {I : Im} {tr fl fp : Int} {tp : Nat × (Nat → Int)}
theorem CI.gen (h : CI W L I tr fl fp tp s) (hI : I.1 ≤ 3) (hS : Sh s2) (e : ∀ a, a < 76 → s2.2.2.2 a = s.2.2.2 a) : CI W L I tr fl fp tp s2 := by
  have hf : Fr (fun a => 76 ≤ a) s (s.1, s.2.1, s.2.2.1, s2.2.2.2) := ⟨rfl, rfl, rfl, fun a ha => e a (by omega)⟩
  obtain ⟨⟨h1, h2, h3⟩, h4, h5, h6, h7, h8, h9⟩ := h.mfr hI hf
  refine ⟨⟨hS, h2, fun T N q => ?_⟩, h4, h5, h6, h7, h8, h9⟩
  obtain ⟨w1, w2, w3, w4, w5, w6⟩ := h3 T N q
  exact ⟨hS, w2, w3, w4, w5, w6⟩
theorem MW.p15 {T : Tw} {t : Int} (h : MW T t s) (x : Int) : MW T t (pR s 15 3 x) := by
  obtain ⟨w1, w2, ⟨⟨m1, m2⟩, m3, m4, m5, m6⟩, w4, w5⟩ := h
  have e : ∀ k, gR (pR s 15 3 x) t k = gR s t k := fun k => by
    rw [gR_pRx, if_neg (fun w => by have := w.1; have e : (15 : Int).toNat = 15 := rfl; omega)]
  refine ⟨Sh_pR w1 x, w2, ⟨⟨m1, m2⟩, ?_, m4, ?_, m6⟩, w4, w5⟩
  · rw [gR_pRx, if_neg (by decide)]; exact m3
  · simp only [e]; exact m5
theorem MI_.p15 (h : MI_ W L I tr fl fp tp s) (x : Int) : MI_ W L I tr fl fp tp (pR s 15 3 x) := by
  obtain ⟨⟨h1, h2, h3⟩, h4, h5, h6⟩ := h
  refine ⟨⟨Sh_pR h1 x, fun q => ?_, fun T N q => ?_⟩, h4, h5, h6⟩
  · rw [gR_pRx, if_neg (by decide)]; exact h2 q
  · obtain ⟨t, t1, t2, t3⟩ := h3 T N q
    exact ⟨t, t1.p15 x, t2, t3⟩
theorem s_town (a : Int) (h : INV s) (ht : 89 ≤ s.1.1 ∧ s.1.1 < 900000) : STP s (fun s => X11_town s 0 a) (fun s => X13_town s 76 a) := by
  obtain ⟨W, L, I, tr, fl, fp, tp, hO, hb, hC, hM⟩ := h
  have hS := hC.1.1
  by_cases hr : a < 0 ∨ (tp.1 : Int) < a
  · have eF : X11_town s 0 a = some (-1, pI s 0 2 2) := by
      have t1 := hC.2.1.1
      have rf : X11_refuse (pI s 0 2 2) 0 4 = some (-1, pI (pI s 0 2 2) 0 2 4) := by
        unfold X11_refuse
        simp [tF, isK, shF hS]
      have b19 : X11_town_b19 s 0 a 1 0 0 = some (-1, pI s 0 2 2) := by
        unfold X11_town_b19
        rw [grd_t (show isK s 21 0 from ⟨by decide, kd_0 hS⟩), c_ref hS, bnd_some]
        simp
      unfold X11_town X11_town_b14
      by_cases z : a < 0
      · rw [if_pos z, b19]
      · rw [if_neg z, grd_t (show isK s 21 0 from ⟨by decide, kd_0 hS⟩), t1, if_neg (by omega), b19]
    have hM1 := hM.cread (s1 := pI s 0 2 2) (w := 2) (Fr.refl _ _)
    have hC1 := hC.cread hO.2.2.1 (s1 := pI s 0 2 2) (w := 2) (Fr.refl _ _)
    have gv : Mv (pI s 0 2 2) (fiM 2 (pI (pI s 0 2 2) 76 0 0)) := Mv_fiM (Mv_pI (by decide))
    have eG : X13_town (pI s 0 2 2) 76 a = some (-1, fiM 2 (pI (pI s 0 2 2) 76 0 0)) := by
      have hS0 : Sh (pI (pI s 0 2 2) 76 0 0) := hS
      have b17 : X13_town_b17 (pI (pI s 0 2 2) 76 0 0) 76 = some (-1, fiM 2 (pI (pI s 0 2 2) 76 0 0)) := by
        unfold X13_town_b17
        rw [g23 hS0, m_refd hS0, bnd_some]
      have g6 : gI (pI (pI s 0 2 2) 76 0 0) 76 6 = (tp.1 : Int) := by
        rw [gI_pI, if_neg (by decide)]; exact hM1.2.1.2.2.1
      unfold X13_town
      rw [g23 (s := pI s 0 2 2) hS, lets_e]
      by_cases z : a < 0
      · rw [if_pos z, b17]
      · rw [if_neg z, g23 hS0, g6, if_neg (by omega), b17]
    refine ⟨-1, pI s 0 2 2, _, eF, eG, hS, ⟨W, L, I, 2, fl, fp, tp, hO, hb, hC1.mread hO.2.2.1 gv, hM1.mread gv rfl rfl (by decide)⟩, ?_⟩
    show s.1.1 ≤ s.1.1 ∧ s.1.1 ≤ s.1.1 + 20 ∧ s.1.2 ≤ s.1.2 + 400
    omega
  · obtain ⟨n, rfl⟩ : ∃ n : Nat, a = n := ⟨a.toNat, by omega⟩
    have hn : n ≤ tp.1 := by omega
    obtain ⟨hF, hG⟩ := c_townX hC hO.2.2.1 hn hb.1
    have hN := rdA_n (n := n) (b := tp.2) (gI s 2 6)
    have ref : ∀ s1, Fr (fun a => a < 76) (pR s 15 3 1) s1 → MI_ W L I tr fl fp tp s1 ∧ s1.1 = s.1 ∧ ∃ s16, X13_town s1 76 n = twE s16 ∧ OT s.1.1 s1 s16 ∧ (∀ k, k ≠ 0 → ¬ (6 ≤ k ∧ k ≤ 14) → gI s16 76 k = gI s1 76 k) ∧ gI s16 76 6 = 0 ∧ (s16.1.1 = s.1.1 + 14 ∧ s16.1.2 ≤ s.1.2 + 177) ∧ RdQ n tp.2 s16 (rdA n tp.2 (gI s 2 6)).1 ∧ MDr s16 s.1.1 (rdA n tp.2 (gI s 2 6)).2 ∧ RTs s16 s.1.1 := fun s1 f1 => by
      have m1 := (hM.p15 1).cfr f1
      have p1 : s1.1 = s.1 := f1.1
      have := m_townR (s := s1) (n := n) (b := tp.2) (l := gI s 2 6) m1.1.1 (by rw [p1]; exact ht) (by rw [m1.2.1.2.2.1]; omega) (by omega) hb.2 (fun j hj => m1.2.2.1 j (by omega))
      rw [p1] at this
      exact ⟨m1, p1, this⟩
    generalize hRd : rdA n tp.2 (gI s 2 6) = R at *
    by_cases z : R.1.1 = 0
    · obtain ⟨s1, e1, f1, c1, hT⟩ := hG z
      obtain ⟨m1, p1, s16, e16, o16, v16, v6, k16, q16, d16, r16⟩ := ref s1 f1
      obtain ⟨s2, e2, w2, f2, x2, u1, u2, u6, u12, u19, u20⟩ := m_twG q16 z r16 d16 hT (by omega)
      have hS1 := m1.1.1
      have n2 : ∀ a, a < 76 → s2.2.2.2 a = s1.2.2.2 a := fun a ha => by
        rw [f2.2.2.2 a (by omega)]
        exact o16.2.2.2 a (by omega) (by omega)
      have p2 : s2.1 = s16.1 := f2.1
      refine ⟨_, s1, s2, e1, e16.trans e2, hS1, ⟨some (dT R.2, tN (dT R.2)), L00, I00, 0, 0, -1, (0, tp.2), ?_, ⟨Nat.zero_le _, hb.2⟩, c1.gen (by decide) w2.1 n2, ?_⟩, ?_⟩
      · refine ⟨(fun w => by cases w), by decide, by decide, fun T N w => ?_⟩
        cases w
        exact ⟨hT, hT.2.1, ⟨by decide, fun j hj => absurd hj (Nat.not_lt_zero _)⟩, fun j hj => absurd hj (Nat.not_lt_zero _)⟩
      · refine ⟨⟨w2.1, (fun w => by cases w), fun T N w => ?_⟩, ⟨u1, u2, u6.trans v6, u12, u19, u20⟩, fun j hj => absurd hj (Nat.not_lt_zero _), fun T N w => ⟨⟨u19, fun j hj => absurd hj (Nat.not_lt_zero _)⟩, fun j hj => absurd hj (Nat.not_lt_zero _)⟩⟩
        cases w
        exact ⟨_, w2, hT.2.1, x2⟩
      · rw [p2]; omega
    · obtain ⟨s1, e1, f1, c1⟩ := hF z
      obtain ⟨m1, p1, s16, e16, o16, v16, v6, k16, q16, d16, r16⟩ := ref s1 f1
      have e2 := m_twF q16 (by omega)
      obtain ⟨-, q12, q13⟩ := q16.2.2 z
      have hS1 := m1.1.1
      generalize hs2 : pI (pI s16 76 1 4) 76 2 R.1.2.1 = s2 at *
      have f2 : Fr (fun a => a = 76) s16 s2 := by
        rw [← hs2]
        have hf76 : ∀ (s' : St) (k : Nat) (x : Int), Fr (fun a => a = 76) s' (pI s' 76 k x) := fun s' k x => Fr_pI rfl
        exact (hf76 _ _ _).trans (hf76 _ _ _)
      have o2 : OT s.1.1 s1 s2 := o16.fr (f2.mono (fun a ha => Or.inl ha))
      have hS2 := o2.sh ht.1 hS1
      have w : ∀ k, k ≠ 1 → k ≠ 2 → gI s2 76 k = gI s16 76 k := fun k k1 k2 => by
        rw [← hs2, gI_pI, if_neg (fun w => k2 w.2), gI_pI, if_neg (fun w => k1 w.2)]
      have e78 : ∀ k, gI s2 78 k = gI s1 78 k := fun k => congrFun (o2.2.2.2 78 (by omega) (by decide)) k
      have e80 : ∀ k, gI s2 80 k = gI s1 80 k := fun k => congrFun (o2.2.2.2 80 (by omega) (by decide)) k
      have e81 : ∀ k, gI s2 81 k = gI s1 81 k := fun k => congrFun (o2.2.2.2 81 (by omega) (by decide)) k
      have e19 : gI s2 76 19 = gI s1 76 19 := (w 19 (by decide) (by decide)).trans (v16 19 (by decide) (by decide))
      have e20 : gI s2 76 20 = gI s1 76 20 := (w 20 (by decide) (by decide)).trans (v16 20 (by decide) (by decide))
      have p2 : s2.1 = s16.1 := f2.1
      obtain ⟨⟨y1, y2, y3⟩, y4, y5, y6⟩ := m1
      refine ⟨_, s1, s2, e1, e16.trans e2, hS1, ⟨W, L, I, 4, R.1.1, R.1.2.1, (0, tp.2), hO, ⟨Nat.zero_le _, hb.2⟩, c1.gen hO.2.2.1 hS2 (fun a ha => o2.2.2.2 a (by omega) (by omega)), ?_⟩, ?_⟩
      · refine ⟨⟨hS2, fun q => ?_, fun T N q => ?_⟩, ⟨?_, ?_, (w 6 (by decide) (by decide)).trans v6, (w 12 (by decide) (by decide)).trans q12, e19.trans y4.2.2.2.2.1, e20.trans y4.2.2.2.2.2⟩, fun j hj => absurd hj (Nat.not_lt_zero _), fun T N q => ?_⟩
        · have e : gR s2 76 3 = gR s1 76 3 := o2.2.2.1 76 (by omega) 3 (fun z => by omega)
          rw [e]; exact y2 q
        · obtain ⟨t, t1, t2, t3⟩ := y3 T N q
          have t14 := t1.2.2.1.2.2.2.2.2.2
          refine ⟨t, o2.mw ht.1 t1 (by rw [p1] at t14; exact t14), t2, ?_⟩
          simp only [e78]; exact t3
        · rw [← hs2]; rfl
        · rw [← hs2]; rfl
        · have := y6 T N q
          unfold LGm at this ⊢
          simp only [e19, e80, e81]
          exact this
      · rw [p2]; omega
end TOWNX
