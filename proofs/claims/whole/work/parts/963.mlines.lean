/-! the lines on the reference -/
def FmT (t : Nat) (s s1 : St) : Prop := Fr (fun a => a = 76 ∨ t ≤ a) s s1 ∧ ∀ k, ¬ (8 ≤ k ∧ k ≤ 14) → gI s1 76 k = gI s 76 k
theorem FmT.refl (t : Nat) (s : St) : FmT t s s := ⟨Fr.refl _ s, fun _ _ => rfl⟩
theorem FmT.trans {t : Nat} {s s1 s2 : St} (h1 : FmT t s s1) (h2 : FmT t s1 s2) : FmT t s s2 := ⟨h1.1.trans h2.1, fun k a => (h2.2 k a).trans (h1.2 k a)⟩
theorem Fm.T {t : Nat} {s s1 : St} (h : Fm s s1) : FmT t s s1 := ⟨h.1.mono (fun a ha => Or.inl ha), h.2⟩
theorem fmA {t : Nat} (ht : 89 ≤ t) (s : St) (c k : Nat) (x : Int) : FmT t s (pI s (ad t c) k x) := ⟨Fr_pI (Or.inr (by rw [ad_t]; omega)), fun j _ => by rw [gI_pI, if_neg (fun z => by have := z.1; rw [ad_t] at this; have e : (76 : Int).toNat = 76 := rfl; omega)]⟩
theorem adP_nm (D : DR) (K : Nat) (x : Int) (k : Nat) : dNm (adP D K x) k = if k = tP (dT D) + tD (dT D) then (K, 0, tP (dT D)) else dNm D k := rfl
theorem adD_nm (D : DR) (K : Nat) (law sl : Int) (fo k : Nat) : dNm (adD D K law sl fo) k = if k = tP (dT D) + tD (dT D) then (K, 1, tD (dT D)) else dNm D k := rfl
section MUPS
variable {s : St} {t : Nat} {D : DR}
theorem MDr.adT (h : MDr s t D) (H L : Nat) : MDr (pI (pI s (ad t 0) 0 (H : Int)) (ad t 0) 1 (L : Int)) t (adT D H L) := by
  obtain ⟨⟨a0, a1, a2, a3, a4, a5, a6⟩, b1, b2, b3, b4, b5⟩ := h
  refine ⟨⟨?_, ?_, ?_, ?_, ?_, ?_, ?_⟩, fun p hp => ?_, fun d hd => ?_, fun k hk => ?_, fun k hk => ?_, fun k hk => ?_⟩
  · show gI _ (ad t 0) 0 = (H : Int); simp [gI_pI, ad_t]
  · show gI _ (ad t 0) 1 = (L : Int); simp [gI_pI, ad_t]
  · show gI _ (ad t 0) 2 = (tP (dT D) : Int); simp [gI_pI, ad_t, a2]
  · show gI _ (ad t 0) 3 = (tD (dT D) : Int); simp [gI_pI, ad_t, a3]
  · show gI _ (ad t 0) 5 = (tU (dT D) : Int); simp [gI_pI, ad_t, a4]
  · show gI _ (ad t 0) 6 = (tQ (dT D) : Int); simp [gI_pI, ad_t, a5]
  · show gI _ (ad t 0) 7 = ((tP (dT D) + tD (dT D) : Nat) : Int); simp [gI_pI, ad_t, a6]
  · have := b1 p hp; simp [gI_pI, ad_t]; exact this
  · have := b2 d hd; simp [gI_pI, ad_t]; exact this
  · have := b3 k hk; simp [gI_pI, ad_t]; exact this
  · have := b4 k hk; simp [gI_pI, ad_t]; exact this
  · have := b5 k hk; simp [gI_pI, ad_t]; exact this
def nmW (s : St) (t N : Nat) (K so nu : Int) : St := pI (pI (pI (pI s (ad t 11) N K) (ad t 12) N so) (ad t 13) N nu) (ad t 0) 7 ((N + 1 : Nat) : Int)
theorem MDr.adP (h : MDr s t D) (K : Nat) (x : Int) : MDr (pI (pI (nmW s t (tP (dT D) + tD (dT D)) (K : Int) 0 (tP (dT D) : Int)) (ad t 1) (tP (dT D)) x) (ad t 0) 2 ((tP (dT D) + 1 : Nat) : Int)) t (adP D K x) := by
  obtain ⟨⟨a0, a1, a2, a3, a4, a5, a6⟩, b1, b2, b3, b4, b5⟩ := h
  unfold nmW
  refine ⟨⟨?_, ?_, ?_, ?_, ?_, ?_, ?_⟩, fun p hp => ?_, fun d hd => ?_, fun k hk => ?_, fun k hk => ?_, fun k hk => ?_⟩
  · show gI _ (ad t 0) 0 = (tH (dT D) : Int); simp [gI_pI, ad_t, a0]
  · show gI _ (ad t 0) 1 = (tL (dT D) : Int); simp [gI_pI, ad_t, a1]
  · show gI _ (ad t 0) 2 = ((tP (dT D) + 1 : Nat) : Int); simp [gI_pI, ad_t]
  · show gI _ (ad t 0) 3 = (tD (dT D) : Int); simp [gI_pI, ad_t, a3]
  · show gI _ (ad t 0) 5 = (tU (dT D) : Int); simp [gI_pI, ad_t, a4]
  · show gI _ (ad t 0) 6 = (tQ (dT D) : Int); simp [gI_pI, ad_t, a5]
  · show gI _ (ad t 0) 7 = ((tP (dT D) + 1 + tD (dT D) : Nat) : Int)
    rw [show tP (dT D) + 1 + tD (dT D) = tP (dT D) + tD (dT D) + 1 by omega]
    simp [gI_pI, ad_t]
  · have hp' : p < tP (dT D) + 1 := hp
    show gI _ (ad t 1) p = (if p = tP (dT D) then x else nHo (tN (dT D)) p)
    by_cases z : p = tP (dT D)
    · simp [gI_pI, ad_t, z]
    · have := b1 p (by omega); simp [gI_pI, ad_t, z, this]
  · have := b2 d hd; simp [gI_pI, ad_t]; exact this
  · have := b3 k hk; simp [gI_pI, ad_t]; exact this
  · have := b4 k hk; simp [gI_pI, ad_t]; exact this
  · have hk' : k < tP (dT D) + 1 + tD (dT D) := hk
    rw [adP_nm]
    by_cases z : k = tP (dT D) + tD (dT D)
    · simp [gI_pI, ad_t, z]
    · have := b5 k (by omega); simp [gI_pI, ad_t, z, this]
theorem MDr.adD (h : MDr s t D) (K : Nat) (law sl : Int) (fo : Nat) : MDr (pI (pI (pI (pI (pI (nmW s t (tP (dT D) + tD (dT D)) (K : Int) 1 (tD (dT D) : Int)) (ad t 2) (tD (dT D)) law) (ad t 3) (tD (dT D)) sl) (ad t 4) (tD (dT D)) (fo : Int)) (ad t 5) (tD (dT D)) (-2)) (ad t 0) 3 ((tD (dT D) + 1 : Nat) : Int)) t (adD D K law sl fo) := by
  obtain ⟨⟨a0, a1, a2, a3, a4, a5, a6⟩, b1, b2, b3, b4, b5⟩ := h
  unfold nmW
  refine ⟨⟨?_, ?_, ?_, ?_, ?_, ?_, ?_⟩, fun p hp => ?_, fun d hd => ?_, fun k hk => ?_, fun k hk => ?_, fun k hk => ?_⟩
  · show gI _ (ad t 0) 0 = (tH (dT D) : Int); simp [gI_pI, ad_t, a0]
  · show gI _ (ad t 0) 1 = (tL (dT D) : Int); simp [gI_pI, ad_t, a1]
  · show gI _ (ad t 0) 2 = (tP (dT D) : Int); simp [gI_pI, ad_t, a2]
  · show gI _ (ad t 0) 3 = ((tD (dT D) + 1 : Nat) : Int); simp [gI_pI, ad_t]
  · show gI _ (ad t 0) 5 = (tU (dT D) : Int); simp [gI_pI, ad_t, a4]
  · show gI _ (ad t 0) 6 = (tQ (dT D) : Int); simp [gI_pI, ad_t, a5]
  · show gI _ (ad t 0) 7 = ((tP (dT D) + (tD (dT D) + 1) : Nat) : Int)
    rw [show tP (dT D) + (tD (dT D) + 1) = tP (dT D) + tD (dT D) + 1 by omega]
    simp [gI_pI, ad_t]
  · have := b1 p hp; simp [gI_pI, ad_t]; exact this
  · have hd' : d < tD (dT D) + 1 := hd
    show (gI _ (ad t 2) d = (if d = tD (dT D) then law else tLaw (dT D) d) ∧ gI _ (ad t 4) d = ((if d = tD (dT D) then fo else tFo (dT D) d : Nat) : Int)) ∧ gI _ (ad t 3) d = (if d = tD (dT D) then sl else nSl (tN (dT D)) d) ∧ gI _ (ad t 5) d = (if d = tD (dT D) then -2 else nMi (tN (dT D)) d)
    by_cases z : d = tD (dT D)
    · simp [gI_pI, ad_t, z]
    · have := b2 d (by omega); simp [gI_pI, ad_t, z, this]
  · have := b3 k hk; simp [gI_pI, ad_t]; exact this
  · have := b4 k hk; simp [gI_pI, ad_t]; exact this
  · have hk' : k < tP (dT D) + (tD (dT D) + 1) := hk
    rw [adD_nm]
    by_cases z : k = tP (dT D) + tD (dT D)
    · simp [gI_pI, ad_t, z]
    · have := b5 k (by omega); simp [gI_pI, ad_t, z, this]
theorem MDr.adM (h : MDr s t D) {d : Nat} (x : Int) : MDr (pI s (ad t 5) d x) t (adM D d x) := by
  obtain ⟨⟨a0, a1, a2, a3, a4, a5, a6⟩, b1, b2, b3, b4, b5⟩ := h
  refine ⟨⟨?_, ?_, ?_, ?_, ?_, ?_, ?_⟩, fun p hp => ?_, fun e he => ?_, fun k hk => ?_, fun k hk => ?_, fun k hk => ?_⟩
  · show gI _ (ad t 0) 0 = (tH (dT D) : Int); simp [gI_pI, ad_t, a0]
  · show gI _ (ad t 0) 1 = (tL (dT D) : Int); simp [gI_pI, ad_t, a1]
  · show gI _ (ad t 0) 2 = (tP (dT D) : Int); simp [gI_pI, ad_t, a2]
  · show gI _ (ad t 0) 3 = (tD (dT D) : Int); simp [gI_pI, ad_t, a3]
  · show gI _ (ad t 0) 5 = (tU (dT D) : Int); simp [gI_pI, ad_t, a4]
  · show gI _ (ad t 0) 6 = (tQ (dT D) : Int); simp [gI_pI, ad_t, a5]
  · show gI _ (ad t 0) 7 = ((tP (dT D) + tD (dT D) : Nat) : Int); simp [gI_pI, ad_t, a6]
  · have := b1 p hp; simp [gI_pI, ad_t]; exact this
  · have := b2 e he
    show (gI _ (ad t 2) e = tLaw (dT D) e ∧ gI _ (ad t 4) e = (tFo (dT D) e : Int)) ∧ gI _ (ad t 3) e = nSl (tN (dT D)) e ∧ gI _ (ad t 5) e = (if e = d then x else nMi (tN (dT D)) e)
    by_cases z : e = d
    · subst z; simp [gI_pI, ad_t, this]
    · simp [gI_pI, ad_t, z, this]
  · have := b3 k hk; simp [gI_pI, ad_t]; exact this
  · have := b4 k hk; simp [gI_pI, ad_t]; exact this
  · have := b5 k hk; simp [gI_pI, ad_t]; exact this
theorem MDr.adU (h : MDr s t D) (d : Nat) (x : Int) : MDr (pI (pI (pI s (ad t 6) (tU (dT D)) (d : Int)) (ad t 7) (tU (dT D)) x) (ad t 0) 5 ((tU (dT D) + 1 : Nat) : Int)) t (adU D d x) := by
  obtain ⟨⟨a0, a1, a2, a3, a4, a5, a6⟩, b1, b2, b3, b4, b5⟩ := h
  refine ⟨⟨?_, ?_, ?_, ?_, ?_, ?_, ?_⟩, fun p hp => ?_, fun e he => ?_, fun k hk => ?_, fun k hk => ?_, fun k hk => ?_⟩
  · show gI _ (ad t 0) 0 = (tH (dT D) : Int); simp [gI_pI, ad_t, a0]
  · show gI _ (ad t 0) 1 = (tL (dT D) : Int); simp [gI_pI, ad_t, a1]
  · show gI _ (ad t 0) 2 = (tP (dT D) : Int); simp [gI_pI, ad_t, a2]
  · show gI _ (ad t 0) 3 = (tD (dT D) : Int); simp [gI_pI, ad_t, a3]
  · show gI _ (ad t 0) 5 = ((tU (dT D) + 1 : Nat) : Int); simp [gI_pI, ad_t]
  · show gI _ (ad t 0) 6 = (tQ (dT D) : Int); simp [gI_pI, ad_t, a5]
  · show gI _ (ad t 0) 7 = ((tP (dT D) + tD (dT D) : Nat) : Int); simp [gI_pI, ad_t, a6]
  · have := b1 p hp; simp [gI_pI, ad_t]; exact this
  · have := b2 e he; simp [gI_pI, ad_t]; exact this
  · have hk' : k < tU (dT D) + 1 := hk
    show gI _ (ad t 6) k = ((if k = tU (dT D) then d else tUd (dT D) k : Nat) : Int) ∧ gI _ (ad t 7) k = (if k = tU (dT D) then x else tUs (dT D) k)
    by_cases z : k = tU (dT D)
    · simp [gI_pI, ad_t, z]
    · have := b3 k (by omega); simp [gI_pI, ad_t, z, this]
  · have := b4 k hk; simp [gI_pI, ad_t]; exact this
  · have := b5 k hk; simp [gI_pI, ad_t]; exact this
theorem MDr.adQ (h : MDr s t D) (p : Int) (d : Nat) (x : Int) : MDr (pI (pI (pI (pI s (ad t 8) (tQ (dT D)) p) (ad t 9) (tQ (dT D)) (d : Int)) (ad t 10) (tQ (dT D)) x) (ad t 0) 6 ((tQ (dT D) + 1 : Nat) : Int)) t (adQ D p d x) := by
  obtain ⟨⟨a0, a1, a2, a3, a4, a5, a6⟩, b1, b2, b3, b4, b5⟩ := h
  refine ⟨⟨?_, ?_, ?_, ?_, ?_, ?_, ?_⟩, fun p hp => ?_, fun e he => ?_, fun k hk => ?_, fun k hk => ?_, fun k hk => ?_⟩
  · show gI _ (ad t 0) 0 = (tH (dT D) : Int); simp [gI_pI, ad_t, a0]
  · show gI _ (ad t 0) 1 = (tL (dT D) : Int); simp [gI_pI, ad_t, a1]
  · show gI _ (ad t 0) 2 = (tP (dT D) : Int); simp [gI_pI, ad_t, a2]
  · show gI _ (ad t 0) 3 = (tD (dT D) : Int); simp [gI_pI, ad_t, a3]
  · show gI _ (ad t 0) 5 = (tU (dT D) : Int); simp [gI_pI, ad_t, a4]
  · show gI _ (ad t 0) 6 = ((tQ (dT D) + 1 : Nat) : Int); simp [gI_pI, ad_t]
  · show gI _ (ad t 0) 7 = ((tP (dT D) + tD (dT D) : Nat) : Int); simp [gI_pI, ad_t, a6]
  · have := b1 p hp; simp [gI_pI, ad_t]; exact this
  · have := b2 e he; simp [gI_pI, ad_t]; exact this
  · have := b3 k hk; simp [gI_pI, ad_t]; exact this
  · have hk' : k < tQ (dT D) + 1 := hk
    show gI _ (ad t 8) k = (if k = tQ (dT D) then p else tQp (dT D) k) ∧ gI _ (ad t 9) k = ((if k = tQ (dT D) then d else tQd (dT D) k : Nat) : Int) ∧ gI _ (ad t 10) k = (if k = tQ (dT D) then x else tQn (dT D) k)
    by_cases z : k = tQ (dT D)
    · simp [gI_pI, ad_t, z]
    · have := b4 k (by omega); simp [gI_pI, ad_t, z, this]
  · have := b5 k hk; simp [gI_pI, ad_t]; exact this
end MUPS
section MLOOK
variable {s s1 : St} {n t : Nat} {b : Nat → Int} {q : PQ} {D : DR}
theorem RdQ.up (h : RdQ n b s q) (ht : 89 ≤ t) {c k : Nat} {x : Int} : RdQ n b (pI s (ad t c) k x) q := h.fr (L := fun a => a = t + c) (Fr_pI (ad_t t c)) ⟨by omega, by omega⟩
theorem m_taken {h : Int} (hR : RTs s t) (hD : MDr s t D) (hO : DOK D) : X12_isTaken s (ad t 0) h = some (if tkB D h = true then 1 else 0, s) := by
  have p6 := hO.1.2.2.2.2.1
  have hA := adF_ hR
  have d1 := hD.1
  unfold X12_isTaken X12_isTaken_b2
  refine (iter_fnd (fun k : Nat => (s, ad t 0, h, (k : Int))) (tP (dT D)) (fun p => decide (nHo (tN (dT D)) p = h)) (fun k => some (1, s)) (some (0, s)) FU (by clear hA d1; unfold FU; omega) (fun k hk rec => ?_) (fun rec => ?_)).trans ?_
  · have g1 : ¬ tP (dT D) ≤ k := by clear hA d1; omega
    have g2 : (k : Int) < 6 := by clear hA d1; omega
    have e := hD.2.1 k hk
    have hw := wk1 (k := k) (by clear hA d1; omega)
    by_cases y : nHo (tN (dT D)) k = h <;> simp [X12_isTaken_b2_body, tF, isK, hR.2.2, hA.1, hA.2.2.1, d1, g1, g2, e, y, hw]
  · simp [X12_isTaken_b2_body, tF, isK, hR.2.2, hA.1, hA.2.2.1, d1]
  · unfold tkB
    cases fnd (fun p => decide (nHo (tN (dT D)) p = h)) (tP (dT D)) <;> rfl
theorem m_unsure {d : Nat} (hR : RTs s t) (hD : MDr s t D) (hO : DOK D) : X12_isUnsure s (ad t 0) d = some (if usB D d = true then 1 else 0, s) := by
  have p6 := hO.1.2.2.2.2.2.2.1
  have hA := adF_ hR
  have d1 := hD.1
  unfold X12_isUnsure X12_isUnsure_b2
  refine (iter_fnd (fun k : Nat => (s, ad t 0, (d : Int), (k : Int))) (tU (dT D)) (fun k => decide (tUd (dT D) k = d)) (fun k => some (1, s)) (some (0, s)) FU (by clear hA d1; unfold FU; omega) (fun k hk rec => ?_) (fun rec => ?_)).trans ?_
  · have g1 : ¬ tU (dT D) ≤ k := by clear hA d1; omega
    have g2 : (k : Int) < 4 := by clear hA d1; omega
    have e := (hD.2.2.2.1 k hk).1
    have iq : ((tUd (dT D) k : Nat) : Int) = (d : Int) ↔ tUd (dT D) k = d := by clear hA d1; omega
    have hw := wk1 (k := k) (by clear hA d1; omega)
    by_cases y : tUd (dT D) k = d <;> simp [X12_isUnsure_b2_body, tF, isK, hR.2.2, hA.1, hA.2.2.1, d1, g1, g2, e, iq, y, hw]
  · simp [X12_isUnsure_b2_body, tF, isK, hR.2.2, hA.1, hA.2.2.1, d1]
  · unfold usB
    cases fnd (fun k => decide (tUd (dT D) k = d)) (tU (dT D)) <;> rfl
theorem m_heardB {d : Nat} {nt : Int} (hR : RTs s t) (hD : MDr s t D) (hO : DOK D) : X12_isHeard s (ad t 0) d nt = some (if hdB D d nt = true then 1 else 0, s) := by
  have p6 := hO.1.2.2.2.2.2.2.2
  have hA := adF_ hR
  have d1 := hD.1
  unfold X12_isHeard X12_isHeard_b2
  refine (iter_fnd (fun k : Nat => (s, ad t 0, (d : Int), nt, (k : Int))) (tQ (dT D)) (fun k => decide (tQd (dT D) k = d ∧ tQn (dT D) k = nt)) (fun k => some (1, s)) (some (0, s)) FU (by clear hA d1; unfold FU; omega) (fun k hk rec => ?_) (fun rec => ?_)).trans ?_
  · have g1 : ¬ tQ (dT D) ≤ k := by clear hA d1; omega
    have g2 : (k : Int) < 8 := by clear hA d1; omega
    have e := (hD.2.2.2.2.1 k hk).2
    have iq : ((tQd (dT D) k : Nat) : Int) = (d : Int) ↔ tQd (dT D) k = d := by clear hA d1; omega
    have hw := wk1 (k := k) (by clear hA d1; omega)
    by_cases y : tQd (dT D) k = d <;> by_cases y2 : tQn (dT D) k = nt <;> simp [X12_isHeard_b2_body, X12_isHeard_b32, tF, isK, hR.2.2, hA.1, hA.2.2.1, d1, g1, g2, e, iq, y, y2, hw]
  · simp [X12_isHeard_b2_body, tF, isK, hR.2.2, hA.1, hA.2.2.1, d1]
  · unfold hdB
    cases fnd (fun k => decide (tQd (dT D) k = d ∧ tQn (dT D) k = nt)) (tQ (dT D)) <;> rfl
theorem m_names {K so nu : Int} (hS : Sh s) (hR : RTs s t) (hD : MDr s t D) (hO : DOK D) (hl : tP (dT D) + tD (dT D) < 12) : X13_names s 76 K so nu = some (0, nmW s t (tP (dT D) + tD (dT D)) K so nu) := by
  have hA := adF_ hR
  have h7 := hD.1.2.2.2.2.2.2
  generalize tP (dT D) + tD (dT D) = N at *
  have g : (N : Int) < 12 := by clear hA; omega
  have hw := wk1 (k := N) (by clear hA; omega)
  unfold X13_names nmW
  simp [tF, isK, shF hS, hR.2, hA, gI_pI, h7, g, hw]
theorem qWa_SF {lo hi k : Int} {c : Bool} (hk : k ≠ 0) (h : RdQ n b s (qS n b true (qP n b c k (qWa n b lo hi q)))) : RdQ n b s (qF c k (qW n b lo hi q)) := by
  by_cases z : q.1 = 0
  · refine h.eqv ?_ ?_ ?_ <;> unfold qWa qW qS qF qP <;> cases hB n b q.2.2.1 <;> cases c <;> by_cases r : lo ≤ (tkH n b q.2.2.1 : Int) ∧ (tkH n b q.2.2.1 : Int) ≤ hi <;> simp [z, r, hk]
  · unfold qWa at h
    unfold qW
    rw [qP_fz (q := q) z, qP_fz (q := q) z, qP_fz z, qS_fz z] at h
    rw [qS_fz z, qF_fz (q := q) z, qF_fz z]
    exact h
theorem qKa_SF {f : Option Nat} {k : Int} {c : Bool} (hk : k ≠ 0) (h : RdQ n b s (qS n b true (qP n b c k (qKa n b f q)))) : RdQ n b s (qF c k (qKn n b f q)) := by
  by_cases z : q.1 = 0
  · refine h.eqv ?_ ?_ ?_ <;> unfold qKa qNa qKn qN qS qF qP <;> cases nmB n b q.2.2.1 <;> cases c <;> cases f <;> simp [z, hk]
  · unfold qKa qNa at h
    unfold qKn qN
    rw [qP_fz (q := q) z, qP_fz (q := q) z, qP_fz z, qS_fz z] at h
    rw [qS_fz z, qF_fz (q := q) z, qF_fz z]
    exact h
end MLOOK
