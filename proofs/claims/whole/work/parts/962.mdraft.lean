/-! the town that the reference reads -/
def ad (t c : Nat) : Int := ((t + c : Nat) : Int)
theorem ad_t (t c : Nat) : (ad t c).toNat = t + c := Int.toNat_natCast _
theorem ad_0 (t c : Nat) : 0 ≤ ad t c := Int.natCast_nonneg _
def RTs (s : St) (t : Nat) : Prop := (89 ≤ t ∧ t < 900000) ∧ gR s 76 4 = ad t 0 ∧ kd s (ad t 0) = 22 ∧
  (gR s (ad t 0) 8 = ad t 1 ∧ gR s (ad t 0) 9 = ad t 2 ∧ gR s (ad t 0) 10 = ad t 3 ∧ gR s (ad t 0) 11 = ad t 4 ∧ gR s (ad t 0) 12 = ad t 5 ∧ gR s (ad t 0) 13 = ad t 6 ∧ gR s (ad t 0) 14 = ad t 7 ∧ gR s (ad t 0) 15 = ad t 8 ∧ gR s (ad t 0) 16 = ad t 9 ∧ gR s (ad t 0) 17 = ad t 10 ∧ gR s (ad t 0) 18 = ad t 11 ∧ gR s (ad t 0) 19 = ad t 12 ∧ gR s (ad t 0) 20 = ad t 13) ∧
  (kd s (ad t 1) = 1 ∧ kd s (ad t 2) = 1 ∧ kd s (ad t 3) = 1 ∧ kd s (ad t 4) = 1 ∧ kd s (ad t 5) = 1 ∧ kd s (ad t 6) = 1 ∧ kd s (ad t 7) = 1 ∧ kd s (ad t 8) = 1 ∧ kd s (ad t 9) = 1 ∧ kd s (ad t 10) = 1 ∧ kd s (ad t 11) = 3 ∧ kd s (ad t 12) = 1 ∧ kd s (ad t 13) = 1) ∧
  (ln s (ad t 1) = 6 ∧ ln s (ad t 2) = 6 ∧ ln s (ad t 3) = 6 ∧ ln s (ad t 4) = 6 ∧ ln s (ad t 5) = 6 ∧ ln s (ad t 6) = 4 ∧ ln s (ad t 7) = 4 ∧ ln s (ad t 8) = 8 ∧ ln s (ad t 9) = 8 ∧ ln s (ad t 10) = 8 ∧ ln s (ad t 11) = 12 ∧ ln s (ad t 12) = 12 ∧ ln s (ad t 13) = 12)
/-- rules for addresses -/
theorem adF_ {s : St} {t : Nat} (h : RTs s t) : (∀ c, 0 ≤ ad t c) ∧ (∀ c, (ad t c).toNat = t + c) ∧ (ad t 0 < 1000000 ∧ ad t 1 < 1000000 ∧ ad t 2 < 1000000 ∧ ad t 3 < 1000000 ∧ ad t 4 < 1000000 ∧ ad t 5 < 1000000 ∧ ad t 6 < 1000000 ∧ ad t 7 < 1000000 ∧ ad t 8 < 1000000 ∧ ad t 9 < 1000000 ∧ ad t 10 < 1000000 ∧ ad t 11 < 1000000 ∧ ad t 12 < 1000000 ∧ ad t 13 < 1000000) ∧ (∀ c, ¬ t + c = 76) ∧ ¬ t = 76 := by
  have := h.1
  refine ⟨ad_0 t, ad_t t, ?_, ?_, ?_⟩
  · unfold ad; omega
  · intro c; omega
  · omega
def MDr (s : St) (t : Nat) (D : DR) : Prop := (gI s (ad t 0) 0 = (tH (dT D) : Int) ∧ gI s (ad t 0) 1 = (tL (dT D) : Int) ∧ gI s (ad t 0) 2 = (tP (dT D) : Int) ∧ gI s (ad t 0) 3 = (tD (dT D) : Int) ∧ gI s (ad t 0) 5 = (tU (dT D) : Int) ∧ gI s (ad t 0) 6 = (tQ (dT D) : Int) ∧ gI s (ad t 0) 7 = ((tP (dT D) + tD (dT D) : Nat) : Int)) ∧
  (∀ p, p < tP (dT D) → gI s (ad t 1) p = nHo (tN (dT D)) p) ∧
  (∀ d, d < tD (dT D) → (gI s (ad t 2) d = tLaw (dT D) d ∧ gI s (ad t 4) d = (tFo (dT D) d : Int)) ∧ gI s (ad t 3) d = nSl (tN (dT D)) d ∧ gI s (ad t 5) d = nMi (tN (dT D)) d) ∧
  (∀ k, k < tU (dT D) → gI s (ad t 6) k = (tUd (dT D) k : Int) ∧ gI s (ad t 7) k = tUs (dT D) k) ∧ (∀ k, k < tQ (dT D) → gI s (ad t 8) k = tQp (dT D) k ∧ gI s (ad t 9) k = (tQd (dT D) k : Int) ∧ gI s (ad t 10) k = tQn (dT D) k) ∧
  ∀ k, k < tP (dT D) + tD (dT D) → gI s (ad t 11) k = ((dNm D k).1 : Int) ∧ gI s (ad t 12) k = ((dNm D k).2.1 : Int) ∧ gI s (ad t 13) k = ((dNm D k).2.2 : Int)
def fnN (D : DR) (K : Nat) : Option Nat := fnd (fun k => decide ((dNm D k).1 = K)) (tP (dT D) + tD (dT D))
section NAMES
variable {D : DR} {K : Nat}
theorem nm_un (hO : DOK D) {j k : Nat} (hj : j < tP (dT D) + tD (dT D)) (hk : k < tP (dT D) + tD (dT D)) (h : (dNm D j).1 = (dNm D k).1) : j = k := by
  rcases Nat.lt_trichotomy j k with z | z | z
  · exact absurd h (hO.2.2.2.2.2.2.2 j k z hk)
  · exact z
  · exact absurd h.symm (hO.2.2.2.2.2.2.2 k j z hj)
theorem fnP_s {p : Nat} (h : fnP D K = some p) : p < tP (dT D) ∧ dPn D p = K := by
  obtain ⟨a, c, -⟩ := fnd_some h
  exact ⟨a, by simpa using c⟩
theorem fnD_s {p : Nat} (h : fnD D K = some p) : p < tD (dT D) ∧ dDn D p = K := by
  obtain ⟨a, c, -⟩ := fnd_some h
  exact ⟨a, by simpa using c⟩
theorem fnN_s {k : Nat} (h : fnN D K = some k) : k < tP (dT D) + tD (dT D) ∧ (dNm D k).1 = K := by
  obtain ⟨a, c, -⟩ := fnd_some h
  exact ⟨a, by simpa using c⟩
theorem fnP_N (hO : DOK D) {p : Nat} (h : fnP D K = some p) : ∃ k, fnN D K = some k ∧ dNm D k = (K, 0, p) := by
  obtain ⟨h1, h2⟩ := fnP_s h
  obtain ⟨k, k1, k2⟩ := hO.2.2.2.2.2.1 p h1
  rw [h2] at k2
  cases e : fnN D K with
  | none => have := fnd_none e k k1; simp [k2] at this
  | some j =>
    obtain ⟨j1, j2⟩ := fnN_s e
    have := nm_un hO j1 k1 (by rw [j2, k2])
    exact ⟨j, rfl, by rw [this]; exact k2⟩
theorem fnD_N (hO : DOK D) {p : Nat} (h : fnD D K = some p) : ∃ k, fnN D K = some k ∧ dNm D k = (K, 1, p) := by
  obtain ⟨h1, h2⟩ := fnD_s h
  obtain ⟨k, k1, k2⟩ := hO.2.2.2.2.2.2.1 p h1
  rw [h2] at k2
  cases e : fnN D K with
  | none => have := fnd_none e k k1; simp [k2] at this
  | some j =>
    obtain ⟨j1, j2⟩ := fnN_s e
    have := nm_un hO j1 k1 (by rw [j2, k2])
    exact ⟨j, rfl, by rw [this]; exact k2⟩
theorem fnN_tl (hO : DOK D) : (fnN D K).isSome = tlB D K := by
  unfold tlB
  cases e : fnN D K with
  | none =>
    cases e1 : fnP D K with
    | some p => obtain ⟨k, k1, -⟩ := fnP_N hO e1; rw [e] at k1; cases k1
    | none =>
      cases e2 : fnD D K with
      | some p => obtain ⟨k, k1, -⟩ := fnD_N hO e2; rw [e] at k1; cases k1
      | none => rfl
  | some k =>
    obtain ⟨k1, k2⟩ := fnN_s e
    rcases hO.2.2.2.2.1 k k1 with ⟨a1, a2, a3⟩ | ⟨a1, a2, a3⟩
    · cases e1 : fnP D K with
      | some p => rfl
      | none => have := fnd_none e1 _ a2; simp [← a3, k2] at this
    · cases e1 : fnD D K with
      | some p => cases fnP D K <;> rfl
      | none => have := fnd_none e1 _ a2; simp [← a3, k2] at this
/-- what the reference finds for a sort: as the class does -/
theorem fnN_so (hO : DOK D) {so : Nat} {f : Option Nat} (hf : (so = 0 ∧ f = fnP D K) ∨ (so = 1 ∧ f = fnD D K)) : (∀ k, fnN D K = some k → (dNm D k).2.1 = so → f = some (dNm D k).2.2) ∧ (∀ k, fnN D K = some k → (dNm D k).2.1 ≠ so → f = none) ∧ (fnN D K = none → f = none) := by
  rcases hf with ⟨rfl, rfl⟩ | ⟨rfl, rfl⟩
  · refine ⟨fun k hk hs => ?_, fun k hk hs => ?_, fun hk => ?_⟩
    · obtain ⟨k1, k2⟩ := fnN_s hk
      rcases hO.2.2.2.2.1 k k1 with ⟨a1, a2, a3⟩ | ⟨a1, a2, a3⟩
      · cases e : fnP D K with
        | none => have := fnd_none e _ a2; simp [← a3, k2] at this
        | some p =>
          obtain ⟨j, j1, j2⟩ := fnP_N hO e
          rw [hk] at j1; cases j1
          rw [j2]
      · omega
    · cases e : fnP D K with
      | none => rfl
      | some p =>
        obtain ⟨j, j1, j2⟩ := fnP_N hO e
        rw [hk] at j1; cases j1
        rw [j2] at hs; exact absurd rfl hs
    · cases e : fnP D K with
      | none => rfl
      | some p =>
        obtain ⟨j, j1, j2⟩ := fnP_N hO e
        rw [hk] at j1; cases j1
  · refine ⟨fun k hk hs => ?_, fun k hk hs => ?_, fun hk => ?_⟩
    · obtain ⟨k1, k2⟩ := fnN_s hk
      rcases hO.2.2.2.2.1 k k1 with ⟨a1, a2, a3⟩ | ⟨a1, a2, a3⟩
      · omega
      · cases e : fnD D K with
        | none => have := fnd_none e _ a2; simp [← a3, k2] at this
        | some p =>
          obtain ⟨j, j1, j2⟩ := fnD_N hO e
          rw [hk] at j1; cases j1
          rw [j2]
    · cases e : fnD D K with
      | none => rfl
      | some p =>
        obtain ⟨j, j1, j2⟩ := fnD_N hO e
        rw [hk] at j1; cases j1
        rw [j2] at hs; exact absurd rfl hs
    · cases e : fnD D K with
      | none => rfl
      | some p =>
        obtain ⟨j, j1, j2⟩ := fnD_N hO e
        rw [hk] at j1; cases j1
end NAMES
section MDRAFT
variable {s s1 : St} {n t : Nat} {b : Nat → Int} {q : PQ} {D : DR}
theorem RTs.fr {L : Nat → Prop} (h : RTs s t) (hf : Fr L s s1) : RTs s1 t := by
  unfold RTs at h ⊢
  simp only [hf.kds, hf.lns, hf.refs]
  exact h
theorem MDr.fm (h : MDr s t D) (hT : 89 ≤ t) (hf : Fm s s1) : MDr s1 t D := by
  have e : ∀ c k, gI s1 (ad t c) k = gI s (ad t c) k := fun c k => hf.1.nu (by rw [ad_t]; omega)
  unfold MDr at h ⊢
  simp only [e]
  exact h
theorem m_find {x : Int} (hR : RTs s t) (hD : MDr s t D) (hO : DOK D) : X12_find s (ad t 0) x = some (fn1 (fnd (fun k => decide (gI s (ad t 11) k = x)) (tP (dT D) + tD (dT D))), s) := by
  have p6 := hO.1.2.2.2.2.1
  have d6 := hO.1.2.2.2.2.2.1
  have hA := adF_ hR
  have h7 := hD.1.2.2.2.2.2.2
  unfold X12_find X12_find_b2
  refine (iter_fnd (fun k : Nat => (s, ad t 0, x, (k : Int))) (tP (dT D) + tD (dT D)) (fun k => decide (gI s (ad t 11) k = x)) (fun k => some ((k : Int), s)) (some (-1, s)) FU (by clear hA; unfold FU; omega) (fun k hk rec => ?_) (fun rec => ?_)).trans ?_
  · have g1 : ¬ tP (dT D) + tD (dT D) ≤ k := by clear hA; omega
    have g2 : (k : Int) < 12 := by clear hA; omega
    have g3 : ¬ ((tP (dT D) + tD (dT D) : Nat) : Int) ≤ (k : Int) := by clear hA; omega
    have hw := wk1 (k := k) (by clear hA; omega)
    simp only [X12_find_b2_body]
    rw [h7, if_neg g3]
    by_cases e : gI s (ad t 11) k = x <;> simp [tF, isK, hR.2.2, hA.1, hA.2.2.1, g2, cmp3_0, e, hw]
  · simp only [X12_find_b2_body]
    rw [h7, if_pos (Int.le_refl _)]
    simp [tF, isK, hR.2.2, hA.1, hA.2.2.1]
  · unfold fn1
    cases fnd (fun k => decide (gI s (ad t 11) k = x)) (tP (dT D) + tD (dT D)) <;> rfl
theorem m_findK {K : Nat} (hR : RTs s t) (hD : MDr s t D) (hO : DOK D) : X12_find s (ad t 0) (K : Int) = some (fn1 (fnN D K), s) := by
  rw [m_find hR hD hO]
  have : fnd (fun k => decide (gI s (ad t 11) k = (K : Int))) (tP (dT D) + tD (dT D)) = fnN D K := fnd_cg (fun k hk => by
    rw [(hD.2.2.2.2.2 k hk).1, decide_eq_decide]; omega)
  rw [this]
theorem m_begin {many most : Nat} {full : Bool} (h : RdQ n b s q) (hR : RTs s t) (hD : MDr s t D) (hf : full = decide (many = most)) (hm : tH (dT D) = 0 → many ≠ most) (h4 : q.1 = 0 → tkK n b q.2.2.1 ≠ 4) : ∃ s1, X13_lineBegins s 76 many most = some (0, s1) ∧ Fm s s1 ∧ RdQ n b s1 (qB n b D full q) := by
  have k : ∀ s : St, Sh s → isK s 23 76 := fun s hs => ⟨by decide, kd_76 hs⟩
  have kt : ∀ s : St, RTs s t → isK s 22 (ad t 0) := fun s hs => ⟨⟨ad_0 t 0, (adF_ hs).2.2.1.1⟩, hs.2.2.1⟩
  have b26 : ∀ s1 : St, Fm s s1 → RdQ n b s1 (qP n b full 5 (qP n b (decide (tH (dT D) = 0)) 6 q)) → ∃ s2, X13_lineBegins_b26 s1 76 = some (0, s2) ∧ Fm s s2 ∧ RdQ n b s2 (qB n b D full q) := by
    intro s1 f1 c1
    obtain ⟨s2, e2, f2, c2⟩ := m_goQ c1 (fun w => by
      obtain ⟨w1, w2, w3⟩ := qP_l (by decide) w
      obtain ⟨v1, v2, v3⟩ := qP_l (by decide) w1
      rw [w3, v3]; exact h4 v1)
    refine ⟨s2, ?_, f1.trans f2, c2⟩
    unfold X13_lineBegins_b26
    rw [grd_t (k _ c1.1), e2, bnd_some]
  have b10 : ∀ s1 : St, Fm s s1 → (tH (dT D) = 0 → RdQ n b s1 q) → (tH (dT D) ≠ 0 → RdQ n b s1 (qP n b full 5 q)) → Sh s1 → ∃ s2, X13_lineBegins_b10 s1 76 = some (0, s2) ∧ Fm s s2 ∧ RdQ n b s2 (qB n b D full q) := by
    intro s1 f1 c1 c2 hS1
    have hR1 := hR.fr f1.1
    have hD1 := hD.fm hR.1.1 f1
    unfold X13_lineBegins_b10
    rw [grd_t (k _ hS1), hR1.2.1, grd_t (kt _ hR1), hD1.1.1]
    by_cases y : tH (dT D) = 0
    · have ff : full = false := by rw [hf]; simp [hm y]
      obtain ⟨s2, g1, g2, g3⟩ := m_flawQ (k := 6) (c1 y) (by decide)
      obtain ⟨s3, e3, f3⟩ := b26 s2 (f1.trans g2) (by
        rw [qP_t (c := full) ff, show decide (tH (dT D) = 0) = true by simp [y]]; exact g3)
      refine ⟨s3, ?_, f3⟩
      rw [if_neg (by omega), grd_t (k _ hS1), g1, bnd_some]
      exact e3
    · obtain ⟨s3, e3, f3⟩ := b26 s1 f1 (by
        rw [qP_t (c := decide (tH (dT D) = 0)) (by simp [y])]; exact c2 y)
      refine ⟨s3, ?_, f3⟩
      rw [if_pos (by omega)]
      exact e3
  unfold X13_lineBegins
  by_cases y : many = most
  · have ff : full = true := by rw [hf]; simp [y]
    obtain ⟨s1, g1, g2, g3⟩ := m_flawQ (k := 5) h (by decide)
    obtain ⟨s3, e3, f3⟩ := b10 s1 g2 (fun z => absurd y (hm z)) (fun _ => by rw [ff]; exact g3) g3.1
    refine ⟨s3, ?_, f3⟩
    rw [if_neg (fun w => w (by rw [y])), grd_t (k _ h.1), g1, bnd_some]
    exact e3
  · have ff : full = false := by rw [hf]; simp [y]
    obtain ⟨s3, e3, f3⟩ := b10 s (Fm.refl s) (fun _ => h) (fun _ => by rw [qP_t ff]; exact h) h.1
    refine ⟨s3, ?_, f3⟩
    rw [if_pos (by omega)]
    exact e3
def qNa (n : Nat) (b : Nat → Int) (q : PQ) : PQ := qP n b (!nmB n b q.2.2.1) 1 q
theorem m_nameQ (h : RdQ n b s q) : ∃ s1, (if ¬ nmV s = 0 then some ((0 : Int), s) else X13_flaw s 76 1) = some (0, s1) ∧ Fm s s1 ∧ RdQ n b s1 (qNa n b q) ∧ gI s1 76 14 = gI s 76 14 := by
  by_cases z : q.1 = 0
  · by_cases y : nmB n b q.2.2.1 = true
    · have e := m_isNmL h z
      rw [if_pos y] at e
      refine ⟨s, ?_, Fm.refl s, ?_, rfl⟩
      · rw [e, if_pos (by decide)]
      · unfold qNa; rw [qP_t (by rw [y]; rfl)]; exact h
    · have e := m_isNmL h z
      rw [if_neg y] at e
      obtain ⟨s1, g1, g2, g3⟩ := m_flawQ (k := 1) h (by decide)
      refine ⟨s1, ?_, g2, ?_, ?_⟩
      · rw [e, if_neg (by decide)]; exact g1
      · unfold qNa; rw [show (!nmB n b q.2.2.1) = true by simpa using y]; exact g3
      · unfold X13_flaw at g1
        have n5 : ¬ gI s 76 9 = 5 := fun w => h.nf.1 w z
        simp [tF, isK, shF h.1, n5, gI_pI] at g1
        rw [← g1]
        simp [gI_pI]
  · have e := m_isNmF h z
    have y5 := (h.2.2 z).1
    refine ⟨s, ?_, Fm.refl s, ?_, rfl⟩
    · rw [e, if_neg (by decide)]
      unfold X13_flaw
      simp [tF, isK, shF h.1, y5]
    · unfold qNa; rw [qP_fz z]; exact h
theorem qNa_l (h : (qNa n b q).1 = 0) : q.1 = 0 ∧ nmB n b q.2.2.1 = true ∧ qNa n b q = q := by
  unfold qNa at h ⊢
  obtain ⟨h1, h2, h3⟩ := qP_l (by decide) h
  exact ⟨h1, by simpa using h2, h3⟩
theorem nm_k4 {i : Nat} (h : nmB n b i = true) : tkK n b i = 1 := by
  unfold nmB at h; simp at h; exact h.1
/-- gone over behind checks: taken, then failed at the place taken -/
theorem qNa_S {c : Bool} {k : Int} (hk : k ≠ 0) (h : RdQ n b s (qS n b true (qP n b c k (qNa n b q)))) : RdQ n b s (qF c k (qN n b q)) := by
  by_cases z : q.1 = 0
  · refine h.eqv ?_ ?_ ?_ <;> unfold qNa qN qS qF qP <;> cases nmB n b q.2.2.1 <;> cases c <;> simp [z, hk]
  · unfold qNa at h
    unfold qN
    rw [qP_fz (q := q) z, qP_fz z, qS_fz z] at h
    rw [qS_fz z, qF_fz z]
    exact h
theorem m_fresh (h : RdQ n b s q) (hR : RTs s t) (hD : MDr s t D) (hO : DOK D) : ∃ r s1, X13_readFresh s 76 = some (r, s1) ∧ Fm s s1 ∧ RdQ n b s1 (qNew n b D q) ∧ ((qNew n b D q).1 = 0 → r = (tkY n b q.2.2.1 : Int)) := by
  have k : ∀ s : St, Sh s → isK s 23 76 := fun s hs => ⟨by decide, kd_76 hs⟩
  have kt : ∀ s : St, RTs s t → isK s 22 (ad t 0) := fun s hs => ⟨⟨ad_0 t 0, (adF_ hs).2.2.1.1⟩, hs.2.2.1⟩
  obtain ⟨s1, e1, f1, c1, w1⟩ := m_nameQ h
  have hR1 := hR.fr f1.1
  have hD1 := hD.fm hR.1.1 f1
  have hS1 := c1.1
  have word : (qNa n b q).1 = 0 → gI s1 76 14 = (tkY n b q.2.2.1 : Int) := fun z => by
    obtain ⟨z1, z2, z3⟩ := qNa_l z
    rw [w1]
    exact (h.2.1 z1).1.2.2.2.2.2.1 (nm_k4 z2)
  have b32 : ∀ s2 : St, Fm s s2 → RdQ n b s2 (qP n b (tlB D (tkY n b q.2.2.1)) 3 (qNa n b q)) → gI s2 76 14 = gI s1 76 14 → ∃ r s3, X13_readFresh_b32 s2 76 = some (r, s3) ∧ Fm s s3 ∧ RdQ n b s3 (qNew n b D q) ∧ ((qNew n b D q).1 = 0 → r = (tkY n b q.2.2.1 : Int)) := by
    intro s2 f2 c2 w2
    obtain ⟨s3, e3, f3, c3⟩ := m_goQ c2 (fun w => by
      obtain ⟨a1, a2, a3⟩ := qP_l (by decide) w
      obtain ⟨b1, b2, b3⟩ := qNa_l a1
      rw [a3, b3, nm_k4 b2]; decide)
    refine ⟨gI s2 76 14, s3, ?_, f2.trans f3, qNa_S (by decide) c3, fun w => ?_⟩
    · unfold X13_readFresh_b32
      rw [grd_t (k _ c2.1), grd_t (k _ c2.1), e3, bnd_some]
    · obtain ⟨a1, a2, a3, a4⟩ := qNew_l w
      rw [w2]
      refine word ?_
      unfold qNa; rw [qP_t (by rw [a2]; rfl)]; exact a1
  have b12 : ∃ r s3, X13_readFresh_b12 s1 76 = some (r, s3) ∧ Fm s s3 ∧ RdQ n b s3 (qNew n b D q) ∧ ((qNew n b D q).1 = 0 → r = (tkY n b q.2.2.1 : Int)) := by
    unfold X13_readFresh_b12
    rw [grd_t (k _ hS1), grd_t (k _ hS1), hR1.2.1, grd_t (kt _ hR1), m_find hR1 hD1 hO, bnd_some]
    have told : (qNa n b q).1 = 0 → (fnd (fun k => decide (gI s1 (ad t 11) k = gI s1 76 14)) (tP (dT D) + tD (dT D))).isSome = tlB D (tkY n b q.2.2.1) := fun z => by
      rw [word z, ← fnN_tl hO]
      congr 1
      exact fnd_cg (fun k hk => by rw [(hD1.2.2.2.2.2 k hk).1, decide_eq_decide]; omega)
    cases hf : fnd (fun k => decide (gI s1 (ad t 11) k = gI s1 76 14)) (tP (dT D) + tD (dT D)) with
    | none =>
      rw [hf] at told
      rw [show fn1 none = -1 from rfl, if_pos rfl]
      refine b32 s1 f1 ?_ rfl
      by_cases z : (qNa n b q).1 = 0
      · rw [qP_t (told z).symm]; exact c1
      · rw [qP_fz z]; exact c1
    | some j =>
      rw [hf] at told
      obtain ⟨s2, g1, g2, g3⟩ := m_flawQ (k := 3) c1 (by decide)
      have w2 : gI s2 76 14 = gI s1 76 14 := by
        unfold X13_flaw at g1
        by_cases n5 : gI s1 76 9 = 5
        · simp [tF, isK, shF hS1, n5] at g1
          rw [← g1]
        · simp [tF, isK, shF hS1, n5, gI_pI] at g1
          rw [← g1]
          simp [gI_pI]
      have b32' := b32 s2 (f1.trans g2) (by
        by_cases z : (qNa n b q).1 = 0
        · rw [← told z]; exact g3
        · rw [qP_fz z] at g3 ⊢; exact g3) w2
      rw [show fn1 (some j) = (j : Int) from rfl, if_neg (by omega), grd_t (k _ hS1), g1, bnd_some]
      exact b32'
  unfold X13_readFresh
  rw [grd_t (k _ h.1), m_isName h.1, bnd_some]
  by_cases y : nmV s = 0
  · rw [if_neg (fun w => w y)] at e1
    rw [if_neg (fun w => w y), grd_t (k _ h.1), e1, bnd_some]
    exact b12
  · rw [if_pos y] at e1 ⊢
    cases e1
    exact b12
def qKa (n : Nat) (b : Nat → Int) (f : Option Nat) (q : PQ) : PQ := qP n b (!f.isSome) 2 (qNa n b q)
theorem qKa_l {f : Option Nat} (h : (qKa n b f q).1 = 0) : q.1 = 0 ∧ nmB n b q.2.2.1 = true ∧ f.isSome = true ∧ qKa n b f q = q := by
  unfold qKa at h ⊢
  obtain ⟨h1, h2, h3⟩ := qP_l (by decide) h
  obtain ⟨g1, g2, g3⟩ := qNa_l h1
  rw [h3, g3]
  exact ⟨g1, g2, by simpa using h2, rfl⟩
theorem m_known {so : Nat} {f : Option Nat} (h : RdQ n b s q) (hR : RTs s t) (hD : MDr s t D) (hO : DOK D) (hf : (so = 0 ∧ f = fnP D (tkY n b q.2.2.1)) ∨ (so = 1 ∧ f = fnD D (tkY n b q.2.2.1))) : ∃ r s1, X13_knownOne s 76 so = some (r, s1) ∧ Fm s s1 ∧ RdQ n b s1 (qKa n b f q) ∧ ((qKa n b f q).1 = 0 → ∃ p, f = some p ∧ r = (p : Int)) := by
  have k : ∀ s : St, Sh s → isK s 23 76 := fun s hs => ⟨by decide, kd_76 hs⟩
  have kt : ∀ s : St, RTs s t → isK s 22 (ad t 0) := fun s hs => ⟨⟨ad_0 t 0, (adF_ hs).2.2.1.1⟩, hs.2.2.1⟩
  have p6 := hO.1.2.2.2.2.1
  have d6 := hO.1.2.2.2.2.2.1
  obtain ⟨s1, e1, f1, c1, w1⟩ := m_nameQ h
  have hR1 := hR.fr f1.1
  have hD1 := hD.fm hR.1.1 f1
  have hS1 := c1.1
  have hA := adF_ hR1
  have word : (qNa n b q).1 = 0 → gI s1 76 14 = (tkY n b q.2.2.1 : Int) := fun z => by
    obtain ⟨z1, z2, z3⟩ := qNa_l z
    rw [w1]
    exact (h.2.1 z1).1.2.2.2.2.2.1 (nm_k4 z2)
  have told : (qNa n b q).1 = 0 → fnd (fun k => decide (gI s1 (ad t 11) k = gI s1 76 14)) (tP (dT D) + tD (dT D)) = fnN D (tkY n b q.2.2.1) := fun z => by
    rw [word z]
    exact fnd_cg (fun k hk => by rw [(hD1.2.2.2.2.2 k hk).1, decide_eq_decide]; omega)
  obtain ⟨so1, so2, so3⟩ := fnN_so hO hf
  have b47f : ∀ (s2 : St) (x : Int), RdQ n b s2 (qKa n b f q) → (qKa n b f q).1 ≠ 0 → X13_knownOne_b47 s2 76 x = some (0, s2) := by
    intro s2 x c2 hz
    unfold X13_knownOne_b47 X13_knownOne_b68
    rw [grd_t (k _ c2.1), if_neg (fun w => w (c2.2.2 hz).1)]
  have b42 : ∀ x : Int, ((qNa n b q).1 = 0 → f = none) → ∃ r s3, X13_knownOne_b42 s1 76 x = some (r, s3) ∧ Fm s s3 ∧ RdQ n b s3 (qKa n b f q) ∧ ((qKa n b f q).1 = 0 → ∃ p, f = some p ∧ r = (p : Int)) := by
    intro x hn
    obtain ⟨s2, g1, g2, g3⟩ := m_flawQ (k := 2) c1 (by decide)
    have c2 : RdQ n b s2 (qKa n b f q) := by
      unfold qKa
      by_cases z : (qNa n b q).1 = 0
      · rw [hn z]; exact g3
      · rw [qP_fz z] at g3 ⊢; exact g3
    have nz : (qKa n b f q).1 ≠ 0 := fun w => by
      obtain ⟨a1, a2, a3, a4⟩ := qKa_l w
      have : (qNa n b q).1 = 0 := by unfold qNa; rw [qP_t (by rw [a2]; rfl)]; exact a1
      rw [hn this] at a3
      cases a3
    refine ⟨0, s2, ?_, f1.trans g2, c2, fun w => absurd w nz⟩
    unfold X13_knownOne_b42
    rw [grd_t (k _ hS1), g1, bnd_some, b47f s2 x c2 nz]
  have b12 : ∃ r s3, X13_knownOne_b12 s1 76 so = some (r, s3) ∧ Fm s s3 ∧ RdQ n b s3 (qKa n b f q) ∧ ((qKa n b f q).1 = 0 → ∃ p, f = some p ∧ r = (p : Int)) := by
    unfold X13_knownOne_b12
    rw [grd_t (k _ hS1), grd_t (k _ hS1), hR1.2.1, grd_t (kt _ hR1), m_find hR1 hD1 hO, bnd_some]
    cases hg : fnd (fun k => decide (gI s1 (ad t 11) k = gI s1 76 14)) (tP (dT D) + tD (dT D)) with
    | none =>
      rw [show fn1 none = -1 from rfl, if_pos rfl]
      exact b42 _ (fun z => so3 (by rw [← told z, hg]))
    | some j =>
      have jl := (fnd_some hg).1
      have e12 := (hD1.2.2.2.2.2 j jl).2.1
      have e13 := (hD1.2.2.2.2.2 j jl).2.2
      have gj : (j : Int) < 12 := by clear hA; omega
      rw [show fn1 (some j) = (j : Int) from rfl, if_neg (by clear hA; omega), grd_t (k _ hS1), hR1.2.1, grd_t (kt _ hR1), hR1.2.2.2.1.2.2.2.2.2.2.2.2.2.2.2.1, grd_t (by simp [isK, hR1.2.2, hA.1, hA.2.2.1, gj]), Int.toNat_natCast, e12]
      by_cases y : (dNm D j).2.1 = so
      · rw [if_pos (by rw [y])]
        have cK : RdQ n b s1 (qKa n b f q) := by
          unfold qKa
          by_cases z : (qNa n b q).1 = 0
          · rw [qP_t (by rw [so1 j (by rw [← told z, hg]) y]; rfl)]; exact c1
          · rw [qP_fz z]; exact c1
        by_cases z : (qKa n b f q).1 = 0
        · have n5 : ¬ gI s1 76 9 = 5 := fun w => cK.nf.1 w z
          refine ⟨((dNm D j).2.2 : Int), s1, ?_, f1, cK, fun _ => ?_⟩
          · unfold X13_knownOne_b47 X13_knownOne_b68
            rw [grd_t (k _ hS1), if_pos n5, grd_t (k _ hS1), hR1.2.1, grd_t (kt _ hR1), hR1.2.2.2.1.2.2.2.2.2.2.2.2.2.2.2.2, grd_t (by simp [isK, hR1.2.2, hA.1, hA.2.2.1, gj]), Int.toNat_natCast, e13]
          · obtain ⟨a1, a2, a3, a4⟩ := qKa_l z
            have z2 : (qNa n b q).1 = 0 := by unfold qNa; rw [qP_t (by rw [a2]; rfl)]; exact a1
            exact ⟨_, so1 j (by rw [← told z2, hg]) y, rfl⟩
        · exact ⟨0, s1, b47f s1 _ cK z, f1, cK, fun w => absurd w z⟩
      · rw [if_neg (by clear hA; omega)]
        exact b42 _ (fun z => so2 j (by rw [← told z, hg]) y)
  unfold X13_knownOne
  rw [grd_t (k _ h.1), m_isName h.1, bnd_some]
  by_cases y : nmV s = 0
  · rw [if_neg (fun w => w y)] at e1
    rw [if_neg (fun w => w y), grd_t (k _ h.1), e1, bnd_some]
    exact b12
  · rw [if_pos y] at e1 ⊢
    cases e1
    exact b12
theorem m_rknown {so : Nat} {f : Option Nat} (h : RdQ n b s q) (hR : RTs s t) (hD : MDr s t D) (hO : DOK D) (hf : (so = 0 ∧ f = fnP D (tkY n b q.2.2.1)) ∨ (so = 1 ∧ f = fnD D (tkY n b q.2.2.1))) : ∃ r s1, X13_readKnown s 76 so = some (r, s1) ∧ Fm s s1 ∧ RdQ n b s1 (qKn n b f q) ∧ ((qKn n b f q).1 = 0 → ∃ p, f = some p ∧ r = (p : Int)) := by
  have k : ∀ s : St, Sh s → isK s 23 76 := fun s hs => ⟨by decide, kd_76 hs⟩
  obtain ⟨r, s1, e1, f1, c1, v1⟩ := m_known h hR hD hO hf
  obtain ⟨s2, e2, f2, c2⟩ := m_goQ c1 (fun w => by
    obtain ⟨a1, a2, a3, a4⟩ := qKa_l w
    rw [a4, nm_k4 a2]; decide)
  refine ⟨r, s2, ?_, f1.trans f2, qNa_S (by decide) c2, fun w => v1 ?_⟩
  · unfold X13_readKnown
    rw [grd_t (k _ h.1), e1, bnd_some, grd_t (k _ c1.1), e2, bnd_some]
  · obtain ⟨a1, a2, a3, a4⟩ := qKn_l w
    unfold qKa qNa
    rw [qP_t (c := !nmB n b q.2.2.1) (by rw [a2]; rfl), qP_t (by rw [a3]; rfl)]
    exact a1
end MDRAFT
