/-! the draft; names told -/
abbrev DR : Type := Tw × (Nat → Nat) × (Nat → Nat) × (Nat → Nat × Nat × Nat)
def dT (D : DR) : Tw := D.1
def dPn (D : DR) : Nat → Nat := D.2.1
def dDn (D : DR) : Nat → Nat := D.2.2.1
def dNm (D : DR) : Nat → Nat × Nat × Nat := D.2.2.2
def CDr (s : St) (D : DR) : Prop := (gI s 3 0 = (tH (dT D) : Int) ∧ gI s 3 1 = (tL (dT D) : Int) ∧ gI s 3 2 = (tP (dT D) : Int) ∧ gI s 3 3 = (tD (dT D) : Int) ∧ gI s 3 4 = (tU (dT D) : Int) ∧ gI s 3 5 = (tQ (dT D) : Int)) ∧
  (∀ p, p < tP (dT D) → gI s 5 p = nHo (tN (dT D)) p ∧ gI s 17 p = (cv 8 (dPn D p) : Int)) ∧
  (∀ d, d < tD (dT D) → (gI s 8 d = tLaw (dT D) d ∧ gI s 9 d = (tFo (dT D) d : Int)) ∧ (gI s 6 d = nSl (tN (dT D)) d ∧ gI s 7 d = nMi (tN (dT D)) d) ∧ gI s 18 d = (cv 8 (dDn D d) : Int)) ∧
  (∀ k, k < tU (dT D) → gI s 10 k = (tUd (dT D) k : Int) ∧ gI s 11 k = tUs (dT D) k) ∧ (∀ k, k < tQ (dT D) → gI s 12 k = tQp (dT D) k ∧ gI s 13 k = (tQd (dT D) k : Int) ∧ gI s 14 k = tQn (dT D) k)
/-- what is told, as far as it is told -/
def DO1 (T : Tw) : Prop := (tH T = 0 → tP T = 0 ∧ tD T = 0 ∧ tU T = 0 ∧ tQ T = 0) ∧ (tH T ≠ 0 → 2 ≤ tH T) ∧ (tH T ≤ 40 ∧ tL T ≤ 100 ∧ tP T ≤ 6 ∧ tD T ≤ 6 ∧ tU T ≤ 4 ∧ tQ T ≤ 8)
def DO2 (T : Tw) : Prop := (∀ d, d < tD T → 0 ≤ tLaw T d ∧ tLaw T d ≤ 3 ∧ tFo T d < tP T) ∧ (∀ k, k < tU T → tUd T k < tD T ∧ 0 ≤ tUs T k ∧ tUs T k ≤ 39) ∧ ∀ k, k < tQ T → tQd T k < tD T ∧ 0 ≤ tQn T k ∧ tQn T k ≤ 60
def DO3 (T : Tw) : Prop := nN (tN T) = 0 ∧ (∀ p, p < tP T → 0 ≤ nHo (tN T) p ∧ nHo (tN T) p < tH T) ∧ (∀ p q, p < tP T → q < p → nHo (tN T) q ≠ nHo (tN T) p) ∧ ∀ d, d < tD T → (0 ≤ nSl (tN T) d ∧ nSl (tN T) d ≤ 39) ∧ (nMi (tN T) d = -2 ∨ (0 ≤ nMi (tN T) d ∧ nMi (tN T) d < tH T))
/-- the names: each once, each with its number -/
def DO4 (D : DR) : Prop := ((∀ p, p < tP (dT D) → vdK 8 (dPn D p)) ∧ ∀ d, d < tD (dT D) → vdK 8 (dDn D d)) ∧
  (∀ k, k < tP (dT D) + tD (dT D) → ((dNm D k).2.1 = 0 ∧ (dNm D k).2.2 < tP (dT D) ∧ (dNm D k).1 = dPn D (dNm D k).2.2) ∨ ((dNm D k).2.1 = 1 ∧ (dNm D k).2.2 < tD (dT D) ∧ (dNm D k).1 = dDn D (dNm D k).2.2)) ∧
  (∀ p, p < tP (dT D) → ∃ k, k < tP (dT D) + tD (dT D) ∧ dNm D k = (dPn D p, 0, p)) ∧ (∀ d, d < tD (dT D) → ∃ k, k < tP (dT D) + tD (dT D) ∧ dNm D k = (dDn D d, 1, d)) ∧
  ∀ j k, j < k → k < tP (dT D) + tD (dT D) → (dNm D j).1 ≠ (dNm D k).1
def DOK (D : DR) : Prop := DO1 (dT D) ∧ DO2 (dT D) ∧ DO3 (dT D) ∧ DO4 D
def fnP (D : DR) (K : Nat) : Option Nat := fnd (fun p => decide (dPn D p = K)) (tP (dT D))
def fnD (D : DR) (K : Nat) : Option Nat := fnd (fun d => decide (dDn D d = K)) (tD (dT D))
def tlB (D : DR) (K : Nat) : Bool := (fnP D K).isSome || (fnD D K).isSome
def qB (n : Nat) (b : Nat → Int) (D : DR) (full : Bool) (q : PQ) : PQ := qS n b true (qP n b full 5 (qP n b (decide (tH (dT D) = 0)) 6 q))
def qNew (n : Nat) (b : Nat → Int) (D : DR) (q : PQ) : PQ := qF (tlB D (tkY n b q.2.2.1)) 3 (qN n b q)
def qKn (n : Nat) (b : Nat → Int) (f : Option Nat) (q : PQ) : PQ := qF (!f.isSome) 2 (qN n b q)
def fn1 (f : Option Nat) : Int := match f with | some j => (j : Int) | none => -1
section DRAFT
variable {s s1 : St} {n : Nat} {b : Nat → Int} {q : PQ} {D : DR}
theorem CDr.fr {L : Nat → Prop} (h : CDr s D) (hf : Fr L s s1) (hL : ∀ a, 3 ≤ a → a ≤ 18 → a ≠ 15 → ¬ L a) : CDr s1 D := by
  have e : ∀ (a : Int) (k : Nat), 3 ≤ a.toNat → a.toNat ≤ 18 → a.toNat ≠ 15 → gI s1 a k = gI s a k := fun a k h1 h2 h3 => hf.nu (hL _ h1 h2 h3)
  have e3 : ∀ k, gI s1 3 k = gI s 3 k := fun k => e 3 k (by decide) (by decide) (by decide)
  have e5 : ∀ k, gI s1 5 k = gI s 5 k := fun k => e 5 k (by decide) (by decide) (by decide)
  have e6 : ∀ k, gI s1 6 k = gI s 6 k := fun k => e 6 k (by decide) (by decide) (by decide)
  have e7 : ∀ k, gI s1 7 k = gI s 7 k := fun k => e 7 k (by decide) (by decide) (by decide)
  have e8 : ∀ k, gI s1 8 k = gI s 8 k := fun k => e 8 k (by decide) (by decide) (by decide)
  have e9 : ∀ k, gI s1 9 k = gI s 9 k := fun k => e 9 k (by decide) (by decide) (by decide)
  have e10 : ∀ k, gI s1 10 k = gI s 10 k := fun k => e 10 k (by decide) (by decide) (by decide)
  have e11 : ∀ k, gI s1 11 k = gI s 11 k := fun k => e 11 k (by decide) (by decide) (by decide)
  have e12 : ∀ k, gI s1 12 k = gI s 12 k := fun k => e 12 k (by decide) (by decide) (by decide)
  have e13 : ∀ k, gI s1 13 k = gI s 13 k := fun k => e 13 k (by decide) (by decide) (by decide)
  have e14 : ∀ k, gI s1 14 k = gI s 14 k := fun k => e 14 k (by decide) (by decide) (by decide)
  have e17 : ∀ k, gI s1 17 k = gI s 17 k := fun k => e 17 k (by decide) (by decide) (by decide)
  have e18 : ∀ k, gI s1 18 k = gI s 18 k := fun k => e 18 k (by decide) (by decide) (by decide)
  unfold CDr at h ⊢
  simp only [e3, e5, e6, e7, e8, e9, e10, e11, e12, e13, e14, e17, e18]
  exact h
theorem CDr.fT (h : CDr s D) (hf : Fr cT s s1) : CDr s1 D := h.fr hf (fun a h1 h2 h3 z => by unfold cT at z; omega)
theorem c_find {row name : Int} {m : Nat} (hS : Sh s) (hr : row = 17 ∨ row = 18) (hm : m ≤ 6) : X4_find s name row m = some (fn1 (fnd (fun j => decide (gI s row j = name)) m), s) := by
  unfold X4_find X4_find_b3
  refine (iter_fnd (fun k : Nat => (s, name, row, (m : Int), (k : Int))) m (fun j => decide (gI s row j = name)) (fun k => some ((k : Int), s)) (some (-1, s)) FU (by unfold FU; omega) (fun k hk rec => ?_) (fun rec => ?_)).trans ?_
  · have g1 : ¬ (m : Int) ≤ (k : Int) := by omega
    have g2 : ¬ (6 : Int) ≤ (k : Int) := by omega
    have g3 : (k : Int) < 6 := by omega
    have g4 : ¬ m ≤ k := by omega
    have hw := wk1 (k := k) (by omega)
    by_cases e : gI s row k = name <;> rcases hr with rfl | rfl <;> simp [X4_find_b3_body, X4_find_b34, tF, isK, shF hS, g2, g3, g4, cmp3_0, e, hw]
  · simp [X4_find_b3_body, X4_find_b34]
  · unfold fn1
    cases fnd (fun j => decide (gI s row j = name)) m <;> rfl
theorem cv_eq {K L : Nat} (h1 : vdK 8 K) (h2 : vdK 8 L) : (cv 8 K : Int) = (cv 8 L : Int) ↔ K = L := ⟨fun z => cv_inj 8 K L h1 h2 (by omega), fun z => by rw [z]⟩
theorem fnP_c {K : Nat} (hD : CDr s D) (hO : DOK D) (hK : vdK 8 K) : fnd (fun j => decide (gI s 17 j = (cv 8 K : Int))) (tP (dT D)) = fnP D K :=
  fnd_cg (fun j hj => by
    rw [(hD.2.1 j hj).2, decide_eq_decide]
    exact cv_eq (hO.2.2.2.1.1 j hj) hK)
theorem fnD_c {K : Nat} (hD : CDr s D) (hO : DOK D) (hK : vdK 8 K) : fnd (fun j => decide (gI s 18 j = (cv 8 K : Int))) (tD (dT D)) = fnD D K :=
  fnd_cg (fun j hj => by
    rw [(hD.2.2.1 j hj).2.2, decide_eq_decide]
    exact cv_eq (hO.2.2.2.1.2 j hj) hK)
theorem qN_live (h : (qN n b q).1 = 0) : q.1 = 0 ∧ nmB n b q.2.2.1 = true := by
  unfold qN qS at h
  by_cases z : q.1 = 0
  · rw [if_pos z] at h
    by_cases y : nmB n b q.2.2.1 = true
    · exact ⟨z, y⟩
    · rw [if_neg y] at h; cases h
  · rw [if_neg z] at h; exact absurd h z
theorem nm_vd {i : Nat} (hi : i ≤ n) (h : nmB n b i = true) : vdK 8 (tkY n b i) := by
  unfold nmB at h
  simp at h
  exact tkY_vd hi h.1
theorem fn1_n (f : Option Nat) : (0 ≤ fn1 f ↔ f.isSome = true) ∧ (fn1 f < 0 ↔ ¬ f.isSome = true) := by
  cases f with
  | none => simp [fn1]
  | some j => simp [fn1]
theorem c_newName (h : CQ n b s q) (hD : CDr s D) (hO : DOK D) : ∃ r s1, X4_takeNewName s 2 = some (r, s1) ∧ Fr cT s s1 ∧ CQ n b s1 (qNew n b D q) ∧ (q.1 = 0 → nmB n b q.2.2.1 = true → r = (cv 8 (tkY n b q.2.2.1) : Int)) := by
  have hS := h.1
  have k2 : isK s 14 2 := ⟨by decide, kd_2 hS⟩
  obtain ⟨s1, e1, f1, c1⟩ := c_nameTok h
  have hr := c_nameV h
  obtain ⟨r, hrv⟩ : ∃ r, gI s 15 2 = r := ⟨_, rfl⟩
  rw [hrv] at hr
  have hS1 := c1.1
  have hD1 := hD.fT f1
  have k21 : isK s1 14 2 := ⟨by decide, kd_2 hS1⟩
  have k3 : isK s1 19 3 := ⟨by decide, kd_3 hS1⟩
  have d2 := hD1.1.2.2.1
  have d3 := hD1.1.2.2.2.1
  have p6 := hO.1.2.2.2.2.1
  have q6 := hO.1.2.2.2.2.2.1
  have told : (qN n b q).1 = 0 → ((fnd (fun j => decide (gI s1 17 j = r)) (tP (dT D))).isSome || (fnd (fun j => decide (gI s1 18 j = r)) (tD (dT D))).isSome) = tlB D (tkY n b q.2.2.1) := fun z => by
    obtain ⟨z1, z2⟩ := qN_live z
    have hv := nm_vd (h.2.2 z1).2.1.2.1 z2
    rw [hr z1 z2, fnP_c hD1 hO hv, fnD_c hD1 hO hv]
    rfl
  have fin : ∀ c : Bool, ((qN n b q).1 = 0 → c = tlB D (tkY n b q.2.2.1)) → ∃ s2, X4_takeNewName_b77 s1 2 r (if c = true then 1 else 0) = some (r, s2) ∧ Fr cT s s2 ∧ CQ n b s2 (qNew n b D q) := by
    intro c hc
    unfold X4_takeNewName_b77 X4_takeNewName_b91 qNew
    rw [← qF_cg hc]
    cases c with
    | false =>
      refine ⟨s1, ?_, f1, ?_⟩
      · simp
      · unfold qF; rw [if_neg (fun z => by cases z.2)]; exact c1
    | true =>
      obtain ⟨s2, g1, g2, g3⟩ := c_failQ (k := 3) (x := gI s1 2 6) (c := true) c1 rfl (by decide) (qF true 3 (qN n b q)) (by
        unfold qF
        by_cases z : (qN n b q).1 = 0
        · rw [if_pos z, if_pos ⟨z, rfl⟩, (c1.2.2 z).2.2]
        · rw [if_neg z, if_neg (fun w => z w.1)])
      refine ⟨s2, ?_, f1.trans g2, g3⟩
      rw [if_pos rfl, if_neg (by decide), grd_t k21, grd_t k21, g1, bnd_some]
  obtain ⟨s2, g1, g2, g3⟩ := fin _ told
  refine ⟨r, s2, ?_, g2, g3, hr⟩
  rw [c_newEq hS, hrv]
  unfold X4_takeNewName_b33 X4_takeNewName_b72
  rw [grd_t k2, e1, bnd_some, grd_t k21, grd_t k21, gR_2_0 hS1, grd_t k3, gR_2_4 hS1, d2, c_find hS1 (Or.inl rfl) p6, bnd_some]
  by_cases y : (fnd (fun j => decide (gI s1 17 j = r)) (tP (dT D))).isSome = true
  · rw [if_pos ((fn1_n _).1.2 y)]
    rw [y, Bool.true_or, if_pos rfl] at g1
    exact g1
  · rw [if_neg (fun z => y ((fn1_n _).1.1 z)), grd_t k21, grd_t k21, gR_2_0 hS1, grd_t k3, gR_2_5 hS1, d3, c_find hS1 (Or.inr rfl) q6, bnd_some]
    have y0 : (fnd (fun j => decide (gI s1 17 j = r)) (tP (dT D))).isSome = false := by simpa using y
    rw [y0, Bool.false_or] at g1
    by_cases y2 : (fnd (fun j => decide (gI s1 18 j = r)) (tD (dT D))).isSome = true
    · rw [if_neg (fun z => (fn1_n _).2.1 z y2)]
      rw [if_pos y2] at g1
      exact g1
    · rw [if_pos ((fn1_n _).2.2 y2)]
      rw [if_neg y2] at g1
      exact g1
theorem c_told {row : Int} {m : Nat} {f : Option Nat} (h : CQ n b s q) (hr0 : row = 17 ∨ row = 18) (hm : m ≤ 6) (hf : ∀ s1 : St, Fr cT s s1 → q.1 = 0 → nmB n b q.2.2.1 = true → fnd (fun j => decide (gI s1 row j = (cv 8 (tkY n b q.2.2.1) : Int))) m = f) : ∃ r s1, X4_takeTold s 2 row m = some (r, s1) ∧ Fr cT s s1 ∧ CQ n b s1 (qKn n b f q) ∧ ((qKn n b f q).1 = 0 → ∃ p, f = some p ∧ r = (p : Int)) := by
  have hS := h.1
  have k2 : isK s 14 2 := ⟨by decide, kd_2 hS⟩
  have k15 : isK s 18 15 := ⟨by decide, kd_15 hS⟩
  obtain ⟨s1, e1, f1, c1⟩ := c_nameTok h
  have hr := c_nameV h
  obtain ⟨r, hrv⟩ : ∃ r, gI s 15 2 = r := ⟨_, rfl⟩
  rw [hrv] at hr
  have hS1 := c1.1
  have k21 : isK s1 14 2 := ⟨by decide, kd_2 hS1⟩
  have told : (qN n b q).1 = 0 → fnd (fun j => decide (gI s row j = r)) m = f := fun z => by
    obtain ⟨z1, z2⟩ := qN_live z
    rw [hr z1 z2]
    exact hf s (Fr.refl _ s) z1 z2
  have nf : (qKn n b f q).1 = 0 → (qN n b q).1 = 0 ∧ f.isSome = true := fun z => by
    unfold qKn qF at z
    by_cases w : (qN n b q).1 = 0
    · refine ⟨w, ?_⟩
      cases hs : f.isSome with
      | true => rfl
      | false => rw [hs, if_pos ⟨w, rfl⟩] at z; cases z
    · rw [if_neg (fun k => w k.1)] at z; exact absurd z w
  have val : ∀ v : Int, v = fn1 (fnd (fun j => decide (gI s row j = r)) m) → (qKn n b f q).1 = 0 → ∃ p, f = some p ∧ v = (p : Int) := fun v hv z => by
    obtain ⟨w1, w2⟩ := nf z
    rw [told w1] at hv
    cases f with
    | none => cases w2
    | some p => exact ⟨p, rfl, hv⟩
  have eq : X4_takeTold s 2 row m = X4_takeTold_b38 s 2 (fn1 (fnd (fun j => decide (gI s row j = r)) m)) (nmC s) 2 := by
    unfold X4_takeTold X4_takeTold_b37 nmC
    rw [grd_t k2, gR_2_3 hS, grd_t k15, hrv, c_find hS hr0 hm, bnd_some, grd_t k2, gR_2_3 hS, grd_t k15]
    by_cases y : gI s 15 0 = 1
    · rw [if_neg (fun z => z y), grd_t k2, c_lineS hS, bnd_some]
      by_cases y2 : lsV s = -1
      · rw [if_neg (fun z => z y2), if_pos ⟨y, y2⟩]
      · rw [if_pos y2, if_neg (fun z => y2 z.2)]
    · rw [if_pos y, if_neg (fun z => y z.1)]
  rw [eq]
  unfold X4_takeTold_b38 X4_takeTold_b54
  rw [grd_t k2, e1, bnd_some]
  by_cases y : (fnd (fun j => decide (gI s row j = r)) m).isSome = true
  · rw [if_pos ((fn1_n _).1.2 y)]
    refine ⟨_, s1, rfl, f1, ?_, val _ rfl⟩
    unfold qKn
    rw [qF_cg (d := false) (fun z => by rw [← told z, y]; rfl)]
    unfold qF; rw [if_neg (fun z => by cases z.2)]; exact c1
  · rw [if_neg (fun z => y ((fn1_n _).1.1 z))]
    obtain ⟨s2, g1, g2, g3⟩ := c_failQ (k := 2) (x := gI s1 2 6) (c := true) c1 rfl (by decide) (qKn n b f q) (by
      unfold qKn qF
      by_cases z : (qN n b q).1 = 0
      · have y0 : (fnd (fun j => decide (gI s row j = r)) m).isSome = false := by simpa using y
        rw [if_pos z, if_pos ⟨z, by rw [← told z, y0]; rfl⟩, (c1.2.2 z).2.2]
      · rw [if_neg z, if_neg (fun w => z w.1)])
    refine ⟨_, s2, ?_, f1.trans g2, g3, val _ rfl⟩
    rw [grd_t k21, grd_t k21, g1, bnd_some]
theorem c_person (h : CQ n b s q) (hD : CDr s D) (hO : DOK D) : ∃ r s1, X4_takeTold s 2 17 (tP (dT D)) = some (r, s1) ∧ Fr cT s s1 ∧ CQ n b s1 (qKn n b (fnP D (tkY n b q.2.2.1)) q) ∧ ((qKn n b (fnP D (tkY n b q.2.2.1)) q).1 = 0 → ∃ p, fnP D (tkY n b q.2.2.1) = some p ∧ r = (p : Int)) :=
  c_told (row := 17) (m := tP (dT D)) (f := fnP D (tkY n b q.2.2.1)) h (Or.inl rfl) hO.1.2.2.2.2.1 (fun s1 f1 z1 z2 => fnP_c (hD.fT f1) hO (nm_vd (h.2.2 z1).2.1.2.1 z2))
theorem c_deadN (h : CQ n b s q) (hD : CDr s D) (hO : DOK D) : ∃ r s1, X4_takeTold s 2 18 (tD (dT D)) = some (r, s1) ∧ Fr cT s s1 ∧ CQ n b s1 (qKn n b (fnD D (tkY n b q.2.2.1)) q) ∧ ((qKn n b (fnD D (tkY n b q.2.2.1)) q).1 = 0 → ∃ p, fnD D (tkY n b q.2.2.1) = some p ∧ r = (p : Int)) :=
  c_told (row := 18) (m := tD (dT D)) (f := fnD D (tkY n b q.2.2.1)) h (Or.inr rfl) hO.1.2.2.2.2.2.1 (fun s1 f1 z1 z2 => fnD_c (hD.fT f1) hO (nm_vd (h.2.2 z1).2.1.2.1 z2))
theorem c_begin {full : Bool} (h : CQ n b s q) (hD : CDr s D) : ∃ s1, X4_beginLine s 2 (if full = true then 1 else 0) = some (0, s1) ∧ Fr cT s s1 ∧ CQ n b s1 (qB n b D full q) := by
  have hS := h.1
  have k2 : isK s 14 2 := ⟨by decide, kd_2 hS⟩
  have k3 : isK s 19 3 := ⟨by decide, kd_3 hS⟩
  have k15 : isK s 18 15 := ⟨by decide, kd_15 hS⟩
  have pl : q.1 = 0 → gI s 15 1 = (tkP n b q.2.2.1 : Int) := fun z => (h.2.2 z).2.1.2.2.2.1
  have tk : ∀ s1 : St, Fr cT s s1 → CQ n b s1 (qP n b full 5 (qP n b (decide (tH (dT D) = 0)) 6 q)) → ∃ s2, X4_beginLine_b42 s1 2 = some (0, s2) ∧ Fr cT s s2 ∧ CQ n b s2 (qB n b D full q) := by
    intro s1 f1 c1
    obtain ⟨s2, g1, g2, g3⟩ := c_take (m := 1) c1
    refine ⟨s2, ?_, f1.trans g2, g3⟩
    have k21 : isK s1 14 2 := ⟨by decide, kd_2 c1.1⟩
    unfold X4_beginLine_b42
    rw [grd_t k21, g1, bnd_some]
  unfold X4_beginLine
  rw [grd_t k2, gR_2_0 hS, grd_t k3, hD.1.1]
  by_cases y : tH (dT D) = 0
  · rw [if_neg (by omega), grd_t k2, gR_2_3 hS, grd_t k15, grd_t k2]
    obtain ⟨s1, g1, g2, g3⟩ := c_failQ (k := 6) (x := gI s 15 1) (c := true) h rfl (by decide) (qP n b full 5 (qP n b (decide (tH (dT D) = 0)) 6 q)) (by
      by_cases z : q.1 = 0
      · have e : qP n b (decide (tH (dT D) = 0)) 6 q = (6, (tkP n b q.2.2.1 : Int), q.2.2.1, q.2.2.2) := by unfold qP; rw [if_pos ⟨z, by simp [y]⟩]
        rw [e, qP_fz (show (6 : Int) ≠ 0 by decide), if_pos z, pl z]
      · rw [qP_fz (q := q) z, qP_fz z, if_neg z])
    obtain ⟨s2, t1, t2⟩ := tk s1 g2 g3
    refine ⟨s2, ?_, t2⟩
    rw [g1, bnd_some]
    exact t1
  · rw [if_pos (by omega)]
    have e0 : qP n b (decide (tH (dT D) = 0)) 6 q = q := by unfold qP; rw [if_neg (fun z => y (by simpa using z.2))]
    rw [e0] at tk
    cases full with
    | false =>
      obtain ⟨s2, t1, t2⟩ := tk s (Fr.refl _ s) (by unfold qP; rw [if_neg (fun z => by cases z.2)]; exact h)
      refine ⟨s2, ?_, t2⟩
      rw [if_pos (by decide)]
      exact t1
    | true =>
      rw [if_neg (by decide), grd_t k2, gR_2_3 hS, grd_t k15, grd_t k2]
      obtain ⟨s1, g1, g2, g3⟩ := c_failQ (k := 5) (x := gI s 15 1) (c := true) h rfl (by decide) (qP n b true 5 q) (by
        unfold qP
        by_cases z : q.1 = 0
        · rw [if_pos z, if_pos ⟨z, rfl⟩, pl z]
        · rw [if_neg z, if_neg (fun w => z w.1)])
      obtain ⟨s2, t1, t2⟩ := tk s1 g2 g3
      refine ⟨s2, ?_, t2⟩
      rw [g1, bnd_some]
      exact t1
end DRAFT
