/-! the reference's world -/
def RXf (f : Nat → Int) (T : Tw) (N : Nw) : Prop := (∀ p, p < tP T → f p = nHo N p) ∧ (∀ d, d < tD T → f (6 + d) = nSl N d ∧ f (12 + d) = nMi N d) ∧ f 18 = nN N
def MW (T : Tw) (t : Int) (s : St) : Prop := Sh s ∧ TOK T ∧ MT s t ∧ 89 ≤ t ∧ (gI s t 0 = tH T ∧ gI s t 1 = tL T ∧ gI s t 2 = tP T ∧ gI s t 3 = tD T ∧ gI s t 5 = tU T ∧ gI s t 6 = tQ T) ∧ (∀ d, d < tD T → gI s (t + 2) d = tLaw T d ∧ gI s (t + 4) d = tFo T d) ∧ (∀ k, k < tU T → gI s (t + 6) k = tUd T k ∧ gI s (t + 7) k = tUs T k) ∧ (∀ k, k < tQ T → gI s (t + 8) k = tQp T k ∧ gI s (t + 9) k = tQd T k ∧ gI s (t + 10) k = tQn T k) ∧
  (∀ p, p < tP T → gI s (t + 1) p = nHo (tN T) p) ∧ ∀ d, d < tD T → gI s (t + 3) d = nSl (tN T) d ∧ gI s (t + 5) d = nMi (tN T) d
theorem t_rng {t : Int} (h1 : 0 ≤ t) (h2 : t < 900000) : (t < 1000000 ∧ ¬ t < 0) ∧ (0 ≤ t + 1 ∧ 0 ≤ t + 2 ∧ 0 ≤ t + 3 ∧ 0 ≤ t + 4 ∧ 0 ≤ t + 5 ∧ 0 ≤ t + 6 ∧ 0 ≤ t + 7 ∧ 0 ≤ t + 8 ∧ 0 ≤ t + 9 ∧ 0 ≤ t + 10) ∧
  (t + 1 < 1000000 ∧ t + 2 < 1000000 ∧ t + 3 < 1000000 ∧ t + 4 < 1000000 ∧ t + 5 < 1000000 ∧ t + 6 < 1000000 ∧ t + 7 < 1000000 ∧ t + 8 < 1000000 ∧ t + 9 < 1000000 ∧ t + 10 < 1000000) := by omega
theorem mF {T : Tw} {t : Int} {s : St} (h : MW T t s) : (gR s 76 3 = t ∧ kd s t = 22 ∧ 0 ≤ t ∧ t < 1000000 ∧ ¬ t < 0) ∧
  (gR s t 8 = t + 1 ∧ gR s t 9 = t + 2 ∧ gR s t 10 = t + 3 ∧ gR s t 11 = t + 4 ∧ gR s t 12 = t + 5 ∧ gR s t 13 = t + 6 ∧ gR s t 14 = t + 7 ∧ gR s t 15 = t + 8 ∧ gR s t 16 = t + 9 ∧ gR s t 17 = t + 10) ∧
  (kd s (t + 1) = 1 ∧ kd s (t + 2) = 1 ∧ kd s (t + 3) = 1 ∧ kd s (t + 4) = 1 ∧ kd s (t + 5) = 1 ∧ kd s (t + 6) = 1 ∧ kd s (t + 7) = 1 ∧ kd s (t + 8) = 1 ∧ kd s (t + 9) = 1 ∧ kd s (t + 10) = 1) ∧
  (ln s (t + 1) = 6 ∧ ln s (t + 2) = 6 ∧ ln s (t + 3) = 6 ∧ ln s (t + 4) = 6 ∧ ln s (t + 5) = 6 ∧ ln s (t + 6) = 4 ∧ ln s (t + 7) = 4 ∧ ln s (t + 8) = 8 ∧ ln s (t + 9) = 8 ∧ ln s (t + 10) = 8) ∧
  (0 ≤ t + 1 ∧ 0 ≤ t + 2 ∧ 0 ≤ t + 3 ∧ 0 ≤ t + 4 ∧ 0 ≤ t + 5 ∧ 0 ≤ t + 6 ∧ 0 ≤ t + 7 ∧ 0 ≤ t + 8 ∧ 0 ≤ t + 9 ∧ 0 ≤ t + 10) ∧
  (t + 1 < 1000000 ∧ t + 2 < 1000000 ∧ t + 3 < 1000000 ∧ t + 4 < 1000000 ∧ t + 5 < 1000000 ∧ t + 6 < 1000000 ∧ t + 7 < 1000000 ∧ t + 8 < 1000000 ∧ t + 9 < 1000000 ∧ t + 10 < 1000000) ∧
  (gI s t 0 = tH T ∧ gI s t 1 = tL T ∧ gI s t 2 = tP T ∧ gI s t 3 = tD T ∧ gI s t 5 = tU T ∧ gI s t 6 = tQ T) := by
  obtain ⟨-, -, ⟨⟨a1, a2⟩, a3, a4, a5, a6, a7, -⟩, a8, a9, -⟩ := h
  obtain ⟨b1, b2, b3⟩ := t_rng a1 a2
  exact ⟨⟨a3, a4, a1, b1.1, b1.2⟩, a5, a6, a7, b2, b3, a9⟩
theorem MT.fr {L : Nat → Prop} {t : Int} {s s1 : St} (h : Fr L s s1) (hT : MT s t) : MT s1 t := by
  unfold MT at hT ⊢
  simp only [h.kds, h.lns, h.refs, h.1]
  exact hT
theorem MW.fr {L : Nat → Prop} {T : Tw} {t : Int} {s s1 : St} (h : Fr L s s1) (hL : ∀ a, 89 ≤ a → ¬ L a) (hW : MW T t s) : MW T t s1 := by
  obtain ⟨w1, w2, w3, w4, w5⟩ := hW
  refine ⟨by rw [h.sh]; exact w1, w2, w3.fr h, w4, ?_⟩
  have e : ∀ j : Int, 0 ≤ j → ∀ k, gI s1 (t + j) k = gI s (t + j) k := fun j hj k => h.nu (hL _ (by omega))
  have e0 : ∀ k, gI s1 t k = gI s t k := fun k => h.nu (hL _ (by omega))
  simp only [e0, e 1 (by decide), e 2 (by decide), e 3 (by decide), e 4 (by decide), e 5 (by decide), e 6 (by decide), e 7 (by decide), e 8 (by decide), e 9 (by decide), e 10 (by decide)]
  exact w5
/-- the world in which a saying is followed: town, who is where -/
def WM (T : Tw) (N : Nw) (t : Int) (s : St) : Prop := MW T t s ∧ NOK T N ∧ RXf (fun j => gI s 79 j) T N
theorem WM.tr {T : Tw} {N : Nw} {t : Int} {s : St} (h : WM T N t s) (k : Nat) (x : Int) : WM T N t (pI s 76 k x) := by
  refine ⟨h.1.fr (L := fun a => a = 76) (Fr_pI rfl) (fun a ha q => by omega), h.2.1, ?_⟩
  exact h.2.2
section MIN
variable {s : St} {T : Tw} {N : Nw} {t : Int} {d : Nat} {night aim : Int}
theorem m_out (h : WM T N t s) (hd : d < tD T) (ha : 0 ≤ aim ∧ aim ≤ 100) (hn : 0 ≤ night ∧ night ≤ 99) : X13_outOf s 76 d aim night = some (outT T N d aim night, s) := by
  obtain ⟨⟨w1, w2, w3, w4, w5, w6, w7⟩, hN, hx⟩ := h
  obtain ⟨l1, l2, l3⟩ := w2.2.1 d hd
  obtain ⟨n1, n2⟩ := hN.2.2.2 d hd
  have x1 : gI s 79 (6 + d) = nSl N d := (hx.2.1 d hd).1
  have x2 : gI s 79 (12 + d) = nMi N d := (hx.2.1 d hd).2
  obtain ⟨t1, t2, t3, t4, t5, t6, t7, t8⟩ := w2.1
  have i1 : (6 + (d : Int)).toNat = 6 + d := by omega
  have i2 : (12 + (d : Int)).toNat = 12 + d := by omega
  have e := m_outOf (s := s) (t := t) (d := (d : Int)) (aim := aim) (night := night) w1 w3 (by rw [w5.1]; omega) (by omega) (by rw [Int.toNat_natCast, (w6 d hd).1]; exact ⟨l1, l2⟩) ha (by rw [i1, x1]; exact n1) (by rw [i2, x2]; omega) hn
  rw [i1, i2, Int.toNat_natCast, x1, x2, (w6 d hd).1, w5.1] at e
  exact e
theorem m_who {ho : Int} (h : WM T N t s) : X13_whoIn s 76 ho = some (whoF (tP T) (nHo N) ho, s) := by
  obtain ⟨⟨w1, w2, w3, w4, w5, w6, w7⟩, hN, hx⟩ := h
  rw [m_whoIn w1 w3 w5.2.2.1 w2.1.2.2.2.2.1]
  have e : fnd (fun p => decide (gI s 79 p = ho)) (tP T) = fnd (fun p => decide (nHo N p = ho)) (tP T) := fnd_cg fun j hj => by rw [show gI s 79 j = nHo N j from hx.1 j hj]
  unfold whoF
  rw [e]
theorem whoF_cg {np : Nat} {f g : Nat → Int} (h : ∀ p, p < np → f p = g p) (x : Int) : whoF np f x = whoF np g x := by
  unfold whoF
  rw [fnd_cg fun j hj => by rw [h j hj]]
theorem hfF_cg {H : Int} {np : Nat} {f g : Nat → Int} (h : ∀ p, p < np → f p = g p) (x : Int) : hfF H np f x = hfF H np g x := by
  unfold hfF
  have e : ∀ y, whoF np f y = whoF np g y := fun y => whoF_cg h y
  simp only [e]
theorem m_lis {ho : Int} (h : WM T N t s) (hh : 0 ≤ ho ∧ ho < tH T) : X13_heardFrom s 76 ho = some (lisT T N ho, s) := by
  obtain ⟨⟨w1, w2, w3, w4, w5, w6, w7⟩, hN, hx⟩ := h
  have h0 := hN.2.1 0 w2.1.2.2.2.1
  have e0 : gI s 79 0 = nHo N 0 := hx.1 0 w2.1.2.2.2.1
  have t1 := w2.1.1
  have t2 := w2.1.2.1
  rw [m_heardFrom w1 w3 (by rw [w5.1]; omega) w5.2.2.1 w2.1.2.2.2.1 w2.1.2.2.2.2.1 (by rw [w5.1, e0]; exact h0) (by rw [w5.1]; exact hh), w5.1]
  unfold lisT
  rw [hfF_cg (g := nHo N) (fun p hp => hx.1 p hp)]
theorem m_aim (h : WM T N t s) (hd : d < tD T) : X13_aimOf s 76 d = some (aimT T N d, s) := by
  have hS := h.1.1
  have hM := mF h.1
  obtain ⟨⟨w1, w2, w3, w4, w5, w6, w7⟩, hN, hx⟩ := h
  obtain ⟨l1, l2, l3⟩ := w2.2.1 d hd
  have e := (w6 d hd).2
  have e2 : gI s 79 (tFo T d) = nHo N (tFo T d) := hx.1 _ l3
  have g1 : (d : Int) < 6 := by have := w2.1.2.2.2.2.2.1; omega
  have g2 : ((tFo T d : Nat) : Int) < 19 := by have := w2.1.2.2.2.2.1; omega
  unfold X13_aimOf aimT
  simp [tF, isK, shF hS, hM, e, e2, g1, g2]
theorem aimT_b (h : NOK T N) (hT : TOK T) (hd : d < tD T) : 0 ≤ aimT T N d ∧ aimT T N d ≤ 100 := by
  have := h.2.1 _ (hT.2.1 d hd).2.2
  have := hT.1.2.1
  unfold aimT
  omega
theorem m_hea (h : WM T N t s) (hd : d < tD T) (hn : 0 ≤ night ∧ night ≤ 99) : X13_whoHears s 76 d night = some (heaT T N d night, s) := by
  have hS := h.1.1
  have e1 := m_aim h hd
  have e2 := m_out (aim := aimT T N d) h hd (aimT_b h.2.1 h.1.2.1 hd) hn
  have e3 := m_lis h (outT_b h.1.2.1 N d (aimT T N d) night)
  unfold X13_whoHears heaT
  simp [tF, isK, shF hS, e1, e2, e3]
theorem m_right (h : WM T N t s) (hd : d < tD T) (hn : 0 ≤ night ∧ night ≤ 99) : X13_isRight s 76 d night = some (if rigT T N d night = true then 1 else 0, s) := by
  have hS := h.1.1
  have hM := mF h.1
  have e1 := m_hea h hd hn
  have e := (h.1.2.2.2.2.2.1 d hd).2
  have g1 : (d : Int) < 6 := by have := h.1.2.1.1.2.2.2.2.2.1; omega
  unfold X13_isRight rigT
  by_cases h : heaT T N d night = (tFo T d : Int) <;>
  simp [tF, isK, shF hS, hM, e1, e, g1, h, X13_isRight_b23]
theorem or_bst0 {P : Nat → Bool} {d : Nat} (hd : d ≤ 6) : or32 ((bst P d : Nat) : Int) 0 = ((bst P d : Nat) : Int) := or_zero _ (bst_64 hd)
theorem m_rightOn (h : WM T N t s) (hn : 0 ≤ night ∧ night ≤ 99) : X13_rightOn s 76 night = some (((bst (fun d => rigT T N d night) (tD T) : Nat) : Int), s) := by
  have hS := h.1.1
  have hM := mF h.1
  have t6 := h.1.2.1.1.2.2.2.2.2.1
  unfold X13_rightOn X13_rightOn_b4
  refine iter_run (tD T) FU (fun k : Nat => (s, 76, night, ((bst (fun d => rigT T N d night) k : Nat) : Int), (k : Int))) (fuel7 (by omega)) (fun k hk rec => ?_) (fun rec => ?_)
  · have hg : ¬ tD T ≤ k := by omega
    have hk6 : k ≤ 6000 := by omega
    have e := m_right h hk hn
    have ho := or_bst (P := fun d => rigT T N d night) (d := k) (by omega)
    have hz := or_bst0 (P := fun d => rigT T N d night) (d := k) (by omega)
    have hw := wk1 hk6
    by_cases h : rigT T N k night = true
    · have hb := bst_s1 (P := fun d => rigT T N d night) h
      simp [X13_rightOn_b4_body, X13_rightOn_b32, tF, isK, shF hS, hM, e, h, ho, hb, hw, hg]
    · have hb := bst_s0 (P := fun d => rigT T N d night) h
      simp [X13_rightOn_b4_body, X13_rightOn_b32, tF, isK, shF hS, hM, e, h, hz, hb, hw, hg]
  · simp [X13_rightOn_b4_body, tF, isK, shF hS, hM]
theorem m_bitsR (hT : TOK T) (N : Nw) : X13_bits s ((bst (fun d => rigT T N d night) (tD T) : Nat) : Int) = some ((ricT T N night : Int), s) := by
  have t6 := hT.1.2.2.2.2.2.1
  rw [m_bits (bst_64 t6), pcn_bst _ _ t6]
  rfl
theorem m_heb {p : Int} (h : WM T N t s) (hn : 0 ≤ night ∧ night ≤ 99) : X13_heardOf s 76 p night = some ((hebT T N p night : Int), s) := by
  have hS := h.1.1
  have hM := mF h.1
  have t6 := h.1.2.1.1.2.2.2.2.2.1
  unfold X13_heardOf X13_heardOf_b5 hebT
  refine iter_run (tD T) FU (fun k : Nat => (s, 76, p, night, ((bst (fun d => decide (heaT T N d night = p)) k : Nat) : Int), (k : Int))) (fuel7 (by omega)) (fun k hk rec => ?_) (fun rec => ?_)
  · have hg : ¬ tD T ≤ k := by omega
    have hk6 : k ≤ 6000 := by omega
    have e := m_hea h hk hn
    have ho := or_bst (P := fun d => decide (heaT T N d night = p)) (d := k) (by omega)
    have hz := or_bst0 (P := fun d => decide (heaT T N d night = p)) (d := k) (by omega)
    have hw := wk1 hk6
    by_cases h : heaT T N k night = p
    · have hb := bst_s1 (P := fun d => decide (heaT T N d night = p)) (d := k) (by simp [h])
      simp [X13_heardOf_b5_body, X13_heardOf_b37, tF, isK, shF hS, hM, e, h, ho, hb, hw, hg]
    · have hb := bst_s0 (P := fun d => decide (heaT T N d night = p)) (d := k) (by simp [h])
      simp [X13_heardOf_b5_body, X13_heardOf_b37, tF, isK, shF hS, hM, e, h, hz, hb, hw, hg]
  · simp [X13_heardOf_b5_body, tF, isK, shF hS, hM]
theorem m_bitsH {p : Int} (hT : TOK T) (N : Nw) : X13_bits s ((hebT T N p night : Nat) : Int) = some ((hecT T N p night : Int), s) := by
  rw [m_bits (heb_64 hT N p night), hec_heb hT]
end MIN
