/-! the acts kept: by what each changed (class), by rows (reference) -/
abbrev EE : Type := Int × Nat × Int
abbrev Lg : Type := Nat × (Nat → EE) × (Nat → Nw)
def rev (e : EE) (N : Nw) : Nw := if e.1 = 0 then nigN N e.2.2 else if e.1 = 1 then houN N e.2.1 e.2.2 else if e.1 = 2 then mirN N e.2.1 e.2.2 else sliN N e.2.1 e.2.2
def eOK (T : Tw) (e : EE) : Prop := (e.1 = 0 ∨ e.1 = 1 ∨ e.1 = 2 ∨ e.1 = 3) ∧ (e.1 = 1 → e.2.1 < tP T) ∧ (e.1 = 2 ∨ e.1 = 3 → e.2.1 < tD T)
/-- the log fits what is now -/
def LOK (T : Tw) (L : Lg) (N : Nw) : Prop := L.1 ≤ 16 ∧ ∀ j, j < L.1 → eOK T (L.2.1 j) ∧ NOK T (L.2.2 j) ∧ L.2.2 j = rev (L.2.1 j) (if j + 1 < L.1 then L.2.2 (j + 1) else N)
def psh (L : Lg) (e : EE) (N : Nw) : Lg := if L.1 < 16 then (L.1 + 1, (fun j => if j = L.1 then e else L.2.1 j), (fun j => if j = L.1 then N else L.2.2 j)) else (16, (fun j => if j = 15 then e else L.2.1 (j + 1)), (fun j => if j = 15 then N else L.2.2 (j + 1)))
def pop (L : Lg) : Lg := (L.1 - 1, L.2.1, L.2.2)
theorem LOK.push {T : Tw} {L : Lg} {N N2 : Nw} {e : EE} (h : LOK T L N) (he : eOK T e) (hN : NOK T N) (hr : rev e N2 = N) : LOK T (psh L e N) N2 := by
  obtain ⟨h1, h2⟩ := h
  unfold psh
  by_cases c : L.1 < 16
  · rw [if_pos c]
    refine ⟨by show L.1 + 1 ≤ 16; omega, fun j hj => ?_⟩
    have hj' : j < L.1 + 1 := hj
    show eOK T (if j = L.1 then e else L.2.1 j) ∧ NOK T (if j = L.1 then N else L.2.2 j) ∧ (if j = L.1 then N else L.2.2 j) = rev (if j = L.1 then e else L.2.1 j) (if j + 1 < L.1 + 1 then (if j + 1 = L.1 then N else L.2.2 (j + 1)) else N2)
    by_cases q : j = L.1
    · rw [if_pos q, if_pos q, if_neg (by omega)]
      exact ⟨he, hN, hr.symm⟩
    · rw [if_neg q, if_neg q, if_pos (by omega)]
      obtain ⟨a1, a2, a3⟩ := h2 j (by omega)
      refine ⟨a1, a2, ?_⟩
      by_cases z : j + 1 = L.1
      · rw [if_neg (by omega)] at a3
        rw [if_pos z]; exact a3
      · rw [if_pos (by omega)] at a3
        rw [if_neg z]; exact a3
  · rw [if_neg c]
    refine ⟨by show 16 ≤ 16; omega, fun j hj => ?_⟩
    have hj' : j < 16 := hj
    show eOK T (if j = 15 then e else L.2.1 (j + 1)) ∧ NOK T (if j = 15 then N else L.2.2 (j + 1)) ∧ (if j = 15 then N else L.2.2 (j + 1)) = rev (if j = 15 then e else L.2.1 (j + 1)) (if j + 1 < 16 then (if j + 1 = 15 then N else L.2.2 (j + 1 + 1)) else N2)
    by_cases q : j = 15
    · rw [if_pos q, if_pos q, if_neg (by omega)]
      exact ⟨he, hN, hr.symm⟩
    · rw [if_neg q, if_neg q, if_pos (by omega)]
      obtain ⟨a1, a2, a3⟩ := h2 (j + 1) (by omega)
      refine ⟨a1, a2, ?_⟩
      by_cases z : j + 1 = 15
      · rw [if_neg (by omega)] at a3
        rw [if_pos z]; exact a3
      · rw [if_pos (by omega)] at a3
        rw [if_neg z]; exact a3
theorem LOK.popd {T : Tw} {L : Lg} {N : Nw} (h : LOK T L N) (hn : 0 < L.1) : LOK T (pop L) (L.2.2 (L.1 - 1)) := by
  obtain ⟨h1, h2⟩ := h
  refine ⟨by show L.1 - 1 ≤ 16; omega, fun j hj => ?_⟩
  have hj' : j < L.1 - 1 := hj
  obtain ⟨a1, a2, a3⟩ := h2 j (by omega)
  rw [if_pos (by omega)] at a3
  refine ⟨a1, a2, ?_⟩
  show L.2.2 j = rev (L.2.1 j) (if j + 1 < L.1 - 1 then L.2.2 (j + 1) else L.2.2 (L.1 - 1))
  by_cases z : j + 1 < L.1 - 1
  · rw [if_pos z]; exact a3
  · rw [if_neg z, show L.1 - 1 = j + 1 by omega]; exact a3
theorem LOK.top {T : Tw} {L : Lg} {N : Nw} (h : LOK T L N) (hn : 0 < L.1) : eOK T (L.2.1 (L.1 - 1)) ∧ NOK T (L.2.2 (L.1 - 1)) ∧ L.2.2 (L.1 - 1) = rev (L.2.1 (L.1 - 1)) N := by
  obtain ⟨a1, a2, a3⟩ := h.2 (L.1 - 1) (by omega)
  rw [if_neg (by omega)] at a3
  exact ⟨a1, a2, a3⟩
/-- the class's log -/
def LGc (s : St) (L : Lg) : Prop := gI s 59 0 = (L.1 : Int) ∧ ∀ j, j < L.1 → gI s 60 j = (L.2.1 j).1 ∧ gI s 61 j = ((L.2.1 j).2.1 : Int) ∧ gI s 62 j = (L.2.1 j).2.2
/-- the reference's rows -/
def LGm (s : St) (T : Tw) (L : Lg) : Prop := gI s 76 19 = (L.1 : Int) ∧ ∀ j, j < L.1 → RXf (fun i => gI s 80 (19 * j + i)) T (L.2.2 j)
section LOG
variable {s : St} {T : Tw} {N : Nw} {t : Int} {L : Lg}
abbrev fL : Nat → Prop := fun a => 59 ≤ a ∧ a ≤ 62
theorem keep13 {k was : Int} {w n : Nat} (hS : Sh s) (hn : n < 16) (hc : gI s 59 0 = (n : Int)) : ∃ s1, X3_keep_b13 s 59 k w was = some (0, s1) ∧ Fr fL s s1 ∧ gI s1 59 0 = ((n + 1 : Nat) : Int) ∧ ∀ j, gI s1 60 j = (if j = n then k else gI s 60 j) ∧ gI s1 61 j = (if j = n then (w : Int) else gI s 61 j) ∧ gI s1 62 j = (if j = n then was else gI s 62 j) := by
  have g : (n : Int) < 16 := by omega
  have hw := wk1 (k := n) (by omega)
  refine ⟨pI (pI (pI (pI s 60 n k) 61 n (w : Int)) 62 n was) 59 0 ((n : Int) + 1), ?_, ?_, ?_, fun j => ⟨?_, ?_, ?_⟩⟩
  · unfold X3_keep_b13
    simp [tF, isK, shF hS, gI_pI, hc, g, hw]
  · exact (((Fr_pI (by simp [fL])).trans (Fr_pI (by simp [fL]))).trans (Fr_pI (by simp [fL]))).trans (Fr_pI (by simp [fL]))
  · rw [gI_pI]; simp
  · simp [gI_pI]
  · simp [gI_pI]
  · simp [gI_pI]
theorem forget_e (hS : Sh s) : ∃ s1, X3_forgetOldest s 59 = some (0, s1) ∧ Fr fL s s1 ∧ gI s1 59 0 = 15 ∧ ∀ j, j < 15 → gI s1 60 j = gI s 60 (j + 1) ∧ gI s1 61 j = gI s 61 (j + 1) ∧ gI s1 62 j = gI s 62 (j + 1) := by
  have hk : isK s 13 59 := by simp [isK, shF hS]
  unfold X3_forgetOldest
  rw [grd_t hk, lets_e]
  unfold X3_forgetOldest_b8
  refine iter_inv (Q := fun F => ∃ s1, F = some (0, s1) ∧ Fr fL s s1 ∧ gI s1 59 0 = 15 ∧ ∀ j, j < 15 → gI s1 60 j = gI s 60 (j + 1) ∧ gI s1 61 j = gI s 61 (j + 1) ∧ gI s1 62 j = gI s 62 (j + 1)) (fun i a => a.2 = ((59 : Int), (i : Int)) ∧ Fr fL s a.1 ∧ gI a.1 59 0 = 15 ∧ ∀ j, gI a.1 60 j = (if j < i then gI s 60 (j + 1) else gI s 60 j) ∧ gI a.1 61 j = (if j < i then gI s 61 (j + 1) else gI s 61 j) ∧ gI a.1 62 j = (if j < i then gI s 62 (j + 1) else gI s 62 j)) 15 FU _ (by unfold FU; omega) ⟨rfl, Fr_pI (by simp [fL]), by rw [gI_pI]; simp, fun j => by simp [gI_pI]⟩ (fun i hi a ha => ?_) (fun a ha rec => ?_)
  · obtain ⟨s4, a2⟩ := a
    obtain ⟨a1, a2, a3, a4⟩ := ha
    simp only at a1
    subst a1
    simp only at a2 a3 a4
    have hS4 : Sh s4 := by rw [a2.sh]; exact hS
    obtain ⟨b1, b2, b3⟩ := a4 (i + 1)
    rw [if_neg (by omega)] at b1 b2 b3
    have g1 : ¬ (15 : Int) ≤ (i : Int) := by omega
    have g2 : (0 : Int) ≤ (i : Int) + 1 := by omega
    have g3 : (i : Int) + 1 < 16 := by omega
    have g4 : (i : Int) < 16 := by omega
    have i1 : ((i : Int) + 1).toNat = i + 1 := by omega
    have hi6 : i ≤ 6000 := by omega
    have hw := wk1 hi6
    refine ⟨(pI (pI (pI s4 60 i (gI s 60 (i + 1))) 61 i (gI s 61 (i + 1))) 62 i (gI s 62 (i + 1)), (59 : Int), ((i + 1 : Nat) : Int)), ⟨rfl, a2.trans (((Fr_pI (by simp [fL])).trans (Fr_pI (by simp [fL]))).trans (Fr_pI (by simp [fL]))), ?_, fun j => ?_⟩, fun rec => ?_⟩
    · show gI (pI (pI (pI s4 60 i _) 61 i _) 62 i _) 59 0 = 15
      simp [gI_pI, a3]
    · show gI (pI (pI (pI s4 60 i _) 61 i _) 62 i _) 60 j = _ ∧ gI (pI (pI (pI s4 60 i _) 61 i _) 62 i _) 61 j = _ ∧ gI (pI (pI (pI s4 60 i _) 61 i _) 62 i _) 62 j = _
      obtain ⟨c1, c2, c3⟩ := a4 j
      by_cases q : j = i
      · subst q
        simp [gI_pI]
      · by_cases z : j < i
        · have z2 : j < i + 1 := by clear hw; omega
          rw [if_pos z] at c1 c2 c3
          simp [gI_pI, q, z2, c1, c2, c3]
        · have z2 : ¬ j < i + 1 := by clear hw; omega
          rw [if_neg z] at c1 c2 c3
          simp [gI_pI, q, z2, c1, c2, c3]
    · simp [X3_forgetOldest_b8_body, tF, isK, shF hS4, gI_pI, a3, g1, g2, g3, g4, i1, hw, b1, b2, b3]
  · obtain ⟨s4, a2⟩ := a
    obtain ⟨a1, a2, a3, a4⟩ := ha
    simp only at a1
    subst a1
    simp only at a2 a3 a4
    have hS4 : Sh s4 := by rw [a2.sh]; exact hS
    refine ⟨s4, by simp [X3_forgetOldest_b8_body, tF, isK, shF hS4, a3], a2, a3, fun j hj => ?_⟩
    obtain ⟨c1, c2, c3⟩ := a4 j
    rw [if_pos hj] at c1 c2 c3
    exact ⟨c1, c2, c3⟩
theorem keep_e (hS : Sh s) (hL : LGc s L) (h16 : L.1 ≤ 16) (e : EE) (N : Nw) : ∃ s1, X3_keep s 59 e.1 e.2.1 e.2.2 = some (0, s1) ∧ Fr fL s s1 ∧ LGc s1 (psh L e N) := by
  obtain ⟨l1, l2⟩ := hL
  have hk : isK s 13 59 := by simp [isK, shF hS]
  unfold X3_keep
  rw [grd_t hk, l1]
  by_cases c : L.1 < 16
  · obtain ⟨s1, e1, e2, e3, e4⟩ := keep13 (k := e.1) (was := e.2.2) (w := e.2.1) hS c l1
    rw [if_pos (by omega)]
    refine ⟨s1, e1, e2, ?_⟩
    unfold psh
    rw [if_pos c]
    refine ⟨e3, fun j hj => ?_⟩
    have hj' : j < L.1 + 1 := hj
    obtain ⟨c1, c2, c3⟩ := e4 j
    show gI s1 60 j = (if j = L.1 then e else L.2.1 j).1 ∧ gI s1 61 j = ((if j = L.1 then e else L.2.1 j).2.1 : Int) ∧ gI s1 62 j = (if j = L.1 then e else L.2.1 j).2.2
    by_cases q : j = L.1
    · rw [if_pos q] at c1 c2 c3 ⊢
      exact ⟨c1, c2, c3⟩
    · rw [if_neg q] at c1 c2 c3 ⊢
      obtain ⟨d1, d2, d3⟩ := l2 j (by omega)
      exact ⟨c1.trans d1, c2.trans d2, c3.trans d3⟩
  · have c16 : L.1 = 16 := by omega
    obtain ⟨s2, f1, f2, f3, f4⟩ := forget_e hS
    have hS2 : Sh s2 := by rw [f2.sh]; exact hS
    obtain ⟨s1, e1, e2, e3, e4⟩ := keep13 (k := e.1) (was := e.2.2) (w := e.2.1) (n := 15) hS2 (by decide) f3
    rw [if_neg (by omega)]
    refine ⟨s1, by simp [tF, isK, shF hS, f1, e1], f2.trans e2, ?_⟩
    unfold psh
    rw [if_neg c]
    refine ⟨e3, fun j hj => ?_⟩
    have hj' : j < 16 := hj
    obtain ⟨c1, c2, c3⟩ := e4 j
    show gI s1 60 j = (if j = 15 then e else L.2.1 (j + 1)).1 ∧ gI s1 61 j = ((if j = 15 then e else L.2.1 (j + 1)).2.1 : Int) ∧ gI s1 62 j = (if j = 15 then e else L.2.1 (j + 1)).2.2
    by_cases q : j = 15
    · rw [if_pos q] at c1 c2 c3 ⊢
      exact ⟨c1, c2, c3⟩
    · rw [if_neg q] at c1 c2 c3 ⊢
      obtain ⟨d1, d2, d3⟩ := l2 (j + 1) (by omega)
      obtain ⟨b1, b2, b3⟩ := f4 j (by omega)
      exact ⟨(c1.trans b1).trans d1, (c2.trans b2).trans d2, (c3.trans b3).trans d3⟩
abbrev fP : Nat → Prop := fun a => a = 76 ∨ a = 80
theorem rem51 {n : Nat} (hS : Sh s) (hn : n < 16) (hc : gI s 76 19 = (n : Int)) : ∃ s1, X13_remembers_b49 s 76 = some (0, s1) ∧ Fr fP s s1 ∧ (∀ k, k ≠ 19 → gI s1 76 k = gI s 76 k) ∧ gI s1 76 19 = ((n + 1 : Nat) : Int) ∧ ∀ j, gI s1 80 j = if 19 * n ≤ j ∧ j < 19 * n + 19 then gI s 78 (j - 19 * n) else gI s 80 j := by
  unfold X13_remembers_b49 X13_remembers_b51
  refine iter_inv (Q := fun F => ∃ s1, F = some (0, s1) ∧ Fr fP s s1 ∧ (∀ k, k ≠ 19 → gI s1 76 k = gI s 76 k) ∧ gI s1 76 19 = ((n + 1 : Nat) : Int) ∧ ∀ j, gI s1 80 j = if 19 * n ≤ j ∧ j < 19 * n + 19 then gI s 78 (j - 19 * n) else gI s 80 j) (fun i a => a.2 = ((76 : Int), (i : Int)) ∧ Fr (fun a => a = 80) s a.1 ∧ ∀ j, gI a.1 80 j = if 19 * n ≤ j ∧ j < 19 * n + i then gI s 78 (j - 19 * n) else gI s 80 j) 19 FU _ (by unfold FU; omega) ⟨rfl, Fr.refl _ _, fun j => by rw [if_neg (by omega)]⟩ (fun i hi a ha => ?_) (fun a ha rec => ?_)
  · obtain ⟨s4, a2⟩ := a
    obtain ⟨a1, a2, a4⟩ := ha
    simp only at a1
    subst a1
    simp only at a2 a4
    have hS4 : Sh s4 := by rw [a2.sh]; exact hS
    have c19 : gI s4 76 19 = (n : Int) := (a2.nu (by simp)).trans hc
    have c78 : gI s4 78 i = gI s 78 i := a2.nu (by simp)
    have g1 : ¬ (19 : Int) ≤ (i : Int) := by omega
    have g2 : (i : Int) < 19 := by omega
    have g3 : (0 : Int) ≤ 19 * (n : Int) + (i : Int) := by omega
    have g4 : 19 * (n : Int) + (i : Int) < 304 := by omega
    have i1 : (19 * (n : Int) + (i : Int)).toNat = 19 * n + i := by omega
    have hi6 : i ≤ 6000 := by omega
    refine ⟨(pI s4 80 (19 * n + i) (gI s 78 i), (76 : Int), ((i + 1 : Nat) : Int)), ⟨rfl, a2.trans (Fr_pI (by simp)), fun j => ?_⟩, fun rec => ?_⟩
    · show gI (pI s4 80 (19 * n + i) (gI s 78 i)) 80 j = _
      rw [gI_pI]
      by_cases q : j = 19 * n + i
      · rw [if_pos ⟨rfl, q⟩, if_pos (by omega), show j - 19 * n = i by omega]
      · rw [if_neg (fun z => q z.2), a4 j]
        by_cases z : 19 * n ≤ j ∧ j < 19 * n + i
        · rw [if_pos z, if_pos (by omega)]
        · rw [if_neg z, if_neg (by omega)]
    · have w1 : w32 (19 * (n : Int)) = 19 * (n : Int) := w32e (by omega)
      have w2 : w32 (19 * (n : Int) + (i : Int)) = 19 * (n : Int) + (i : Int) := w32e (by clear w1; omega)
      have hw := wk1 hi6
      simp [X13_remembers_b51_body, tF, isK, shF hS4, c19, c78, g1, g2, g3, g4, i1, w1, w2, hw]
  · obtain ⟨s4, a2⟩ := a
    obtain ⟨a1, a2, a4⟩ := ha
    simp only at a1
    subst a1
    simp only at a2 a4
    have hS4 : Sh s4 := by rw [a2.sh]; exact hS
    have c19 : gI s4 76 19 = (n : Int) := (a2.nu (by simp)).trans hc
    have hw := wk1 (k := n) (by omega)
    refine ⟨pI s4 76 19 ((n : Int) + 1), by simp [X13_remembers_b51_body, tF, isK, shF hS4, c19, hw], (a2.mono (fun a ha => Or.inr ha)).trans (Fr_pI (by simp [fP])), fun k hk => ?_, ?_, fun j => ?_⟩
    · rw [gI_pI, if_neg (fun z => hk z.2)]
      exact a2.nu (by simp)
    · rw [gI_pI]; simp
    · rw [gI_pI, if_neg (by simp)]
      exact a4 j
theorem rem_e (hS : Sh s) (hT : TOK T) (hL : LGm s T L) (h16 : L.1 ≤ 16) (hx : RXf (fun j => gI s 78 j) T N) (e : EE) : ∃ s1, X13_remembers s 76 = some (0, s1) ∧ Fr fP s s1 ∧ (∀ k, k ≠ 19 → gI s1 76 k = gI s 76 k) ∧ LGm s1 T (psh L e N) := by
  obtain ⟨l1, l2⟩ := hL
  have t5 := hT.1.2.2.2.2.1
  have t6 := hT.1.2.2.2.2.2.1
  have rx : ∀ {f g : Nat → Int} {M : Nw}, RXf f T M → (∀ i, i < 19 → g i = f i) → RXf g T M := fun hf hg => ⟨fun p hp => (hg p (by omega)).trans (hf.1 p hp), fun d hd => ⟨(hg _ (by omega)).trans (hf.2.1 d hd).1, (hg _ (by omega)).trans (hf.2.1 d hd).2⟩, (hg 18 (by omega)).trans hf.2.2⟩
  have hk : isK s 23 76 := by simp [isK, shF hS]
  unfold X13_remembers
  rw [grd_t hk, l1]
  by_cases c : L.1 < 16
  · obtain ⟨s1, e1, e2, e3, e4, e5⟩ := rem51 hS c l1
    rw [if_pos (by omega)]
    refine ⟨s1, e1, e2, e3, ?_⟩
    unfold psh
    rw [if_pos c]
    refine ⟨e4, fun j hj => ?_⟩
    have hj' : j < L.1 + 1 := hj
    show RXf (fun i => gI s1 80 (19 * j + i)) T (if j = L.1 then N else L.2.2 j)
    by_cases q : j = L.1
    · rw [if_pos q]
      refine rx hx (fun i hi => ?_)
      rw [e5, if_pos (by omega), show 19 * j + i - 19 * L.1 = i by rw [q]; omega]
    · rw [if_neg q]
      refine rx (l2 j (by omega)) (fun i hi => ?_)
      rw [e5, if_neg (by omega)]
  · have c16 : L.1 = 16 := by omega
    rw [if_neg (by omega)]
    have sh : ∃ s2, X13_remembers_b11 FU s 76 0 = X13_remembers_b49 s2 76 ∧ Fr fP s s2 ∧ (∀ k, k ≠ 19 → gI s2 76 k = gI s 76 k) ∧ gI s2 76 19 = 15 ∧ ∀ j, gI s2 80 j = if j < 285 then gI s 80 (j + 19) else gI s 80 j := by
      unfold X13_remembers_b11
      refine iter_inv (Q := fun F => ∃ s2, F = X13_remembers_b49 s2 76 ∧ Fr fP s s2 ∧ (∀ k, k ≠ 19 → gI s2 76 k = gI s 76 k) ∧ gI s2 76 19 = 15 ∧ ∀ j, gI s2 80 j = if j < 285 then gI s 80 (j + 19) else gI s 80 j) (fun i a => a.2 = ((76 : Int), (i : Int)) ∧ Fr (fun a => a = 80) s a.1 ∧ ∀ j, gI a.1 80 j = if j < i then gI s 80 (j + 19) else gI s 80 j) 285 FU _ (by unfold FU; omega) ⟨rfl, Fr.refl _ _, fun j => by rw [if_neg (by omega)]⟩ (fun i hi a ha => ?_) (fun a ha rec => ?_)
      · obtain ⟨s4, a2⟩ := a
        obtain ⟨a1, a2, a4⟩ := ha
        simp only at a1
        subst a1
        simp only at a2 a4
        have hS4 : Sh s4 := by rw [a2.sh]; exact hS
        have b1 := a4 (i + 19)
        rw [if_neg (by omega)] at b1
        have g1 : ¬ (285 : Int) ≤ (i : Int) := by omega
        have g2 : (i : Int) < 304 := by omega
        have g3 : (0 : Int) ≤ (i : Int) + 19 := by omega
        have g4 : (i : Int) + 19 < 304 := by omega
        have i1 : ((i : Int) + 19).toNat = i + 19 := by omega
        have hi6 : i ≤ 6000 := by omega
        refine ⟨(pI s4 80 i (gI s 80 (i + 19)), (76 : Int), ((i + 1 : Nat) : Int)), ⟨rfl, a2.trans (Fr_pI (by simp)), fun j => ?_⟩, fun rec => ?_⟩
        · show gI (pI s4 80 i _) 80 j = _
          rw [gI_pI]
          by_cases q : j = i
          · rw [if_pos ⟨rfl, q⟩, if_pos (by omega), q]
          · rw [if_neg (fun z => q z.2), a4 j]
            by_cases z : j < i
            · rw [if_pos z, if_pos (by omega)]
            · rw [if_neg z, if_neg (by omega)]
        · have w1 : w32 ((i : Int) + 19) = (i : Int) + 19 := w32e (by omega)
          have hw := wk1 hi6
          simp [X13_remembers_b11_body, tF, isK, shF hS4, g1, g2, g3, g4, i1, w1, hw, b1]
      · obtain ⟨s4, a2⟩ := a
        obtain ⟨a1, a2, a4⟩ := ha
        simp only at a1
        subst a1
        simp only at a2 a4
        have hS4 : Sh s4 := by rw [a2.sh]; exact hS
        have c19 : gI s4 76 19 = 16 := by
          rw [a2.nu (by simp), l1, c16]; rfl
        refine ⟨pI s4 76 19 15, by simp [X13_remembers_b11_body, tF, isK, shF hS4, c19]; rfl, (a2.mono (fun a ha => Or.inr ha)).trans (Fr_pI (by simp [fP])), fun k hk => ?_, by rw [gI_pI]; simp, fun j => ?_⟩
        · rw [gI_pI, if_neg (fun z => hk z.2)]
          exact a2.nu (by simp)
        · rw [gI_pI, if_neg (by simp)]
          exact a4 j
    obtain ⟨s2, f1, f2, f3, f4, f5⟩ := sh
    have hS2 : Sh s2 := by rw [f2.sh]; exact hS
    obtain ⟨s1, e1, e2, e3, e4, e5⟩ := rem51 (n := 15) hS2 (by decide) f4
    refine ⟨s1, f1.trans e1, f2.trans e2, fun k hk => (e3 k hk).trans (f3 k hk), ?_⟩
    unfold psh
    rw [if_neg c]
    refine ⟨e4, fun j hj => ?_⟩
    have hj' : j < 16 := hj
    have v78 : ∀ k, gI s2 78 k = gI s 78 k := fun k => f2.nu (by simp [fP])
    show RXf (fun i => gI s1 80 (19 * j + i)) T (if j = 15 then N else L.2.2 (j + 1))
    by_cases q : j = 15
    · rw [if_pos q]
      refine rx hx (fun i hi => ?_)
      rw [e5, if_pos (by omega), v78, show 19 * j + i - 19 * 15 = i by omega]
    · rw [if_neg q]
      refine rx (l2 (j + 1) (by omega)) (fun i hi => ?_)
      rw [e5, if_neg (by omega), f5, if_pos (by omega)]
      congr 1
      omega
end LOG
