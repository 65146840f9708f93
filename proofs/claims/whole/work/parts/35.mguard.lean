/-! the reference's guards; what a reading call of it leaves -/
def mS (a : Nat) : Prop := a = 76 ∨ a = 79 ∨ (82 ≤ a ∧ a ≤ 87)
/-- from s to s2 only what a reading call may write has changed -/
def Mv (s s2 : St) : Prop := Fr mS s s2 ∧ gI s2 76 6 = gI s 76 6 ∧ gI s2 76 12 = gI s 76 12 ∧ gI s2 76 19 = gI s 76 19 ∧ gI s2 76 20 = gI s 76 20
def MR (s : St) (w r : Int) (F : Rs) : Prop := ∃ s2, F = some (r, s2) ∧ Mv s s2 ∧ gI s2 76 1 = w ∧ gI s2 76 2 = -1
theorem Mv.refl (s : St) : Mv s s := ⟨Fr.refl _ _, rfl, rfl, rfl, rfl⟩
theorem Mv.trans {s s1 s2 : St} (h1 : Mv s s1) (h2 : Mv s1 s2) : Mv s s2 := ⟨h1.1.trans h2.1, h2.2.1.trans h1.2.1, h2.2.2.1.trans h1.2.2.1, h2.2.2.2.1.trans h1.2.2.2.1, h2.2.2.2.2.trans h1.2.2.2.2⟩
theorem Mv_pI {s : St} {k : Nat} {x : Int} (h : k ≠ 6 ∧ k ≠ 12 ∧ k ≠ 19 ∧ k ≠ 20) : Mv s (pI s 76 k x) := by
  obtain ⟨h1, h2, h3, h4⟩ := h
  refine ⟨Fr_pI (Or.inl rfl), ?_, ?_, ?_, ?_⟩ <;> rw [gI_pI, if_neg (by omega)]
theorem Mv_fr {L : Nat → Prop} {s s1 : St} (h : Fr L s s1) (hL : ∀ a, L a → a = 79 ∨ (82 ≤ a ∧ a ≤ 87)) : Mv s s1 := by
  have h6 : ¬ L (76 : Int).toNat := fun q => by have := hL _ q; simp at this
  exact ⟨h.mono (fun a ha => Or.inr (hL a ha)), h.nu h6, h.nu h6, h.nu h6, h.nu h6⟩
def fiM (w : Int) (s : St) : St := pI (pI s 76 1 w) 76 2 (-1)
theorem Mv_fiM {s s1 : St} {w : Int} (h : Mv s s1) : Mv s (fiM w s1) := (h.trans (Mv_pI (k := 1) (x := w) (by decide))).trans (Mv_pI (k := 2) (x := -1) (by decide))
theorem MR_of {s s1 : St} {w r : Int} {F : Rs} (h : Mv s s1) (hF : F = some (r, fiM w s1)) : MR s w r F := ⟨_, hF, Mv_fiM h, rfl, rfl⟩
def wk (s : St) : St := sR s 79 (fun j => if j < 19 then gI s 78 j else gI s 79 j)
theorem wkF : (∀ (s : St) (a : Int), kd (wk s) a = kd s a) ∧ (∀ (s : St) (a : Int), ln (wk s) a = ln s a) ∧ (∀ (s : St) (a : Int) (k : Nat), gR (wk s) a k = gR s a k) ∧ ∀ (s : St), Sh (wk s) = Sh s := ⟨fun _ _ => rfl, fun _ _ => rfl, fun _ _ _ => rfl, fun _ => rfl⟩
theorem Mv_wk (s : St) : Mv s (wk s) := Mv_fr (L := fun a => a = 79) (Fr_sR rfl) (fun a ha => Or.inl ha)
theorem MR_no {s : St} {w r : Int} {F : Rs} (hF : F = some (r, fiM w (pI s 76 0 0))) : MR s w r F := MR_of (Mv_pI (k := 0) (x := 0) (by decide)) hF
theorem MR_ok {s : St} {w r : Int} {F : Rs} (hF : F = some (r, fiM w (wk (pI s 76 0 0)))) : MR s w r F := MR_of ((Mv_pI (k := 0) (x := 0) (by decide)).trans (Mv_wk _)) hF
/-- the reference's world, if there is a town -/
def MWd (W : Wd) (s : St) : Prop := Sh s ∧ (W = none → gR s 76 3 < 0) ∧ ∀ T N, W = some (T, N) → ∃ t, MW T t s ∧ NOK T N ∧ RXf (fun j => gI s 78 j) T N
theorem MW.tr {T : Tw} {t : Int} {s : St} (h : MW T t s) (k : Nat) (x : Int) : MW T t (pI s 76 k x) := h.fr (L := fun a => a = 76) (Fr_pI rfl) (fun a ha q => by omega)
theorem wk_world {T : Tw} {N : Nw} {t : Int} {s : St} (h : MW T t s) (hN : NOK T N) (hx : RXf (fun j => gI s 78 j) T N) (k : Nat) (x : Int) : WM T N t (wk (pI s 76 k x)) := by
  refine ⟨(h.tr k x).fr (L := fun a => a = 79) (Fr_sR rfl) (fun a ha q => by omega), hN, ?_⟩
  have t5 := h.2.1.1.2.2.2.2.1
  have t6 := h.2.1.1.2.2.2.2.2.1
  refine ⟨fun p hp => ?_, fun d hd => ⟨?_, ?_⟩, ?_⟩
  · show (if p < 19 then gI s 78 p else _) = _
    rw [if_pos (by omega)]; exact hx.1 p hp
  · show (if 6 + d < 19 then gI s 78 (6 + d) else _) = _
    rw [if_pos (by omega)]; exact (hx.2.1 d hd).1
  · show (if 12 + d < 19 then gI s 78 (12 + d) else _) = _
    rw [if_pos (by omega)]; exact (hx.2.1 d hd).2
  · exact hx.2.2
section MGUARD
variable {s : St}
theorem m_works (hS : Sh s) : X13_works s 76 = some (0, wk s) := by
  unfold X13_works X13_works_b2
  have e0 : (s, (76 : Int), (0 : Int)) = (fun k : Nat => (sR s 79 (fun j => if j < k then gI s 78 j else gI s 79 j), (76 : Int), (k : Int))) 0 := by
    simp [sR_self]
  rw [e0]
  refine iter_run 19 FU (fun k : Nat => (sR s 79 (fun j => if j < k then gI s 78 j else gI s 79 j), (76 : Int), (k : Int))) (by unfold FU; omega) (fun k hk rec => ?_) (fun rec => ?_)
  · have g1 : ¬ (19 : Int) ≤ k := by omega
    have g2 : (k : Int) < 19 := by omega
    have hf : (fun j => if j = k then gI s 78 k else if j < k then gI s 78 j else gI s 79 j) = fun j => if j < k + 1 then gI s 78 j else gI s 79 j := by
      funext j
      by_cases h1 : j = k
      · simp [h1]
      · by_cases h2 : j < k
        · simp [h1, h2, show j < k + 1 by omega]
        · simp [h1, h2, show ¬ j < k + 1 by omega]
    have hw := wk1 (k := k) (by omega)
    simp [X13_works_b2_body, tF, sRF, isK, shF hS, gI_sR, g1, g2, sR_pI, hf, hw]
  · simp [X13_works_b2_body, wk]
theorem m_in (s : St) (a b c : Int) : X13_in s a b c = some (if b ≤ a ∧ a ≤ c then 1 else 0, s) := by
  unfold X13_in X13_in_b14 X13_in_b15
  by_cases h : a < b
  · simp [h, tF, show ¬ b ≤ a by omega]
  · by_cases h2 : c < a
    · simp [h, h2, tF, show ¬ a ≤ c by omega]
    · simp [h, h2, tF, show b ≤ a by omega, show a ≤ c by omega]
theorem m_rn (s : St) (a n : Int) : X13_refusesNight s 76 a n = some (if a = 0 then 1 else if 0 ≤ n ∧ n ≤ 99 then 0 else 2, s) := by
  unfold X13_refusesNight X13_refusesNight_b23
  by_cases h : a = 0
  · simp [h]
  · by_cases h2 : 0 ≤ n ∧ n ≤ 99 <;> simp [h, h2, m_in, tF]
theorem m_good (hS : Sh s) (x : Int) : X13_good s 76 x = some (x, fiM 0 s) := by
  unfold X13_good fiM
  simp [tF, isK, shF hS]
theorem m_refd (hS : Sh s) (w : Int) : X13_refused s 76 w = some (-1, fiM w s) := by
  unfold X13_refused fiM
  simp [tF, isK, shF hS]
theorem n_dead (hS : Sh s) (h : gR s 76 3 < 0) (d : Int) : X13_isDead s 76 d = some (0, s) := by
  unfold X13_isDead X13_isDead_b26 X13_isDead_b27
  simp [tF, isK, shF hS, h]
theorem n_pers (hS : Sh s) (h : gR s 76 3 < 0) (d : Int) : X13_isPerson s 76 d = some (0, s) := by
  unfold X13_isPerson X13_isPerson_b26 X13_isPerson_b27
  simp [tF, isK, shF hS, h]
theorem n_hous (hS : Sh s) (h : gR s 76 3 < 0) (d : Int) : X13_isHouse s 76 d = some (0, s) := by
  unfold X13_isHouse X13_isHouse_b26 X13_isHouse_b27
  simp [tF, isK, shF hS, h]
variable {T : Tw} {t : Int}
theorem m_dead (h : MW T t s) (d : Int) : X13_isDead s 76 d = some (if 0 ≤ d ∧ d < tD T then 1 else 0, s) := by
  have hS := h.1
  have hM := mF h
  unfold X13_isDead X13_isDead_b26 X13_isDead_b27
  by_cases h : d < 0
  · have g : ¬ 0 ≤ d := by omega
    simp [h, tF, isK, shF hS, hM, g]
  · by_cases h2 : d < tD T
    · have g : 0 ≤ d := by omega
      have g3 : ¬ (tD T : Int) ≤ d := by omega
      simp [h, h2, tF, isK, shF hS, hM, g, g3]
    · have g3 : (tD T : Int) ≤ d := by omega
      simp [h, h2, tF, isK, shF hS, hM, g3]
theorem m_pers (h : MW T t s) (d : Int) : X13_isPerson s 76 d = some (if 0 ≤ d ∧ d < tP T then 1 else 0, s) := by
  have hS := h.1
  have hM := mF h
  unfold X13_isPerson X13_isPerson_b26 X13_isPerson_b27
  by_cases h : d < 0
  · have g : ¬ 0 ≤ d := by omega
    simp [h, tF, isK, shF hS, hM, g]
  · by_cases h2 : d < tP T
    · have g : 0 ≤ d := by omega
      have g3 : ¬ (tP T : Int) ≤ d := by omega
      simp [h, h2, tF, isK, shF hS, hM, g, g3]
    · have g3 : (tP T : Int) ≤ d := by omega
      simp [h, h2, tF, isK, shF hS, hM, g3]
theorem m_hous (h : MW T t s) (d : Int) : X13_isHouse s 76 d = some (if 0 ≤ d ∧ d < tH T then 1 else 0, s) := by
  have hS := h.1
  have hM := mF h
  unfold X13_isHouse X13_isHouse_b26 X13_isHouse_b27
  by_cases h : d < 0
  · have g : ¬ 0 ≤ d := by omega
    simp [h, tF, isK, shF hS, hM, g]
  · by_cases h2 : d < tH T
    · have g : 0 ≤ d := by omega
      have g3 : ¬ (tH T : Int) ≤ d := by omega
      simp [h, h2, tF, isK, shF hS, hM, g, g3]
    · have g3 : (tH T : Int) ≤ d := by omega
      simp [h, h2, tF, isK, shF hS, hM, g3]
end MGUARD
