/-! the law's calls, one by one -/
theorem INV.sh {s : St} (h : INV s) : Sh s := by
  obtain ⟨W, L, I, tr, fl, fp, tp, hO, ht, hC, hM⟩ := h
  exact hC.1.1
theorem cmp_self (x : Int) : cmp3 x x = 0 := by
  unfold cmp3
  rw [if_neg (by omega), if_pos rfl]
/-- where the script's call stands -/
def IX (sc : Nat × (Nat → Int)) (x : Int) : Prop := 0 ≤ x ∧ x + 6 ≤ (sc.1 : Int) ∧ (sc.1 : Int) ≤ 3072
theorem ixF {sc : Nat × (Nat → Int)} {x : Int} (h : IX sc x) : (w32 (x + 1) = x + 1 ∧ w32 (x + 2) = x + 2 ∧ w32 (x + 3) = x + 3 ∧ w32 (x + 4) = x + 4 ∧ w32 (x + 5) = x + 5 ∧ w32 (x + 6) = x + 6) ∧ (0 ≤ x + 1 ∧ 0 ≤ x + 2 ∧ 0 ≤ x + 3 ∧ 0 ≤ x + 4 ∧ 0 ≤ x + 5) ∧ (x + 1 < (sc.1 : Int) ∧ x + 2 < (sc.1 : Int) ∧ x + 3 < (sc.1 : Int) ∧ x + 4 < (sc.1 : Int) ∧ x + 5 < (sc.1 : Int)) := by
  obtain ⟨h1, h2, h3⟩ := h
  exact ⟨⟨w32e (by omega), w32e (by omega), w32e (by omega), w32e (by omega), w32e (by omega), w32e (by omega)⟩, ⟨by omega, by omega, by omega, by omega, by omega⟩, ⟨by omega, by omega, by omega, by omega, by omega⟩⟩
/-- one call of the law is made, and the loop goes on -/
def GO (s : St) (x : Int) (F : (St → Int → Int → Int → Int → Rs) → Rs) : Prop := ∃ s2, (∀ rk, F rk = rk s2 0 76 88 (x + 6)) ∧ INV s2 ∧ s.1.1 ≤ s2.1.1 ∧ s2.1.1 ≤ s.1.1 + 20 ∧ s2.1.2 ≤ s.1.2 + 400
section BLOCKS
variable {sc : Nat × (Nat → Int)} {x : Int} {s : St}
theorem g_feed (hx : IX sc x) (h : INV s) : GO s x (fun rk => L_law_b300 sc rk s 0 76 88 x) := by
  have hS := h.sh
  have hX := ixF hx
  obtain ⟨r, s1, s2, e1, e2, h1, h2, h3, h4, h5⟩ := s_feed (sc.2 (x + 1).toNat) (sc.2 (x + 2).toNat) (sc.2 (x + 3).toNat) (sc.2 (x + 4).toNat) (sc.2 (x + 5).toNat) h
  have e1' : X11_feed s 0 (sc.2 (x + 1).toNat) (sc.2 (x + 2).toNat) (sc.2 (x + 3).toNat) (sc.2 (x + 4).toNat) (sc.2 (x + 5).toNat) = some (r, s1) := e1
  have e2' : X13_feed s1 76 (sc.2 (x + 1).toNat) (sc.2 (x + 2).toNat) (sc.2 (x + 3).toNat) (sc.2 (x + 4).toNat) (sc.2 (x + 5).toNat) = some (r, s2) := e2
  refine ⟨s2, fun rk => ?_, h2, h3, h4, h5⟩
  simp [L_law_b300, L_law_b2315, tF, isK, shF hS, shF h1, hX, e1', e2', cmp_self]
theorem g_town (H : ∀ (s : St) (a : Int), INV s → 89 ≤ s.1.1 ∧ s.1.1 < 900000 → STP s (fun s => X11_town s 0 a) (fun s => X13_town s 76 a)) (hx : IX sc x) (h : INV s) (hs : 89 ≤ s.1.1 ∧ s.1.1 < 900000) : GO s x (fun rk => L_law_b373 sc rk s 0 76 88 x) := by
  have hS := h.sh
  have hX := ixF hx
  obtain ⟨r, s1, s2, e1, e2, h1, h2, h3, h4, h5⟩ := H s (sc.2 (x + 1).toNat) h hs
  have e1' : X11_town s 0 (sc.2 (x + 1).toNat) = some (r, s1) := e1
  have e2' : X13_town s1 76 (sc.2 (x + 1).toNat) = some (r, s2) := e2
  refine ⟨s2, fun rk => ?_, h2, h3, h4, h5⟩
  simp [L_law_b373, L_law_b2315, tF, isK, shF hS, shF h1, hX, e1', e2', cmp_self]
theorem g_fault (hx : IX sc x) (h : INV s) : GO s x (fun rk => L_law_b398 sc rk s 0 76 88 x) := by
  have hS := h.sh
  have hX := ixF hx
  obtain ⟨r, s1, s2, e1, e2, h1, h2, h3, h4, h5⟩ := s_fault h
  have e1' : X11_fault s 0 = some (r, s1) := e1
  have e2' : X13_fault s1 76 = some (r, s2) := e2
  refine ⟨s2, fun rk => ?_, h2, h3, h4, h5⟩
  simp [L_law_b398, L_law_b2315, tF, isK, shF hS, shF h1, hX, e1', e2', cmp_self]
theorem g_where (hx : IX sc x) (h : INV s) : GO s x (fun rk => L_law_b411 sc rk s 0 76 88 x) := by
  have hS := h.sh
  have hX := ixF hx
  obtain ⟨r, s1, s2, e1, e2, h1, h2, h3, h4, h5⟩ := s_where h
  have e1' : X11_where s 0 = some (r, s1) := e1
  have e2' : X13_where s1 76 = some (r, s2) := e2
  refine ⟨s2, fun rk => ?_, h2, h3, h4, h5⟩
  simp [L_law_b411, L_law_b2315, tF, isK, shF hS, shF h1, hX, e1', e2', cmp_self]
theorem g_person (hx : IX sc x) (h : INV s) : GO s x (fun rk => L_law_b424 sc rk s 0 76 88 x) := by
  have hS := h.sh
  have hX := ixF hx
  obtain ⟨r, s1, s2, e1, e2, h1, h2, h3, h4, h5⟩ := s_person (sc.2 (x + 1).toNat) (sc.2 (x + 2).toNat) h
  have e1' : X11_person s 0 (sc.2 (x + 1).toNat) (sc.2 (x + 2).toNat) = some (r, s1) := e1
  have e2' : X13_person s1 76 (sc.2 (x + 1).toNat) (sc.2 (x + 2).toNat) = some (r, s2) := e2
  refine ⟨s2, fun rk => ?_, h2, h3, h4, h5⟩
  simp [L_law_b424, L_law_b2315, tF, isK, shF hS, shF h1, hX, e1', e2', cmp_self]
theorem g_dead (hx : IX sc x) (h : INV s) : GO s x (fun rk => L_law_b461 sc rk s 0 76 88 x) := by
  have hS := h.sh
  have hX := ixF hx
  obtain ⟨r, s1, s2, e1, e2, h1, h2, h3, h4, h5⟩ := s_dead (sc.2 (x + 1).toNat) (sc.2 (x + 2).toNat) h
  have e1' : X11_dead s 0 (sc.2 (x + 1).toNat) (sc.2 (x + 2).toNat) = some (r, s1) := e1
  have e2' : X13_dead s1 76 (sc.2 (x + 1).toNat) (sc.2 (x + 2).toNat) = some (r, s2) := e2
  refine ⟨s2, fun rk => ?_, h2, h3, h4, h5⟩
  simp [L_law_b461, L_law_b2315, tF, isK, shF hS, shF h1, hX, e1', e2', cmp_self]
theorem g_house (hx : IX sc x) (h : INV s) : GO s x (fun rk => L_law_b498 sc rk s 0 76 88 x) := by
  have hS := h.sh
  have hX := ixF hx
  obtain ⟨r, s1, s2, e1, e2, h1, h2, h3, h4, h5⟩ := s_house (sc.2 (x + 1).toNat) h
  have e1' : X11_house s 0 (sc.2 (x + 1).toNat) = some (r, s1) := e1
  have e2' : X13_house s1 76 (sc.2 (x + 1).toNat) = some (r, s2) := e2
  refine ⟨s2, fun rk => ?_, h2, h3, h4, h5⟩
  simp [L_law_b498, L_law_b2315, tF, isK, shF hS, shF h1, hX, e1', e2', cmp_self]
theorem g_comesOut (hx : IX sc x) (h : INV s) : GO s x (fun rk => L_law_b523 sc rk s 0 76 88 x) := by
  have hS := h.sh
  have hX := ixF hx
  obtain ⟨r, s1, s2, e1, e2, h1, h2, h3, h4, h5⟩ := s_comesOut (sc.2 (x + 1).toNat) (sc.2 (x + 2).toNat) h
  have e1' : X11_comesOut s 0 (sc.2 (x + 1).toNat) (sc.2 (x + 2).toNat) = some (r, s1) := e1
  have e2' : X13_comesOut s1 76 (sc.2 (x + 1).toNat) (sc.2 (x + 2).toNat) = some (r, s2) := e2
  refine ⟨s2, fun rk => ?_, h2, h3, h4, h5⟩
  simp [L_law_b523, L_law_b2315, tF, isK, shF hS, shF h1, hX, e1', e2', cmp_self]
theorem g_outIf (hx : IX sc x) (h : INV s) : GO s x (fun rk => L_law_b560 sc rk s 0 76 88 x) := by
  have hS := h.sh
  have hX := ixF hx
  obtain ⟨r, s1, s2, e1, e2, h1, h2, h3, h4, h5⟩ := s_outIf (sc.2 (x + 1).toNat) (sc.2 (x + 2).toNat) (sc.2 (x + 3).toNat) h
  have e1' : X11_outIf s 0 (sc.2 (x + 1).toNat) (sc.2 (x + 2).toNat) (sc.2 (x + 3).toNat) = some (r, s1) := e1
  have e2' : X13_outIf s1 76 (sc.2 (x + 1).toNat) (sc.2 (x + 2).toNat) (sc.2 (x + 3).toNat) = some (r, s2) := e2
  refine ⟨s2, fun rk => ?_, h2, h3, h4, h5⟩
  simp [L_law_b560, L_law_b2315, tF, isK, shF hS, shF h1, hX, e1', e2', cmp_self]
theorem g_hears (hx : IX sc x) (h : INV s) : GO s x (fun rk => L_law_b609 sc rk s 0 76 88 x) := by
  have hS := h.sh
  have hX := ixF hx
  obtain ⟨r, s1, s2, e1, e2, h1, h2, h3, h4, h5⟩ := s_hears (sc.2 (x + 1).toNat) (sc.2 (x + 2).toNat) h
  have e1' : X11_hears s 0 (sc.2 (x + 1).toNat) (sc.2 (x + 2).toNat) = some (r, s1) := e1
  have e2' : X13_hears s1 76 (sc.2 (x + 1).toNat) (sc.2 (x + 2).toNat) = some (r, s2) := e2
  refine ⟨s2, fun rk => ?_, h2, h3, h4, h5⟩
  simp [L_law_b609, L_law_b2315, tF, isK, shF hS, shF h1, hX, e1', e2', cmp_self]
theorem g_off (hx : IX sc x) (h : INV s) : GO s x (fun rk => L_law_b646 sc rk s 0 76 88 x) := by
  have hS := h.sh
  have hX := ixF hx
  obtain ⟨r, s1, s2, e1, e2, h1, h2, h3, h4, h5⟩ := s_off (sc.2 (x + 1).toNat) (sc.2 (x + 2).toNat) h
  have e1' : X11_off s 0 (sc.2 (x + 1).toNat) (sc.2 (x + 2).toNat) = some (r, s1) := e1
  have e2' : X13_off s1 76 (sc.2 (x + 1).toNat) (sc.2 (x + 2).toNat) = some (r, s2) := e2
  refine ⟨s2, fun rk => ?_, h2, h3, h4, h5⟩
  simp [L_law_b646, L_law_b2315, tF, isK, shF hS, shF h1, hX, e1', e2', cmp_self]
theorem g_right (hx : IX sc x) (h : INV s) : GO s x (fun rk => L_law_b683 sc rk s 0 76 88 x) := by
  have hS := h.sh
  have hX := ixF hx
  obtain ⟨r, s1, s2, e1, e2, h1, h2, h3, h4, h5⟩ := s_right (sc.2 (x + 1).toNat) h
  have e1' : X11_right s 0 (sc.2 (x + 1).toNat) = some (r, s1) := e1
  have e2' : X13_right s1 76 (sc.2 (x + 1).toNat) = some (r, s2) := e2
  refine ⟨s2, fun rk => ?_, h2, h3, h4, h5⟩
  simp [L_law_b683, L_law_b2315, tF, isK, shF hS, shF h1, hX, e1', e2', cmp_self]
theorem g_medium (hx : IX sc x) (h : INV s) : GO s x (fun rk => L_law_b708 sc rk s 0 76 88 x) := by
  have hS := h.sh
  have hX := ixF hx
  obtain ⟨r, s1, s2, e1, e2, h1, h2, h3, h4, h5⟩ := s_medium (sc.2 (x + 1).toNat) h
  have e1' : X11_medium s 0 (sc.2 (x + 1).toNat) = some (r, s1) := e1
  have e2' : X13_medium s1 76 (sc.2 (x + 1).toNat) = some (r, s2) := e2
  refine ⟨s2, fun rk => ?_, h2, h3, h4, h5⟩
  simp [L_law_b708, L_law_b2315, tF, isK, shF hS, shF h1, hX, e1', e2', cmp_self]
theorem g_silent (hx : IX sc x) (h : INV s) : GO s x (fun rk => L_law_b733 sc rk s 0 76 88 x) := by
  have hS := h.sh
  have hX := ixF hx
  obtain ⟨r, s1, s2, e1, e2, h1, h2, h3, h4, h5⟩ := s_silent (sc.2 (x + 1).toNat) h
  have e1' : X11_silent s 0 (sc.2 (x + 1).toNat) = some (r, s1) := e1
  have e2' : X13_silent s1 76 (sc.2 (x + 1).toNat) = some (r, s2) := e2
  refine ⟨s2, fun rk => ?_, h2, h3, h4, h5⟩
  simp [L_law_b733, L_law_b2315, tF, isK, shF hS, shF h1, hX, e1', e2', cmp_self]
theorem g_rightFrom (hx : IX sc x) (h : INV s) : GO s x (fun rk => L_law_b758 sc rk s 0 76 88 x) := by
  have hS := h.sh
  have hX := ixF hx
  obtain ⟨r, s1, s2, e1, e2, h1, h2, h3, h4, h5⟩ := s_rightFrom (sc.2 (x + 1).toNat) (sc.2 (x + 2).toNat) h
  have e1' : X11_rightFrom s 0 (sc.2 (x + 1).toNat) (sc.2 (x + 2).toNat) = some (r, s1) := e1
  have e2' : X13_rightFrom s1 76 (sc.2 (x + 1).toNat) (sc.2 (x + 2).toNat) = some (r, s2) := e2
  refine ⟨s2, fun rk => ?_, h2, h3, h4, h5⟩
  simp [L_law_b758, L_law_b2315, tF, isK, shF hS, shF h1, hX, e1', e2', cmp_self]
theorem g_nightsOf (hx : IX sc x) (h : INV s) : GO s x (fun rk => L_law_b795 sc rk s 0 76 88 x) := by
  have hS := h.sh
  have hX := ixF hx
  obtain ⟨r, s1, s2, e1, e2, h1, h2, h3, h4, h5⟩ := s_nightsOf (sc.2 (x + 1).toNat) (sc.2 (x + 2).toNat) h
  have e1' : X11_nightsOf s 0 (sc.2 (x + 1).toNat) (sc.2 (x + 2).toNat) = some (r, s1) := e1
  have e2' : X13_nightsOf s1 76 (sc.2 (x + 1).toNat) (sc.2 (x + 2).toNat) = some (r, s2) := e2
  refine ⟨s2, fun rk => ?_, h2, h3, h4, h5⟩
  simp [L_law_b795, L_law_b2315, tF, isK, shF hS, shF h1, hX, e1', e2', cmp_self]
theorem g_round (hx : IX sc x) (h : INV s) : GO s x (fun rk => L_law_b832 sc rk s 0 76 88 x) := by
  have hS := h.sh
  have hX := ixF hx
  obtain ⟨r, s1, s2, e1, e2, h1, h2, h3, h4, h5⟩ := s_round (sc.2 (x + 1).toNat) h
  have e1' : X11_round s 0 (sc.2 (x + 1).toNat) = some (r, s1) := e1
  have e2' : X13_round s1 76 (sc.2 (x + 1).toNat) = some (r, s2) := e2
  refine ⟨s2, fun rk => ?_, h2, h3, h4, h5⟩
  simp [L_law_b832, L_law_b2315, tF, isK, shF hS, shF h1, hX, e1', e2', cmp_self]
theorem g_bestNight (hx : IX sc x) (h : INV s) : GO s x (fun rk => L_law_b857 sc rk s 0 76 88 x) := by
  have hS := h.sh
  have hX := ixF hx
  obtain ⟨r, s1, s2, e1, e2, h1, h2, h3, h4, h5⟩ := s_bestNight h
  have e1' : X11_bestNight s 0 = some (r, s1) := e1
  have e2' : X13_bestNight s1 76 = some (r, s2) := e2
  refine ⟨s2, fun rk => ?_, h2, h3, h4, h5⟩
  simp [L_law_b857, L_law_b2315, tF, isK, shF hS, shF h1, hX, e1', e2', cmp_self]
theorem g_perfect (hx : IX sc x) (h : INV s) : GO s x (fun rk => L_law_b870 sc rk s 0 76 88 x) := by
  have hS := h.sh
  have hX := ixF hx
  obtain ⟨r, s1, s2, e1, e2, h1, h2, h3, h4, h5⟩ := s_perfect h
  have e1' : X11_perfect s 0 = some (r, s1) := e1
  have e2' : X13_perfect s1 76 = some (r, s2) := e2
  refine ⟨s2, fun rk => ?_, h2, h3, h4, h5⟩
  simp [L_law_b870, L_law_b2315, tF, isK, shF hS, shF h1, hX, e1', e2', cmp_self]
theorem g_together (hx : IX sc x) (h : INV s) : GO s x (fun rk => L_law_b883 sc rk s 0 76 88 x) := by
  have hS := h.sh
  have hX := ixF hx
  obtain ⟨r, s1, s2, e1, e2, h1, h2, h3, h4, h5⟩ := s_together (sc.2 (x + 1).toNat) (sc.2 (x + 2).toNat) h
  have e1' : X11_together s 0 (sc.2 (x + 1).toNat) (sc.2 (x + 2).toNat) = some (r, s1) := e1
  have e2' : X13_together s1 76 (sc.2 (x + 1).toNat) (sc.2 (x + 2).toNat) = some (r, s2) := e2
  refine ⟨s2, fun rk => ?_, h2, h3, h4, h5⟩
  simp [L_law_b883, L_law_b2315, tF, isK, shF hS, shF h1, hX, e1', e2', cmp_self]
theorem g_aimFor (hx : IX sc x) (h : INV s) : GO s x (fun rk => L_law_b920 sc rk s 0 76 88 x) := by
  have hS := h.sh
  have hX := ixF hx
  obtain ⟨r, s1, s2, e1, e2, h1, h2, h3, h4, h5⟩ := s_aimFor (sc.2 (x + 1).toNat) (sc.2 (x + 2).toNat) (sc.2 (x + 3).toNat) h
  have e1' : X11_aimFor s 0 (sc.2 (x + 1).toNat) (sc.2 (x + 2).toNat) (sc.2 (x + 3).toNat) = some (r, s1) := e1
  have e2' : X13_aimFor s1 76 (sc.2 (x + 1).toNat) (sc.2 (x + 2).toNat) (sc.2 (x + 3).toNat) = some (r, s2) := e2
  refine ⟨s2, fun rk => ?_, h2, h3, h4, h5⟩
  simp [L_law_b920, L_law_b2315, tF, isK, shF hS, shF h1, hX, e1', e2', cmp_self]
theorem g_aims (hx : IX sc x) (h : INV s) : GO s x (fun rk => L_law_b969 sc rk s 0 76 88 x) := by
  have hS := h.sh
  have hX := ixF hx
  obtain ⟨r, s1, s2, e1, e2, h1, h2, h3, h4, h5⟩ := s_aims (sc.2 (x + 1).toNat) (sc.2 (x + 2).toNat) (sc.2 (x + 3).toNat) h
  have e1' : X11_aims s 0 (sc.2 (x + 1).toNat) (sc.2 (x + 2).toNat) (sc.2 (x + 3).toNat) = some (r, s1) := e1
  have e2' : X13_aims s1 76 (sc.2 (x + 1).toNat) (sc.2 (x + 2).toNat) (sc.2 (x + 3).toNat) = some (r, s2) := e2
  refine ⟨s2, fun rk => ?_, h2, h3, h4, h5⟩
  simp [L_law_b969, L_law_b2315, tF, isK, shF hS, shF h1, hX, e1', e2', cmp_self]
theorem g_mirrorFor (hx : IX sc x) (h : INV s) : GO s x (fun rk => L_law_b1018 sc rk s 0 76 88 x) := by
  have hS := h.sh
  have hX := ixF hx
  obtain ⟨r, s1, s2, e1, e2, h1, h2, h3, h4, h5⟩ := s_mirrorFor (sc.2 (x + 1).toNat) (sc.2 (x + 2).toNat) h
  have e1' : X11_mirrorFor s 0 (sc.2 (x + 1).toNat) (sc.2 (x + 2).toNat) = some (r, s1) := e1
  have e2' : X13_mirrorFor s1 76 (sc.2 (x + 1).toNat) (sc.2 (x + 2).toNat) = some (r, s2) := e2
  refine ⟨s2, fun rk => ?_, h2, h3, h4, h5⟩
  simp [L_law_b1018, L_law_b2315, tF, isK, shF hS, shF h1, hX, e1', e2', cmp_self]
theorem g_mirrorBest (hx : IX sc x) (h : INV s) : GO s x (fun rk => L_law_b1055 sc rk s 0 76 88 x) := by
  have hS := h.sh
  have hX := ixF hx
  obtain ⟨r, s1, s2, e1, e2, h1, h2, h3, h4, h5⟩ := s_mirrorBest (sc.2 (x + 1).toNat) h
  have e1' : X11_mirrorBest s 0 (sc.2 (x + 1).toNat) = some (r, s1) := e1
  have e2' : X13_mirrorBest s1 76 (sc.2 (x + 1).toNat) = some (r, s2) := e2
  refine ⟨s2, fun rk => ?_, h2, h3, h4, h5⟩
  simp [L_law_b1055, L_law_b2315, tF, isK, shF hS, shF h1, hX, e1', e2', cmp_self]
theorem g_slipFor (hx : IX sc x) (h : INV s) : GO s x (fun rk => L_law_b1080 sc rk s 0 76 88 x) := by
  have hS := h.sh
  have hX := ixF hx
  obtain ⟨r, s1, s2, e1, e2, h1, h2, h3, h4, h5⟩ := s_slipFor (sc.2 (x + 1).toNat) (sc.2 (x + 2).toNat) h
  have e1' : X11_slipFor s 0 (sc.2 (x + 1).toNat) (sc.2 (x + 2).toNat) = some (r, s1) := e1
  have e2' : X13_slipFor s1 76 (sc.2 (x + 1).toNat) (sc.2 (x + 2).toNat) = some (r, s2) := e2
  refine ⟨s2, fun rk => ?_, h2, h3, h4, h5⟩
  simp [L_law_b1080, L_law_b2315, tF, isK, shF hS, shF h1, hX, e1', e2', cmp_self]
theorem g_seat (H : ∀ (s : St) (a : Int), INV s → STP s (fun s => X11_seat s 0 a) (fun s => X13_seat s 76 a)) (hx : IX sc x) (h : INV s) : GO s x (fun rk => L_law_b1117 sc rk s 0 76 88 x) := by
  have hS := h.sh
  have hX := ixF hx
  obtain ⟨r, s1, s2, e1, e2, h1, h2, h3, h4, h5⟩ := H s (sc.2 (x + 1).toNat) h
  have e1' : X11_seat s 0 (sc.2 (x + 1).toNat) = some (r, s1) := e1
  have e2' : X13_seat s1 76 (sc.2 (x + 1).toNat) = some (r, s2) := e2
  refine ⟨s2, fun rk => ?_, h2, h3, h4, h5⟩
  simp [L_law_b1117, L_law_b2315, tF, isK, shF hS, shF h1, hX, e1', e2', cmp_self]
theorem g_seatAt (H : ∀ (s : St) (a b : Int), INV s → STP s (fun s => X11_seatAt s 0 a b) (fun s => X13_seatAt s 76 a b)) (hx : IX sc x) (h : INV s) : GO s x (fun rk => L_law_b1142 sc rk s 0 76 88 x) := by
  have hS := h.sh
  have hX := ixF hx
  obtain ⟨r, s1, s2, e1, e2, h1, h2, h3, h4, h5⟩ := H s (sc.2 (x + 1).toNat) (sc.2 (x + 2).toNat) h
  have e1' : X11_seatAt s 0 (sc.2 (x + 1).toNat) (sc.2 (x + 2).toNat) = some (r, s1) := e1
  have e2' : X13_seatAt s1 76 (sc.2 (x + 1).toNat) (sc.2 (x + 2).toNat) = some (r, s2) := e2
  refine ⟨s2, fun rk => ?_, h2, h3, h4, h5⟩
  simp [L_law_b1142, L_law_b2315, tF, isK, shF hS, shF h1, hX, e1', e2', cmp_self]
theorem g_likes (hx : IX sc x) (h : INV s) : GO s x (fun rk => L_law_b1179 sc rk s 0 76 88 x) := by
  have hS := h.sh
  have hX := ixF hx
  obtain ⟨r, s1, s2, e1, e2, h1, h2, h3, h4, h5⟩ := s_likes (sc.2 (x + 1).toNat) (sc.2 (x + 2).toNat) (sc.2 (x + 3).toNat) h
  have e1' : X11_likes s 0 (sc.2 (x + 1).toNat) (sc.2 (x + 2).toNat) (sc.2 (x + 3).toNat) = some (r, s1) := e1
  have e2' : X13_likes s1 76 (sc.2 (x + 1).toNat) (sc.2 (x + 2).toNat) (sc.2 (x + 3).toNat) = some (r, s2) := e2
  refine ⟨s2, fun rk => ?_, h2, h3, h4, h5⟩
  simp [L_law_b1179, L_law_b2315, tF, isK, shF hS, shF h1, hX, e1', e2', cmp_self]
theorem g_restless (hx : IX sc x) (h : INV s) : GO s x (fun rk => L_law_b1228 sc rk s 0 76 88 x) := by
  have hS := h.sh
  have hX := ixF hx
  obtain ⟨r, s1, s2, e1, e2, h1, h2, h3, h4, h5⟩ := s_restless (sc.2 (x + 1).toNat) h
  have e1' : X11_restless s 0 (sc.2 (x + 1).toNat) = some (r, s1) := e1
  have e2' : X13_restless s1 76 (sc.2 (x + 1).toNat) = some (r, s2) := e2
  refine ⟨s2, fun rk => ?_, h2, h3, h4, h5⟩
  simp [L_law_b1228, L_law_b2315, tF, isK, shF hS, shF h1, hX, e1', e2', cmp_self]
theorem g_moveFor (hx : IX sc x) (h : INV s) : GO s x (fun rk => L_law_b1253 sc rk s 0 76 88 x) := by
  have hS := h.sh
  have hX := ixF hx
  obtain ⟨r, s1, s2, e1, e2, h1, h2, h3, h4, h5⟩ := s_moveFor (sc.2 (x + 1).toNat) (sc.2 (x + 2).toNat) h
  have e1' : X11_moveFor s 0 (sc.2 (x + 1).toNat) (sc.2 (x + 2).toNat) = some (r, s1) := e1
  have e2' : X13_moveFor s1 76 (sc.2 (x + 1).toNat) (sc.2 (x + 2).toNat) = some (r, s2) := e2
  refine ⟨s2, fun rk => ?_, h2, h3, h4, h5⟩
  simp [L_law_b1253, L_law_b2315, tF, isK, shF hS, shF h1, hX, e1', e2', cmp_self]
theorem g_bring (H : ∀ (s : St) (a b : Int), INV s → STP s (fun s => X11_bring s 0 a b) (fun s => X13_bring s 76 a b)) (hx : IX sc x) (h : INV s) : GO s x (fun rk => L_law_b1290 sc rk s 0 76 88 x) := by
  have hS := h.sh
  have hX := ixF hx
  obtain ⟨r, s1, s2, e1, e2, h1, h2, h3, h4, h5⟩ := H s (sc.2 (x + 1).toNat) (sc.2 (x + 2).toNat) h
  have e1' : X11_bring s 0 (sc.2 (x + 1).toNat) (sc.2 (x + 2).toNat) = some (r, s1) := e1
  have e2' : X13_bring s1 76 (sc.2 (x + 1).toNat) (sc.2 (x + 2).toNat) = some (r, s2) := e2
  refine ⟨s2, fun rk => ?_, h2, h3, h4, h5⟩
  simp [L_law_b1290, L_law_b2315, tF, isK, shF hS, shF h1, hX, e1', e2', cmp_self]
theorem g_bringFrom (H : ∀ (s : St) (a : Int), INV s → STP s (fun s => X11_bringFrom s 0 a) (fun s => X13_bringFrom s 76 a)) (hx : IX sc x) (h : INV s) : GO s x (fun rk => L_law_b1327 sc rk s 0 76 88 x) := by
  have hS := h.sh
  have hX := ixF hx
  obtain ⟨r, s1, s2, e1, e2, h1, h2, h3, h4, h5⟩ := H s (sc.2 (x + 1).toNat) h
  have e1' : X11_bringFrom s 0 (sc.2 (x + 1).toNat) = some (r, s1) := e1
  have e2' : X13_bringFrom s1 76 (sc.2 (x + 1).toNat) = some (r, s2) := e2
  refine ⟨s2, fun rk => ?_, h2, h3, h4, h5⟩
  simp [L_law_b1327, L_law_b2315, tF, isK, shF hS, shF h1, hX, e1', e2', cmp_self]
theorem g_steps (hx : IX sc x) (h : INV s) : GO s x (fun rk => L_law_b1352 sc rk s 0 76 88 x) := by
  have hS := h.sh
  have hX := ixF hx
  obtain ⟨r, s1, s2, e1, e2, h1, h2, h3, h4, h5⟩ := s_steps (sc.2 (x + 1).toNat) (sc.2 (x + 2).toNat) h
  have e1' : X11_steps s 0 (sc.2 (x + 1).toNat) (sc.2 (x + 2).toNat) = some (r, s1) := e1
  have e2' : X13_steps s1 76 (sc.2 (x + 1).toNat) (sc.2 (x + 2).toNat) = some (r, s2) := e2
  refine ⟨s2, fun rk => ?_, h2, h3, h4, h5⟩
  simp [L_law_b1352, L_law_b2315, tF, isK, shF hS, shF h1, hX, e1', e2', cmp_self]
theorem g_ring (hx : IX sc x) (h : INV s) : GO s x (fun rk => L_law_b1389 sc rk s 0 76 88 x) := by
  have hS := h.sh
  have hX := ixF hx
  obtain ⟨r, s1, s2, e1, e2, h1, h2, h3, h4, h5⟩ := s_ring (sc.2 (x + 1).toNat) (sc.2 (x + 2).toNat) h
  have e1' : X11_ring s 0 (sc.2 (x + 1).toNat) (sc.2 (x + 2).toNat) = some (r, s1) := e1
  have e2' : X13_ring s1 76 (sc.2 (x + 1).toNat) (sc.2 (x + 2).toNat) = some (r, s2) := e2
  refine ⟨s2, fun rk => ?_, h2, h3, h4, h5⟩
  simp [L_law_b1389, L_law_b2315, tF, isK, shF hS, shF h1, hX, e1', e2', cmp_self]
theorem g_ringAt (hx : IX sc x) (h : INV s) : GO s x (fun rk => L_law_b1426 sc rk s 0 76 88 x) := by
  have hS := h.sh
  have hX := ixF hx
  obtain ⟨r, s1, s2, e1, e2, h1, h2, h3, h4, h5⟩ := s_ringAt (sc.2 (x + 1).toNat) (sc.2 (x + 2).toNat) (sc.2 (x + 3).toNat) h
  have e1' : X11_ringAt s 0 (sc.2 (x + 1).toNat) (sc.2 (x + 2).toNat) (sc.2 (x + 3).toNat) = some (r, s1) := e1
  have e2' : X13_ringAt s1 76 (sc.2 (x + 1).toNat) (sc.2 (x + 2).toNat) (sc.2 (x + 3).toNat) = some (r, s2) := e2
  refine ⟨s2, fun rk => ?_, h2, h3, h4, h5⟩
  simp [L_law_b1426, L_law_b2315, tF, isK, shF hS, shF h1, hX, e1', e2', cmp_self]
theorem g_fits (hx : IX sc x) (h : INV s) : GO s x (fun rk => L_law_b1475 sc rk s 0 76 88 x) := by
  have hS := h.sh
  have hX := ixF hx
  obtain ⟨r, s1, s2, e1, e2, h1, h2, h3, h4, h5⟩ := s_fits h
  have e1' : X11_fits s 0 = some (r, s1) := e1
  have e2' : X13_fits s1 76 = some (r, s2) := e2
  refine ⟨s2, fun rk => ?_, h2, h3, h4, h5⟩
  simp [L_law_b1475, L_law_b2315, tF, isK, shF hS, shF h1, hX, e1', e2', cmp_self]
theorem g_fitAt (hx : IX sc x) (h : INV s) : GO s x (fun rk => L_law_b1488 sc rk s 0 76 88 x) := by
  have hS := h.sh
  have hX := ixF hx
  obtain ⟨r, s1, s2, e1, e2, h1, h2, h3, h4, h5⟩ := s_fitAt (sc.2 (x + 1).toNat) h
  have e1' : X11_fitAt s 0 (sc.2 (x + 1).toNat) = some (r, s1) := e1
  have e2' : X13_fitAt s1 76 (sc.2 (x + 1).toNat) = some (r, s2) := e2
  refine ⟨s2, fun rk => ?_, h2, h3, h4, h5⟩
  simp [L_law_b1488, L_law_b2315, tF, isK, shF hS, shF h1, hX, e1', e2', cmp_self]
theorem g_could (hx : IX sc x) (h : INV s) : GO s x (fun rk => L_law_b1513 sc rk s 0 76 88 x) := by
  have hS := h.sh
  have hX := ixF hx
  obtain ⟨r, s1, s2, e1, e2, h1, h2, h3, h4, h5⟩ := s_could h
  have e1' : X11_could s 0 = some (r, s1) := e1
  have e2' : X13_could s1 76 = some (r, s2) := e2
  refine ⟨s2, fun rk => ?_, h2, h3, h4, h5⟩
  simp [L_law_b1513, L_law_b2315, tF, isK, shF hS, shF h1, hX, e1', e2', cmp_self]
theorem g_surely (hx : IX sc x) (h : INV s) : GO s x (fun rk => L_law_b1526 sc rk s 0 76 88 x) := by
  have hS := h.sh
  have hX := ixF hx
  obtain ⟨r, s1, s2, e1, e2, h1, h2, h3, h4, h5⟩ := s_surely h
  have e1' : X11_surely s 0 = some (r, s1) := e1
  have e2' : X13_surely s1 76 = some (r, s2) := e2
  refine ⟨s2, fun rk => ?_, h2, h3, h4, h5⟩
  simp [L_law_b1526, L_law_b2315, tF, isK, shF hS, shF h1, hX, e1', e2', cmp_self]
theorem g_ask (hx : IX sc x) (h : INV s) : GO s x (fun rk => L_law_b1539 sc rk s 0 76 88 x) := by
  have hS := h.sh
  have hX := ixF hx
  obtain ⟨r, s1, s2, e1, e2, h1, h2, h3, h4, h5⟩ := s_ask h
  have e1' : X11_ask s 0 = some (r, s1) := e1
  have e2' : X13_ask s1 76 = some (r, s2) := e2
  refine ⟨s2, fun rk => ?_, h2, h3, h4, h5⟩
  simp [L_law_b1539, L_law_b2315, tF, isK, shF hS, shF h1, hX, e1', e2', cmp_self]
theorem g_askLeaves (hx : IX sc x) (h : INV s) : GO s x (fun rk => L_law_b1552 sc rk s 0 76 88 x) := by
  have hS := h.sh
  have hX := ixF hx
  obtain ⟨r, s1, s2, e1, e2, h1, h2, h3, h4, h5⟩ := s_askLeaves h
  have e1' : X11_askLeaves s 0 = some (r, s1) := e1
  have e2' : X13_askLeaves s1 76 = some (r, s2) := e2
  refine ⟨s2, fun rk => ?_, h2, h3, h4, h5⟩
  simp [L_law_b1552, L_law_b2315, tF, isK, shF hS, shF h1, hX, e1', e2', cmp_self]
theorem g_judge (hx : IX sc x) (h : INV s) : GO s x (fun rk => L_law_b1565 sc rk s 0 76 88 x) := by
  have hS := h.sh
  have hX := ixF hx
  obtain ⟨r, s1, s2, e1, e2, h1, h2, h3, h4, h5⟩ := s_judge h
  have e1' : X11_judge s 0 = some (r, s1) := e1
  have e2' : X13_judge s1 76 = some (r, s2) := e2
  refine ⟨s2, fun rk => ?_, h2, h3, h4, h5⟩
  simp [L_law_b1565, L_law_b2315, tF, isK, shF hS, shF h1, hX, e1', e2', cmp_self]
theorem g_chat (hx : IX sc x) (h : INV s) : GO s x (fun rk => L_law_b1578 sc rk s 0 76 88 x) := by
  have hS := h.sh
  have hX := ixF hx
  by_cases y2 : sc.2 (x + 2).toNat = 0 <;> by_cases y3 : sc.2 (x + 3).toNat = 0 <;> by_cases y4 : sc.2 (x + 4).toNat = 0
  · obtain ⟨r, s1, s2, e1, e2, h1, h2, h3, h4, h5⟩ := s_chat (sc.2 (x + 1).toNat) 0 0 0 h
    have e1' : X11_chat s 0 (sc.2 (x + 1).toNat) 0 0 0 = some (r, s1) := e1
    have e2' : X13_chat s1 76 (sc.2 (x + 1).toNat) 0 0 0 = some (r, s2) := e2
    refine ⟨s2, fun rk => ?_, h2, h3, h4, h5⟩
    simp [L_law_b1578, L_law_b2315, L_law_b1599, L_law_b1613, L_law_b1627, L_law_b1651, L_law_b1665, L_law_b1679, tF, isK, shF hS, shF h1, hX, e1', e2', cmp_self, y2, y3, y4]
  · obtain ⟨r, s1, s2, e1, e2, h1, h2, h3, h4, h5⟩ := s_chat (sc.2 (x + 1).toNat) 0 0 1 h
    have e1' : X11_chat s 0 (sc.2 (x + 1).toNat) 0 0 1 = some (r, s1) := e1
    have e2' : X13_chat s1 76 (sc.2 (x + 1).toNat) 0 0 1 = some (r, s2) := e2
    refine ⟨s2, fun rk => ?_, h2, h3, h4, h5⟩
    simp [L_law_b1578, L_law_b2315, L_law_b1599, L_law_b1613, L_law_b1627, L_law_b1651, L_law_b1665, L_law_b1679, tF, isK, shF hS, shF h1, hX, e1', e2', cmp_self, y2, y3, y4]
  · obtain ⟨r, s1, s2, e1, e2, h1, h2, h3, h4, h5⟩ := s_chat (sc.2 (x + 1).toNat) 0 1 0 h
    have e1' : X11_chat s 0 (sc.2 (x + 1).toNat) 0 1 0 = some (r, s1) := e1
    have e2' : X13_chat s1 76 (sc.2 (x + 1).toNat) 0 1 0 = some (r, s2) := e2
    refine ⟨s2, fun rk => ?_, h2, h3, h4, h5⟩
    simp [L_law_b1578, L_law_b2315, L_law_b1599, L_law_b1613, L_law_b1627, L_law_b1651, L_law_b1665, L_law_b1679, tF, isK, shF hS, shF h1, hX, e1', e2', cmp_self, y2, y3, y4]
  · obtain ⟨r, s1, s2, e1, e2, h1, h2, h3, h4, h5⟩ := s_chat (sc.2 (x + 1).toNat) 0 1 1 h
    have e1' : X11_chat s 0 (sc.2 (x + 1).toNat) 0 1 1 = some (r, s1) := e1
    have e2' : X13_chat s1 76 (sc.2 (x + 1).toNat) 0 1 1 = some (r, s2) := e2
    refine ⟨s2, fun rk => ?_, h2, h3, h4, h5⟩
    simp [L_law_b1578, L_law_b2315, L_law_b1599, L_law_b1613, L_law_b1627, L_law_b1651, L_law_b1665, L_law_b1679, tF, isK, shF hS, shF h1, hX, e1', e2', cmp_self, y2, y3, y4]
  · obtain ⟨r, s1, s2, e1, e2, h1, h2, h3, h4, h5⟩ := s_chat (sc.2 (x + 1).toNat) 1 0 0 h
    have e1' : X11_chat s 0 (sc.2 (x + 1).toNat) 1 0 0 = some (r, s1) := e1
    have e2' : X13_chat s1 76 (sc.2 (x + 1).toNat) 1 0 0 = some (r, s2) := e2
    refine ⟨s2, fun rk => ?_, h2, h3, h4, h5⟩
    simp [L_law_b1578, L_law_b2315, L_law_b1599, L_law_b1613, L_law_b1627, L_law_b1651, L_law_b1665, L_law_b1679, tF, isK, shF hS, shF h1, hX, e1', e2', cmp_self, y2, y3, y4]
  · obtain ⟨r, s1, s2, e1, e2, h1, h2, h3, h4, h5⟩ := s_chat (sc.2 (x + 1).toNat) 1 0 1 h
    have e1' : X11_chat s 0 (sc.2 (x + 1).toNat) 1 0 1 = some (r, s1) := e1
    have e2' : X13_chat s1 76 (sc.2 (x + 1).toNat) 1 0 1 = some (r, s2) := e2
    refine ⟨s2, fun rk => ?_, h2, h3, h4, h5⟩
    simp [L_law_b1578, L_law_b2315, L_law_b1599, L_law_b1613, L_law_b1627, L_law_b1651, L_law_b1665, L_law_b1679, tF, isK, shF hS, shF h1, hX, e1', e2', cmp_self, y2, y3, y4]
  · obtain ⟨r, s1, s2, e1, e2, h1, h2, h3, h4, h5⟩ := s_chat (sc.2 (x + 1).toNat) 1 1 0 h
    have e1' : X11_chat s 0 (sc.2 (x + 1).toNat) 1 1 0 = some (r, s1) := e1
    have e2' : X13_chat s1 76 (sc.2 (x + 1).toNat) 1 1 0 = some (r, s2) := e2
    refine ⟨s2, fun rk => ?_, h2, h3, h4, h5⟩
    simp [L_law_b1578, L_law_b2315, L_law_b1599, L_law_b1613, L_law_b1627, L_law_b1651, L_law_b1665, L_law_b1679, tF, isK, shF hS, shF h1, hX, e1', e2', cmp_self, y2, y3, y4]
  · obtain ⟨r, s1, s2, e1, e2, h1, h2, h3, h4, h5⟩ := s_chat (sc.2 (x + 1).toNat) 1 1 1 h
    have e1' : X11_chat s 0 (sc.2 (x + 1).toNat) 1 1 1 = some (r, s1) := e1
    have e2' : X13_chat s1 76 (sc.2 (x + 1).toNat) 1 1 1 = some (r, s2) := e2
    refine ⟨s2, fun rk => ?_, h2, h3, h4, h5⟩
    simp [L_law_b1578, L_law_b2315, L_law_b1599, L_law_b1613, L_law_b1627, L_law_b1651, L_law_b1665, L_law_b1679, tF, isK, shF hS, shF h1, hX, e1', e2', cmp_self, y2, y3, y4]
theorem g_rests (hx : IX sc x) (h : INV s) : GO s x (fun rk => L_law_b1687 sc rk s 0 76 88 x) := by
  have hS := h.sh
  have hX := ixF hx
  obtain ⟨r, s1, s2, e1, e2, h1, h2, h3, h4, h5⟩ := s_rests (sc.2 (x + 1).toNat) h
  have e1' : X11_rests s 0 (sc.2 (x + 1).toNat) = some (r, s1) := e1
  have e2' : X13_rests s1 76 (sc.2 (x + 1).toNat) = some (r, s2) := e2
  refine ⟨s2, fun rk => ?_, h2, h3, h4, h5⟩
  simp [L_law_b1687, L_law_b2315, tF, isK, shF hS, shF h1, hX, e1', e2', cmp_self]
theorem g_rest (hx : IX sc x) (h : INV s) : GO s x (fun rk => L_law_b1712 sc rk s 0 76 88 x) := by
  have hS := h.sh
  have hX := ixF hx
  obtain ⟨r, s1, s2, e1, e2, h1, h2, h3, h4, h5⟩ := s_rest (sc.2 (x + 1).toNat) h
  have e1' : X11_rest s 0 (sc.2 (x + 1).toNat) = some (r, s1) := e1
  have e2' : X13_rest s1 76 (sc.2 (x + 1).toNat) = some (r, s2) := e2
  refine ⟨s2, fun rk => ?_, h2, h3, h4, h5⟩
  simp [L_law_b1712, L_law_b2315, tF, isK, shF hS, shF h1, hX, e1', e2', cmp_self]
theorem g_odds (hx : IX sc x) (h : INV s) : GO s x (fun rk => L_law_b1737 sc rk s 0 76 88 x) := by
  have hS := h.sh
  have hX := ixF hx
  by_cases y3 : sc.2 (x + 3).toNat = 0
  · obtain ⟨r, s1, s2, e1, e2, h1, h2, h3, h4, h5⟩ := s_odds (sc.2 (x + 1).toNat) (sc.2 (x + 2).toNat) 0 h
    have e1' : X11_odds s 0 (sc.2 (x + 1).toNat) (sc.2 (x + 2).toNat) 0 = some (r, s1) := e1
    have e2' : X13_odds s1 76 (sc.2 (x + 1).toNat) (sc.2 (x + 2).toNat) 0 = some (r, s2) := e2
    refine ⟨s2, fun rk => ?_, h2, h3, h4, h5⟩
    simp [L_law_b1737, L_law_b2315, L_law_b1764, L_law_b1794, tF, isK, shF hS, shF h1, hX, e1', e2', cmp_self, y3]
  · obtain ⟨r, s1, s2, e1, e2, h1, h2, h3, h4, h5⟩ := s_odds (sc.2 (x + 1).toNat) (sc.2 (x + 2).toNat) 1 h
    have e1' : X11_odds s 0 (sc.2 (x + 1).toNat) (sc.2 (x + 2).toNat) 1 = some (r, s1) := e1
    have e2' : X13_odds s1 76 (sc.2 (x + 1).toNat) (sc.2 (x + 2).toNat) 1 = some (r, s2) := e2
    refine ⟨s2, fun rk => ?_, h2, h3, h4, h5⟩
    simp [L_law_b1737, L_law_b2315, L_law_b1764, L_law_b1794, tF, isK, shF hS, shF h1, hX, e1', e2', cmp_self, y3]
theorem g_most (hx : IX sc x) (h : INV s) : GO s x (fun rk => L_law_b1803 sc rk s 0 76 88 x) := by
  have hS := h.sh
  have hX := ixF hx
  by_cases y3 : sc.2 (x + 3).toNat = 0
  · obtain ⟨r, s1, s2, e1, e2, h1, h2, h3, h4, h5⟩ := s_most (sc.2 (x + 1).toNat) (sc.2 (x + 2).toNat) 0 h
    have e1' : X11_most s 0 (sc.2 (x + 1).toNat) (sc.2 (x + 2).toNat) 0 = some (r, s1) := e1
    have e2' : X13_most s1 76 (sc.2 (x + 1).toNat) (sc.2 (x + 2).toNat) 0 = some (r, s2) := e2
    refine ⟨s2, fun rk => ?_, h2, h3, h4, h5⟩
    simp [L_law_b1803, L_law_b2315, L_law_b1830, L_law_b1860, tF, isK, shF hS, shF h1, hX, e1', e2', cmp_self, y3]
  · obtain ⟨r, s1, s2, e1, e2, h1, h2, h3, h4, h5⟩ := s_most (sc.2 (x + 1).toNat) (sc.2 (x + 2).toNat) 1 h
    have e1' : X11_most s 0 (sc.2 (x + 1).toNat) (sc.2 (x + 2).toNat) 1 = some (r, s1) := e1
    have e2' : X13_most s1 76 (sc.2 (x + 1).toNat) (sc.2 (x + 2).toNat) 1 = some (r, s2) := e2
    refine ⟨s2, fun rk => ?_, h2, h3, h4, h5⟩
    simp [L_law_b1803, L_law_b2315, L_law_b1830, L_law_b1860, tF, isK, shF hS, shF h1, hX, e1', e2', cmp_self, y3]
theorem g_mean (hx : IX sc x) (h : INV s) : GO s x (fun rk => L_law_b1869 sc rk s 0 76 88 x) := by
  have hS := h.sh
  have hX := ixF hx
  by_cases y3 : sc.2 (x + 3).toNat = 0
  · obtain ⟨r, s1, s2, e1, e2, h1, h2, h3, h4, h5⟩ := s_mean (sc.2 (x + 1).toNat) (sc.2 (x + 2).toNat) 0 h
    have e1' : X11_mean s 0 (sc.2 (x + 1).toNat) (sc.2 (x + 2).toNat) 0 = some (r, s1) := e1
    have e2' : X13_mean s1 76 (sc.2 (x + 1).toNat) (sc.2 (x + 2).toNat) 0 = some (r, s2) := e2
    refine ⟨s2, fun rk => ?_, h2, h3, h4, h5⟩
    simp [L_law_b1869, L_law_b2315, L_law_b1896, L_law_b1926, tF, isK, shF hS, shF h1, hX, e1', e2', cmp_self, y3]
  · obtain ⟨r, s1, s2, e1, e2, h1, h2, h3, h4, h5⟩ := s_mean (sc.2 (x + 1).toNat) (sc.2 (x + 2).toNat) 1 h
    have e1' : X11_mean s 0 (sc.2 (x + 1).toNat) (sc.2 (x + 2).toNat) 1 = some (r, s1) := e1
    have e2' : X13_mean s1 76 (sc.2 (x + 1).toNat) (sc.2 (x + 2).toNat) 1 = some (r, s2) := e2
    refine ⟨s2, fun rk => ?_, h2, h3, h4, h5⟩
    simp [L_law_b1869, L_law_b2315, L_law_b1896, L_law_b1926, tF, isK, shF hS, shF h1, hX, e1', e2', cmp_self, y3]
theorem g_heardBy (hx : IX sc x) (h : INV s) : GO s x (fun rk => L_law_b1935 sc rk s 0 76 88 x) := by
  have hS := h.sh
  have hX := ixF hx
  obtain ⟨r, s1, s2, e1, e2, h1, h2, h3, h4, h5⟩ := s_heardBy (sc.2 (x + 1).toNat) (sc.2 (x + 2).toNat) (sc.2 (x + 3).toNat) h
  have e1' : X11_heardBy s 0 (sc.2 (x + 1).toNat) (sc.2 (x + 2).toNat) (sc.2 (x + 3).toNat) = some (r, s1) := e1
  have e2' : X13_heardBy s1 76 (sc.2 (x + 1).toNat) (sc.2 (x + 2).toNat) (sc.2 (x + 3).toNat) = some (r, s2) := e2
  refine ⟨s2, fun rk => ?_, h2, h3, h4, h5⟩
  simp [L_law_b1935, L_law_b2315, tF, isK, shF hS, shF h1, hX, e1', e2', cmp_self]
theorem g_rights (hx : IX sc x) (h : INV s) : GO s x (fun rk => L_law_b1984 sc rk s 0 76 88 x) := by
  have hS := h.sh
  have hX := ixF hx
  obtain ⟨r, s1, s2, e1, e2, h1, h2, h3, h4, h5⟩ := s_rights (sc.2 (x + 1).toNat) (sc.2 (x + 2).toNat) h
  have e1' : X11_rights s 0 (sc.2 (x + 1).toNat) (sc.2 (x + 2).toNat) = some (r, s1) := e1
  have e2' : X13_rights s1 76 (sc.2 (x + 1).toNat) (sc.2 (x + 2).toNat) = some (r, s2) := e2
  refine ⟨s2, fun rk => ?_, h2, h3, h4, h5⟩
  simp [L_law_b1984, L_law_b2315, tF, isK, shF hS, shF h1, hX, e1', e2', cmp_self]
theorem g_night (hx : IX sc x) (h : INV s) : GO s x (fun rk => L_law_b2021 sc rk s 0 76 88 x) := by
  have hS := h.sh
  have hX := ixF hx
  obtain ⟨r, s1, s2, e1, e2, h1, h2, h3, h4, h5⟩ := s_night h
  have e1' : X11_night s 0 = some (r, s1) := e1
  have e2' : X13_night s1 76 = some (r, s2) := e2
  refine ⟨s2, fun rk => ?_, h2, h3, h4, h5⟩
  simp [L_law_b2021, L_law_b2315, tF, isK, shF hS, shF h1, hX, e1', e2', cmp_self]
theorem g_move (hx : IX sc x) (h : INV s) : GO s x (fun rk => L_law_b2034 sc rk s 0 76 88 x) := by
  have hS := h.sh
  have hX := ixF hx
  obtain ⟨r, s1, s2, e1, e2, h1, h2, h3, h4, h5⟩ := s_move (sc.2 (x + 1).toNat) (sc.2 (x + 2).toNat) h
  have e1' : X11_move s 0 (sc.2 (x + 1).toNat) (sc.2 (x + 2).toNat) = some (r, s1) := e1
  have e2' : X13_move s1 76 (sc.2 (x + 1).toNat) (sc.2 (x + 2).toNat) = some (r, s2) := e2
  refine ⟨s2, fun rk => ?_, h2, h3, h4, h5⟩
  simp [L_law_b2034, L_law_b2315, tF, isK, shF hS, shF h1, hX, e1', e2', cmp_self]
theorem g_hang (hx : IX sc x) (h : INV s) : GO s x (fun rk => L_law_b2071 sc rk s 0 76 88 x) := by
  have hS := h.sh
  have hX := ixF hx
  obtain ⟨r, s1, s2, e1, e2, h1, h2, h3, h4, h5⟩ := s_hang (sc.2 (x + 1).toNat) (sc.2 (x + 2).toNat) h
  have e1' : X11_hang s 0 (sc.2 (x + 1).toNat) (sc.2 (x + 2).toNat) = some (r, s1) := e1
  have e2' : X13_hang s1 76 (sc.2 (x + 1).toNat) (sc.2 (x + 2).toNat) = some (r, s2) := e2
  refine ⟨s2, fun rk => ?_, h2, h3, h4, h5⟩
  simp [L_law_b2071, L_law_b2315, tF, isK, shF hS, shF h1, hX, e1', e2', cmp_self]
theorem g_take (hx : IX sc x) (h : INV s) : GO s x (fun rk => L_law_b2108 sc rk s 0 76 88 x) := by
  have hS := h.sh
  have hX := ixF hx
  obtain ⟨r, s1, s2, e1, e2, h1, h2, h3, h4, h5⟩ := s_take (sc.2 (x + 1).toNat) h
  have e1' : X11_take s 0 (sc.2 (x + 1).toNat) = some (r, s1) := e1
  have e2' : X13_take s1 76 (sc.2 (x + 1).toNat) = some (r, s2) := e2
  refine ⟨s2, fun rk => ?_, h2, h3, h4, h5⟩
  simp [L_law_b2108, L_law_b2315, tF, isK, shF hS, shF h1, hX, e1', e2', cmp_self]
theorem g_teach (hx : IX sc x) (h : INV s) : GO s x (fun rk => L_law_b2133 sc rk s 0 76 88 x) := by
  have hS := h.sh
  have hX := ixF hx
  obtain ⟨r, s1, s2, e1, e2, h1, h2, h3, h4, h5⟩ := s_teach (sc.2 (x + 1).toNat) (sc.2 (x + 2).toNat) h
  have e1' : X11_teach s 0 (sc.2 (x + 1).toNat) (sc.2 (x + 2).toNat) = some (r, s1) := e1
  have e2' : X13_teach s1 76 (sc.2 (x + 1).toNat) (sc.2 (x + 2).toNat) = some (r, s2) := e2
  refine ⟨s2, fun rk => ?_, h2, h3, h4, h5⟩
  simp [L_law_b2133, L_law_b2315, tF, isK, shF hS, shF h1, hX, e1', e2', cmp_self]
theorem g_undo (hx : IX sc x) (h : INV s) : GO s x (fun rk => L_law_b2170 sc rk s 0 76 88 x) := by
  have hS := h.sh
  have hX := ixF hx
  obtain ⟨r, s1, s2, e1, e2, h1, h2, h3, h4, h5⟩ := s_undo h
  have e1' : X11_undo s 0 = some (r, s1) := e1
  have e2' : X13_undo s1 76 = some (r, s2) := e2
  refine ⟨s2, fun rk => ?_, h2, h3, h4, h5⟩
  simp [L_law_b2170, L_law_b2315, tF, isK, shF hS, shF h1, hX, e1', e2', cmp_self]
theorem g_image (hx : IX sc x) (h : INV s) : GO s x (fun rk => L_law_b2183 sc rk s 0 76 88 x) := by
  have hS := h.sh
  have hX := ixF hx
  obtain ⟨r, s1, s2, e1, e2, h1, h2, h3, h4, h5⟩ := s_image h
  have e1' : X11_image s 0 = some (r, s1) := e1
  have e2' : X13_image s1 76 = some (r, s2) := e2
  refine ⟨s2, fun rk => ?_, h2, h3, h4, h5⟩
  simp [L_law_b2183, L_law_b2315, tF, isK, shF hS, shF h1, hX, e1', e2', cmp_self]
theorem g_back (hx : IX sc x) (h : INV s) : GO s x (fun rk => L_law_b2196 sc rk s 0 76 88 x) := by
  have hS := h.sh
  have hX := ixF hx
  obtain ⟨r, s1, s2, e1, e2, h1, h2, h3, h4, h5⟩ := s_back (sc.2 (x + 1).toNat) h
  have e1' : X11_back s 0 (sc.2 (x + 1).toNat) = some (r, s1) := e1
  have e2' : X13_back s1 76 (sc.2 (x + 1).toNat) = some (r, s2) := e2
  refine ⟨s2, fun rk => ?_, h2, h3, h4, h5⟩
  simp [L_law_b2196, L_law_b2315, tF, isK, shF hS, shF h1, hX, e1', e2', cmp_self]
theorem g_size (hx : IX sc x) (h : INV s) : GO s x (fun rk => L_law_b2277 sc rk s 0 76 88 x) := by
  have hS := h.sh
  have hX := ixF hx
  obtain ⟨r, s1, s2, e1, e2, h1, h2, h3, h4, h5⟩ := s_size (sc.2 (x + 1).toNat) h
  have e1' : X11_size s 0 (sc.2 (x + 1).toNat) = some (r, s1) := e1
  have e2' : X13_size s1 76 (sc.2 (x + 1).toNat) = some (r, s2) := e2
  refine ⟨s2, fun rk => ?_, h2, h3, h4, h5⟩
  simp [L_law_b2277, L_law_b2315, tF, isK, shF hS, shF h1, hX, e1', e2', cmp_self]
theorem g_trouble (hx : IX sc x) (h : INV s) : GO s x (fun rk => L_law_b2302 sc rk s 0 76 88 x) := by
  have hS := h.sh
  have hX := ixF hx
  obtain ⟨r, s1, s2, e1, e2, h1, h2, h3, h4, h5⟩ := s_trouble h
  have e1' : X11_trouble s 0 = some (r, s1) := e1
  have e2' : X13_trouble s1 76 = some (r, s2) := e2
  refine ⟨s2, fun rk => ?_, h2, h3, h4, h5⟩
  simp [L_law_b2302, L_law_b2315, tF, isK, shF hS, shF h1, hX, e1', e2', cmp_self]
theorem g_led (hx : IX sc x) (h : INV s) (hs : s.1.1 < 900000) : GO s x (fun rk => L_law_b2221 sc rk s 0 76 88 x) := by
  have hS := h.sh
  have hX := ixF hx
  obtain ⟨k, r, s1, s2, e1, e2, h1, h1', k1, k2, k3, h2, h3, h4, h5⟩ := s_led (sc.2 (x + 1).toNat) h hs
  refine ⟨s2, fun rk => ?_, h2, h3, h4, h5⟩
  rcases k2 with rfl | rfl
  · have k4 := k3 rfl
    simp [L_law_b2221, L_law_b2274, L_law_b2315, X13_thrown, tF, isK, shF hS, shF h1, shF h1', hX, e1, e2, k1, k4, cmp_self]
  · simp [L_law_b2221, L_law_b2274, L_law_b2315, X13_thrown, tF, isK, shF hS, shF h1, shF h1', hX, e1, e2, k1]
theorem g_none (hx : IX sc x) (h : INV s) : GO s x (fun rk => L_law_b2315 sc rk s 0 76 88 x) := by
  have hX := ixF hx
  refine ⟨s, fun rk => ?_, h, by omega, by omega, by omega⟩
  simp [L_law_b2315, hX]
end BLOCKS
