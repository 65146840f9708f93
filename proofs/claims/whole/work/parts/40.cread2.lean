/-! the class's reading calls, second group -/
def dstF (H a b : Int) : Int := if H - (b - a) % H < (b - a) % H then H - (b - a) % H else (b - a) % H
def gainF (own other soot : Int) : Int := if own = 0 then (if other = 0 then 1 else 2 - soot) else (if other = 0 then 3 else 0)
def restF (soot : Int) (k : Nat) : Bool := match k with
  | 0 => false
  | 1 => decide (soot ≤ 2)
  | 2 => decide (soot ≤ 2)
  | _ => decide (2 ≤ soot)
def itN (T : Tw) (N : Nw) (night : Int) (p : Int) (k : Nat) : Int := fo (fun _ a => nxtT T N a night) p k
def ringT (T : Tw) (N : Nw) (p night : Int) : Int := fnV (fun k => decide (itN T N night p (k + 1) = p)) (tP T) (fun k => (k : Int) + 1)
/-- after how many nights a saying comes out alike -/
def rouT (T : Tw) (N : Nw) (d : Nat) : Int := if tLaw T d = 3 then (if (2 * nSl N d) % (tH T : Int) = 0 then 1 else 2) else if tLaw T d = 2 then (match fnd (fun k => decide ((nSl N d * ((k : Int) + 1)) % (tH T : Int) = 0)) (tH T - 1) with | some k => (k : Int) + 1 | none => (tH T : Int)) else 1
section CTWO
variable {s : St} {T : Tw} {N : Nw} {d : Nat} {night aim p soot : Int}
theorem distance_e {a b : Int} (hW : WC T N s) (ha : 0 ≤ a ∧ a ≤ 100) (hb : 0 ≤ b ∧ b ≤ 100) : X9_distance s 19 a b = some (dstF (tH T) a b, s) := by
  have hS := hW.1
  have t1 := hW.2.1.1.1
  have t2 := hW.2.1.1.2.1
  have c0 := hW.2.2.2.1.1.1
  have m1 := Int.emod_nonneg (b - a) (b := (tH T : Int)) (by omega)
  have m2 := Int.emod_lt_of_pos (b - a) (b := (tH T : Int)) (by omega)
  have ea := around_e (x := b - a) hS ⟨by omega, by omega⟩ (by omega) (by omega)
  rw [c0] at ea
  have w1 := w32e (x := (tH T : Int) - (b - a) % (tH T : Int)) (by omega)
  have w2 := w32e (x := b - a) (by omega)
  unfold X9_distance dstF JM_min JM_min_b10
  simp only [w2, ea]
  by_cases h : (tH T : Int) - (b - a) % (tH T : Int) < (b - a) % (tH T : Int) <;>
  simp [tF, isK, shF hS, c0, w1, h]
theorem gain_e {a b : Int} (hs : 0 ≤ soot ∧ soot ≤ 9) : X11_gain s a b soot = some (gainF a b soot, s) := by
  have w1 := w32e (x := 2 - soot) (by omega)
  unfold X11_gain X11_gain_b25 X11_gain_b13 gainF
  by_cases h1 : a = 0 <;> by_cases h2 : b = 0 <;> simp [h1, h2, w1]
theorem and2 : and32 0 2 = 0 ∧ and32 1 2 = 0 ∧ and32 2 2 = 2 ∧ and32 3 2 = 2 ∧ and32 0 1 = 0 ∧ and32 1 1 = 1 ∧ and32 2 1 = 0 ∧ and32 3 1 = 1 := by decide +kernel
theorem isRest_e {k : Nat} (hk : k < 4) (hs : 0 ≤ soot ∧ soot ≤ 9) : X11_isRest s k soot = some (if restF soot k = true then 1 else 0, s) := by
  have e : ∀ (s : St) (a b : Int), X11_gain s a b soot = some (gainF a b soot, s) := fun s a b => gain_e hs
  have hc : k = 0 ∨ k = 1 ∨ k = 2 ∨ k = 3 := by omega
  have hq : soot = 0 ∨ soot = 1 ∨ soot = 2 ∨ soot = 3 ∨ soot = 4 ∨ soot = 5 ∨ soot = 6 ∨ soot = 7 ∨ soot = 8 ∨ soot = 9 := by omega
  rcases hq with rfl | rfl | rfl | rfl | rfl | rfl | rfl | rfl | rfl | rfl <;> rcases hc with rfl | rfl | rfl | rfl <;>
  simp [X11_isRest, X11_isRest_b25, X11_isRest_b48, X11_isRest_b60, X11_isRest_b61, X11_bishopTalks, X11_bishopTalks_b11, X11_sweepTalks, X11_sweepTalks_b11, tF, and2, e, gainF, restF]
theorem l_rests (hs : 0 ≤ soot ∧ soot ≤ 9) : X11_rests_b21 FU s soot 0 0 = some (((cnt (fun k => restF soot k) 4 : Nat) : Int), s) := by
  unfold X11_rests_b21
  refine iter_run (4) FU (fun k : Nat => (s, soot, ((cnt (fun k => restF soot k) k : Nat) : Int), (k : Int))) (by unfold FU; omega) (fun k hk rec => ?_) (fun rec => ?_)
  · have hk0 := hk
    have hg0 : ¬ (4 : Int) ≤ k := by omega
    have e := isRest_e (s := s) hk hs
    have hc := cnt_le (fun k => restF soot k) k
    have hc6 : cnt (fun k => restF soot k) k ≤ 6000 := by omega
    have hk6 : k ≤ 6000 := by omega
    have hw2 := wk1 hc6
    have hw3 := wk0 hc6
    have hw := wk1 hk6
    by_cases h : restF soot k = true
    · have hb := cnt_s1 (P := (fun k => restF soot k)) (d := k) (by simp [h])
      simp [X11_rests_b21_body, X11_rests_b37, tF, isK, tF, e, h, hb, hw, hw2, hw3, hg0]
    · have hb := cnt_s0 (P := (fun k => restF soot k)) (d := k) (by simp [h])
      simp [X11_rests_b21_body, X11_rests_b37, tF, isK, tF, e, h, hb, hw, hw2, hw3, hg0]
  · simp [X11_rests_b21_body, X11_rests_b37, tF, isK, tF]
theorem rest_v {k : Nat} (hk : k < 4) : bnd (X11_bishopTalks s k) (fun r9 s10 => if r9 = 0 then (X11_rest_b45 s10 k 0) else (X11_rest_b45 s10 k 10)) = some (10 * ((k : Int) / 2) + (k : Int) % 2, s) := by
  have hc : k = 0 ∨ k = 1 ∨ k = 2 ∨ k = 3 := by omega
  rcases hc with rfl | rfl | rfl | rfl <;>
  simp [X11_bishopTalks, X11_bishopTalks_b11, X11_sweepTalks, X11_sweepTalks_b11, X11_rest_b45, X11_rest_b57, tF, and2] <;> decide
theorem l_rest (hs : 0 ≤ soot ∧ soot ≤ 9) : X11_rest_b19 FU s soot 0 = some (fnV (fun k => restF soot k) 4 (fun k => 10 * ((k : Int) / 2) + (k : Int) % 2), s) := by
  unfold X11_rest_b19
  refine (iter_fnd (fun k : Nat => (s, soot, (k : Int))) (4) (fun k => restF soot k) (fun k => some (10 * ((k : Int) / 2) + (k : Int) % 2, s)) (some (-2, s)) FU (by unfold FU; omega) (fun k hk rec => ?_) (fun rec => ?_)).trans ?_
  · have hk0 := hk
    have hg0 : ¬ (4 : Int) ≤ k := by omega
    have e := isRest_e (s := s) hk hs
    have e2 := rest_v (s := s) hk
    have hw := wk1 (k := k) (by omega)
    by_cases h : restF soot k = true <;>
    simp [X11_rest_b19_body, tF, isK, tF, e, e2, h, hw, hg0]
  · simp [X11_rest_b19_body, tF, isK, tF]
  · unfold fnV
    split <;> simp_all
theorem ringLength_e {q : Nat} (hW : WC T N s) (hn : 0 ≤ night ∧ night ≤ 99) : X11_ringLength s 0 q night = some (ringT T N q night, s) := by
  have hS := hW.1
  have t5 := hW.2.1.1.2.2.2.2.1
  have c2 := hW.2.2.2.1.1.2.2.1
  unfold X11_ringLength X11_ringLength_b5 ringT
  rw [show (s, (0 : Int), (q : Int), night, (q : Int), (1 : Int)) = (fun k : Nat => (s, (0 : Int), (q : Int), night, itN T N night q k, (k : Int) + 1)) 0 from rfl]
  refine (iter_fnd (fun k : Nat => (s, (0 : Int), (q : Int), night, itN T N night q k, (k : Int) + 1)) (tP T) (fun k => decide (itN T N night q (k + 1) = (q : Int))) (fun k => some ((k : Int) + 1, s)) (some (-2, s)) FU (by unfold FU; omega) (fun k hk rec => ?_) (fun rec => ?_)).trans ?_
  · have hg : ¬ (tP T : Int) < (k : Int) + 1 := by omega
    have hk6 : k + 1 ≤ 6000 := by omega
    have e := nextInRing_e (p := itN T N night q k) hW hn
    have ei : itN T N night q (k + 1) = nxtT T N (itN T N night q k) night := rfl
    have hw := wk1 hk6
    rw [show ((k + 1 : Nat) : Int) = (k : Int) + 1 by simp] at hw
    by_cases h : nxtT T N (itN T N night q k) night = (q : Int) <;>
    simp [X11_ringLength_b5_body, tF, isK, shF hS, c2, e, ei, h, hw, hg]
  · have hg : (tP T : Int) < (tP T : Int) + 1 := by omega
    simp [X11_ringLength_b5_body, tF, isK, shF hS, c2, hg]
  · unfold fnV
    split <;> simp_all
theorem l_ringAt {q i : Nat} (hW : WC T N s) (hn : 0 ≤ night ∧ night ≤ 99) (hi : i ≤ 6) : X11_ringAt_b44 FU s 0 night i q 0 = some (itN T N night q i, s) := by
  have hS := hW.1
  unfold X11_ringAt_b44
  refine iter_run i FU (fun k : Nat => (s, (0 : Int), night, (i : Int), itN T N night q k, (k : Int))) (by unfold FU; omega) (fun k hk rec => ?_) (fun rec => ?_)
  · have hg : ¬ (i : Int) ≤ k := by omega
    have hk6 : k ≤ 6000 := by omega
    have e := nextInRing_e (p := itN T N night q k) hW hn
    have ei : itN T N night q (k + 1) = nxtT T N (itN T N night q k) night := rfl
    have hw := wk1 hk6
    have hg' : ¬ i ≤ k := by clear hw; omega
    simp [X11_ringAt_b44_body, tF, isK, shF hS, e, ei, hw, hg, hg']
  · simp [X11_ringAt_b44_body]
theorem ringT_b (q : Nat) (night : Int) : ringT T N q night ≤ tP T := by
  unfold ringT fnV
  cases h : fnd (fun k => decide (itN T N night q (k + 1) = (q : Int))) (tP T) with
  | none => simp
  | some k => have := (fnd_some h).1; simp; omega
theorem goRound_e {slip : Int} (hW : WC T N s) (hs : 0 ≤ slip ∧ slip ≤ 39) : X9_nightsToGoRound s 19 slip = some (match fnd (fun k => decide ((slip * ((k : Int) + 1)) % (tH T : Int) = 0)) (tH T - 1) with | some k => (k : Int) + 1 | none => (tH T : Int), s) := by
  have hS := hW.1
  have t1 := hW.2.1.1.1
  have t2 := hW.2.1.1.2.1
  have c0 := hW.2.2.2.1.1.1
  unfold X9_nightsToGoRound X9_nightsToGoRound_b2
  rw [show (s, (19 : Int), slip, (1 : Int)) = (fun k : Nat => (s, (19 : Int), slip, (k : Int) + 1)) 0 from rfl]
  refine (iter_fnd (fun k : Nat => (s, (19 : Int), slip, (k : Int) + 1)) (tH T - 1) (fun k => decide ((slip * ((k : Int) + 1)) % (tH T : Int) = 0)) (fun k => some ((k : Int) + 1, s)) (some ((tH T : Int), s)) FU (by unfold FU; omega) (fun k hk rec => ?_) (fun rec => ?_)).trans ?_
  · have hg : ¬ (tH T : Int) ≤ (k : Int) + 1 := by omega
    have hk6 : k + 1 ≤ 6000 := by omega
    have hb : 0 ≤ slip * ((k : Int) + 1) ∧ slip * ((k : Int) + 1) ≤ 1600 := by
      constructor
      · exact Int.mul_nonneg hs.1 (by omega)
      · have := Int.mul_le_mul (a := slip) (b := (k : Int) + 1) (c := 39) (d := 40) hs.2 (by omega) (by omega) (by omega); omega
    have ea := around_e (x := slip * ((k : Int) + 1)) hS ⟨by omega, by omega⟩ (by omega) (by omega)
    rw [c0] at ea
    have w2 := w32e (x := slip * ((k : Int) + 1)) (by omega)
    have hw := wk1 hk6
    rw [show ((k + 1 : Nat) : Int) = (k : Int) + 1 by simp] at hw
    by_cases h : (slip * ((k : Int) + 1)) % (tH T : Int) = 0 <;>
    simp [X9_nightsToGoRound_b2_body, tF, isK, shF hS, c0, w2, ea, h, hw, hg]
  · have hg : (tH T : Int) ≤ ((tH T - 1 : Nat) : Int) + 1 := by omega
    simp only []
    simp [X9_nightsToGoRound_b2_body, tF, isK, shF hS, c0, hg]
  · split <;> simp_all
end CTWO
section CREAD2
variable {W : Wd} {s : St}
def q_off (W : Wd) (d n : Int) : Int × Int := rd W (fun T => g2 ((0 ≤ d ∧ d < tD T)) ((0 ≤ n ∧ n ≤ 99))) (fun T N => (nHo N (heaT T N d.toNat n).toNat - outT T N d.toNat (aimT T N d.toNat) n) % (tH T : Int))
theorem cc_off (h : CW W s) (d n : Int) : X11_off s 0 d n = some ((q_off W d n).2, pI s 0 2 (q_off W d n).1) := by
  obtain ⟨hS, ⟨h0, h2, h3⟩, hW⟩ := h
  have eD := c_dead hS h3
  have eP := c_pers hS h2
  have eH := c_hous hS h0
  have eT := c_town hS h0
  unfold X11_off
  rcases W with _ | ⟨T, N⟩
  · simp [tF, isK, shF hS, eD, eP, eH, eT, c_night, c_soot, c_seed, c_ref hS, q_off, rd, g2, nD, nP, nH, gI_pI, X11_off_b70, show ¬ (0 ≤ d ∧ d < 0) by omega]
  · have hW0 := hW T N rfl
    have hW1 := hW0.tr 2 0
    have hH0 : ¬ tH T = 0 := by have := hW0.2.1.1.1; omega
    by_cases j0 : (0 ≤ d ∧ d < tD T) <;> by_cases j1 : 0 ≤ n ∧ n ≤ 99
    · obtain ⟨d, rfl, j0'⟩ := nat_of j0
      have e1 := w_lis hW1 j0' j1
      have e2 := w_land hW1 j0' j1
      obtain ⟨q, hq1, hq2⟩ := nat_of (lisT_b hW0.2.1 hW0.2.2.1 (outT T N d (aimT T N d) n))
      have hq3 : heaT T N d n = (q : Int) := hq1
      have e3 := hW0.2.2.2.2.1.1 q hq2
      have ob := outT_b hW0.2.1 N d (aimT T N d) n
      have nb := hW0.2.2.1.2.1 q hq2
      have t5 := hW0.2.1.1.2.2.2.2.1
      have t1 := hW0.2.1.1.1
      have t2 := hW0.2.1.1.2.1
      have c0 := hW0.2.2.2.1.1.1
      have eP1 := c_pers (s := pI s 0 2 0) hW1.1 hW1.2.2.2.1.1.2.2.1
      have ea := around_e (s := pI s 0 2 0) (x := nHo N q - outT T N d (aimT T N d) n) hW1.1 ⟨by omega, by omega⟩ (by rw [hW1.2.2.2.1.1.1]; omega) (by rw [hW1.2.2.2.1.1.1]; omega)
      rw [hW1.2.2.2.1.1.1] at ea
      rw [hq3] at e1
      have hq6 : (q : Int) < 6 := by omega
      have e4 := w32e (x := nHo N q - outT T N d (aimT T N d) n) (by omega)
      simp [tF, isK, shF hS, eD, eP, eH, eT, c_night, c_soot, c_seed, c_ref hS, q_off, rd, g2, nD, nP, nH, gI_pI, X11_off_b70, hH0, j0', j1, e1, e2, eP1, hq3, hq2, e3, e4, ea, hq6]
    all_goals (simp [tF, isK, shF hS, eD, eP, eH, eT, c_night, c_soot, c_seed, c_ref hS, q_off, rd, g2, nD, nP, nH, gI_pI, X11_off_b70, hH0, j0, j1] <;> intros <;> omega)
def q_dead (W : Wd) (d what : Int) : Int × Int := rd W (fun T => g2 ((0 ≤ d ∧ d < tD T) ∧ (0 ≤ what ∧ what ≤ 3)) (True)) (fun T N => if what = 0 then tLaw T d.toNat else if what = 1 then nSl N d.toNat else if what = 2 then (tFo T d.toNat : Int) else nMi N d.toNat)
theorem cc_dead (h : CW W s) (d what : Int) : X11_dead s 0 d what = some ((q_dead W d what).2, pI s 0 2 (q_dead W d what).1) := by
  obtain ⟨hS, ⟨h0, h2, h3⟩, hW⟩ := h
  have eD := c_dead hS h3
  have eP := c_pers hS h2
  have eH := c_hous hS h0
  have eT := c_town hS h0
  unfold X11_dead
  rcases W with _ | ⟨T, N⟩
  · simp [tF, isK, shF hS, eD, eP, eH, eT, c_night, c_soot, c_seed, c_ref hS, q_dead, rd, g2, nD, nP, nH, gI_pI, X11_dead_b23, X11_dead_b18, swt, show ¬ (0 ≤ d ∧ d < 0) by omega]
  · have hW0 := hW T N rfl
    have hW1 := hW0.tr 2 0
    have hH0 : ¬ tH T = 0 := by have := hW0.2.1.1.1; omega
    by_cases j0 : (0 ≤ d ∧ d < tD T) <;> by_cases j1 : (0 ≤ what ∧ what ≤ 3)
    · obtain ⟨d, rfl, j0'⟩ := nat_of j0
      have t6 := hW0.2.1.1.2.2.2.2.2.1
      obtain ⟨e1, e2⟩ := hW0.2.2.2.1.2.1 d j0'
      have e3 := hW0.2.2.2.2.1.2.1 d j0'
      have hc : what = 0 ∨ what = 1 ∨ what = 2 ∨ what = 3 := by omega
      rcases hc with rfl | rfl | rfl | rfl <;>
      simp [tF, isK, shF hS, eD, eP, eH, eT, c_night, c_soot, c_seed, c_ref hS, q_dead, rd, g2, nD, nP, nH, gI_pI, X11_dead_b23, X11_dead_b18, swt, hH0, j0', j1, e1, e2, e3, show (d : Int) < 6 by omega]
    all_goals (simp [tF, isK, shF hS, eD, eP, eH, eT, c_night, c_soot, c_seed, c_ref hS, q_dead, rd, g2, nD, nP, nH, gI_pI, X11_dead_b23, X11_dead_b18, swt, hH0, j0, j1] <;> intros <;> omega)
def q_steps (W : Wd) (a b : Int) : Int × Int := rd W (fun T => g2 ((0 ≤ a ∧ a < tH T) ∧ (0 ≤ b ∧ b < tH T)) (True)) (fun T N => dstF (tH T) a b)
theorem cc_steps (h : CW W s) (a b : Int) : X11_steps s 0 a b = some ((q_steps W a b).2, pI s 0 2 (q_steps W a b).1) := by
  obtain ⟨hS, ⟨h0, h2, h3⟩, hW⟩ := h
  have eD := c_dead hS h3
  have eP := c_pers hS h2
  have eH := c_hous hS h0
  have eT := c_town hS h0
  unfold X11_steps
  rcases W with _ | ⟨T, N⟩
  · simp [tF, isK, shF hS, eD, eP, eH, eT, c_night, c_soot, c_seed, c_ref hS, q_steps, rd, g2, nD, nP, nH, gI_pI, X11_steps_b22, X11_steps_b17, show ¬ (0 ≤ a ∧ a < 0) by omega, show ¬ (0 ≤ b ∧ b < 0) by omega]
  · have hW0 := hW T N rfl
    have hW1 := hW0.tr 2 0
    have hH0 : ¬ tH T = 0 := by have := hW0.2.1.1.1; omega
    by_cases j0 : (0 ≤ a ∧ a < tH T) <;> by_cases j1 : (0 ≤ b ∧ b < tH T)
    · obtain ⟨a, rfl, j0'⟩ := nat_of j0
      obtain ⟨b, rfl, j1'⟩ := nat_of j1
      simp [tF, isK, shF hS, eD, eP, eH, eT, c_night, c_soot, c_seed, c_ref hS, q_steps, rd, g2, nD, nP, nH, gI_pI, X11_steps_b22, X11_steps_b17, hH0, j0', j1', distance_e hW1 (a := (a : Int)) (b := (b : Int)) (by have := hW0.2.1.1.2.1; omega) (by have := hW0.2.1.1.2.1; omega)]
    all_goals (simp [tF, isK, shF hS, eD, eP, eH, eT, c_night, c_soot, c_seed, c_ref hS, q_steps, rd, g2, nD, nP, nH, gI_pI, X11_steps_b22, X11_steps_b17, hH0, j0, j1] <;> intros <;> omega)
def q_round (W : Wd) (d : Int) : Int × Int := rd W (fun T => g2 ((0 ≤ d ∧ d < tD T)) (True)) (fun T N => rouT T N d.toNat)
theorem cc_round (h : CW W s) (d : Int) : X11_round s 0 d = some ((q_round W d).2, pI s 0 2 (q_round W d).1) := by
  obtain ⟨hS, ⟨h0, h2, h3⟩, hW⟩ := h
  have eD := c_dead hS h3
  have eP := c_pers hS h2
  have eH := c_hous hS h0
  have eT := c_town hS h0
  unfold X11_round
  rcases W with _ | ⟨T, N⟩
  · simp [tF, isK, shF hS, eD, eP, eH, eT, c_night, c_soot, c_seed, c_ref hS, q_round, rd, g2, nD, nP, nH, gI_pI, X11_round_b85, X11_round_b59, show ¬ (0 ≤ d ∧ d < 0) by omega]
  · have hW0 := hW T N rfl
    have hW1 := hW0.tr 2 0
    have hH0 : ¬ tH T = 0 := by have := hW0.2.1.1.1; omega
    by_cases j0 : (0 ≤ d ∧ d < tD T)
    · obtain ⟨d, rfl, j0'⟩ := nat_of j0
      have t6 := hW0.2.1.1.2.2.2.2.2.1
      have t1 := hW0.2.1.1.1
      have t2 := hW0.2.1.1.2.1
      obtain ⟨e1, e2⟩ := hW0.2.2.2.1.2.1 d j0'
      have e3 := (hW0.2.2.2.2.1.2.1 d j0').1
      have e4 := (hW0.2.2.1.2.2.2 d j0').1
      have e5 := goRound_e hW1 e4
      have e6 := around_e (s := pI s 0 2 0) (x := 2 * nSl N d) hW1.1 ⟨by omega, by omega⟩ (by rw [hW1.2.2.2.1.1.1]; omega) (by rw [hW1.2.2.2.1.1.1]; omega)
      rw [hW1.2.2.2.1.1.1] at e6
      have hd6 : (d : Int) < 6 := by omega
      have w2 := w32e (x := 2 * nSl N d) (by omega)
      by_cases k3 : tLaw T d = 3 <;> by_cases k2 : tLaw T d = 2 <;> by_cases k1 : 2 * nSl N d % (tH T : Int) = 0 <;>
      simp [tF, isK, shF hS, eD, eP, eH, eT, c_night, c_soot, c_seed, c_ref hS, q_round, rd, g2, nD, nP, nH, gI_pI, X11_round_b85, X11_round_b59, hH0, j0', e1, e3, e5, e6, w2, hd6, rouT, k3, k2, k1]
    all_goals (simp [tF, isK, shF hS, eD, eP, eH, eT, c_night, c_soot, c_seed, c_ref hS, q_round, rd, g2, nD, nP, nH, gI_pI, X11_round_b85, X11_round_b59, hH0, j0] <;> intros <;> omega)
def q_ring (W : Wd) (p n : Int) : Int × Int := rd W (fun T => g2 ((0 ≤ p ∧ p < tP T)) ((0 ≤ n ∧ n ≤ 99))) (fun T N => ringT T N p n)
theorem cc_ring (h : CW W s) (p n : Int) : X11_ring s 0 p n = some ((q_ring W p n).2, pI s 0 2 (q_ring W p n).1) := by
  obtain ⟨hS, ⟨h0, h2, h3⟩, hW⟩ := h
  have eD := c_dead hS h3
  have eP := c_pers hS h2
  have eH := c_hous hS h0
  have eT := c_town hS h0
  unfold X11_ring
  rcases W with _ | ⟨T, N⟩
  · simp [tF, isK, shF hS, eD, eP, eH, eT, c_night, c_soot, c_seed, c_ref hS, q_ring, rd, g2, nD, nP, nH, gI_pI, show ¬ (0 ≤ p ∧ p < 0) by omega]
  · have hW0 := hW T N rfl
    have hW1 := hW0.tr 2 0
    have hH0 : ¬ tH T = 0 := by have := hW0.2.1.1.1; omega
    by_cases j0 : (0 ≤ p ∧ p < tP T) <;> by_cases j1 : 0 ≤ n ∧ n ≤ 99
    · obtain ⟨p, rfl, j0'⟩ := nat_of j0
      simp [tF, isK, shF hS, eD, eP, eH, eT, c_night, c_soot, c_seed, c_ref hS, q_ring, rd, g2, nD, nP, nH, gI_pI, hH0, j0', j1, ringLength_e hW1 j1]
    all_goals (simp [tF, isK, shF hS, eD, eP, eH, eT, c_night, c_soot, c_seed, c_ref hS, q_ring, rd, g2, nD, nP, nH, gI_pI, hH0, j0, j1] <;> intros <;> omega)
def q_rests (W : Wd) (n : Int) : Int × Int := rd W (fun T => g2 (True) ((0 ≤ n ∧ n ≤ 9))) (fun T N => ((cnt (fun k => restF n k) 4 : Nat) : Int))
theorem cc_rests (h : CW W s) (n : Int) : X11_rests s 0 n = some ((q_rests W n).2, pI s 0 2 (q_rests W n).1) := by
  obtain ⟨hS, ⟨h0, h2, h3⟩, hW⟩ := h
  have eD := c_dead hS h3
  have eP := c_pers hS h2
  have eH := c_hous hS h0
  have eT := c_town hS h0
  unfold X11_rests
  rcases W with _ | ⟨T, N⟩
  · simp [tF, isK, shF hS, eD, eP, eH, eT, c_night, c_soot, c_seed, c_ref hS, q_rests, rd, g2, nD, nP, nH, gI_pI]
  · have hW0 := hW T N rfl
    have hW1 := hW0.tr 2 0
    have hH0 : ¬ tH T = 0 := by have := hW0.2.1.1.1; omega
    by_cases j0 : 0 ≤ n ∧ n ≤ 9
    · simp [tF, isK, shF hS, eD, eP, eH, eT, c_night, c_soot, c_seed, c_ref hS, q_rests, rd, g2, nD, nP, nH, gI_pI, hH0, j0, l_rests j0]
    all_goals (simp [tF, isK, shF hS, eD, eP, eH, eT, c_night, c_soot, c_seed, c_ref hS, q_rests, rd, g2, nD, nP, nH, gI_pI, hH0, j0] <;> intros <;> omega)
def q_rest (W : Wd) (n : Int) : Int × Int := rd W (fun T => g2 (True) ((0 ≤ n ∧ n ≤ 9))) (fun T N => fnV (fun k => restF n k) 4 (fun k => 10 * ((k : Int) / 2) + (k : Int) % 2))
theorem cc_rest (h : CW W s) (n : Int) : X11_rest s 0 n = some ((q_rest W n).2, pI s 0 2 (q_rest W n).1) := by
  obtain ⟨hS, ⟨h0, h2, h3⟩, hW⟩ := h
  have eD := c_dead hS h3
  have eP := c_pers hS h2
  have eH := c_hous hS h0
  have eT := c_town hS h0
  unfold X11_rest
  rcases W with _ | ⟨T, N⟩
  · simp [tF, isK, shF hS, eD, eP, eH, eT, c_night, c_soot, c_seed, c_ref hS, q_rest, rd, g2, nD, nP, nH, gI_pI]
  · have hW0 := hW T N rfl
    have hW1 := hW0.tr 2 0
    have hH0 : ¬ tH T = 0 := by have := hW0.2.1.1.1; omega
    by_cases j0 : 0 ≤ n ∧ n ≤ 9
    · simp [tF, isK, shF hS, eD, eP, eH, eT, c_night, c_soot, c_seed, c_ref hS, q_rest, rd, g2, nD, nP, nH, gI_pI, hH0, j0, l_rest j0]
    all_goals (simp [tF, isK, shF hS, eD, eP, eH, eT, c_night, c_soot, c_seed, c_ref hS, q_rest, rd, g2, nD, nP, nH, gI_pI, hH0, j0] <;> intros <;> omega)
def q_chat (W : Wd) (n b w o : Int) : Int × Int := match W with
  | none => (1, -100)
  | some _ => if 0 ≤ n ∧ n ≤ 9 then (0, if o = 0 then gainF b w n else gainF w b n) else (2, -100)
theorem cc_chat (h : CW W s) (n b w o : Int) : X11_chat s 0 n b w o = some ((q_chat W n b w o).2, pI s 0 2 (q_chat W n b w o).1) := by
  obtain ⟨hS, ⟨h0, h2, h3⟩, hW⟩ := h
  have eT := c_town hS h0
  unfold X11_chat
  rcases W with _ | ⟨T, N⟩
  · simp [tF, isK, shF hS, eT, c_soot, c_ref hS, q_chat, nH, X11_chat_b38]
  · have hW0 := hW T N rfl
    have hH0 : ¬ tH T = 0 := by have := hW0.2.1.1.1; omega
    by_cases hn : 0 ≤ n ∧ n ≤ 9
    · by_cases ho : o = 0 <;> simp [tF, isK, shF hS, eT, c_soot, c_ref hS, q_chat, nH, X11_chat_b38, hH0, hn, ho, gain_e hn]
    · simp [tF, isK, shF hS, eT, c_soot, c_ref hS, q_chat, nH, X11_chat_b38, hH0, hn]
def q_ringAt (W : Wd) (p n i : Int) : Int × Int := match W with
  | none => (1, -1)
  | some x => if 0 ≤ p ∧ p < tP x.1 then (if 0 ≤ n ∧ n ≤ 99 then (if 0 ≤ i ∧ i < ringT x.1 x.2 p n then (0, itN x.1 x.2 n p i.toNat) else (1, -1)) else (2, -1)) else (1, -1)
theorem cc_ringAt (h : CW W s) (p n i : Int) : X11_ringAt s 0 p n i = some ((q_ringAt W p n i).2, pI s 0 2 (q_ringAt W p n i).1) := by
  obtain ⟨hS, ⟨h0, h2, h3⟩, hW⟩ := h
  have eP := c_pers hS h2
  unfold X11_ringAt
  rcases W with _ | ⟨T, N⟩
  · simp [tF, isK, shF hS, eP, c_night, c_ref hS, q_ringAt, nP, show ¬ (0 ≤ p ∧ p < 0) by omega]
  · have hW0 := hW T N rfl
    have hW1 := hW0.tr 2 0
    by_cases j0 : 0 ≤ p ∧ p < tP T <;> by_cases j1 : 0 ≤ n ∧ n ≤ 99
    · obtain ⟨p, rfl, j0'⟩ := nat_of j0
      have e1 := ringLength_e (q := p) hW1 j1
      have rb := ringT_b (T := T) (N := N) p n
      have t5 := hW0.2.1.1.2.2.2.2.1
      by_cases i0 : i < 0
      · have i1 : ¬ (0 ≤ i ∧ i < ringT T N p n) := by omega
        simp [tF, isK, shF hS, eP, c_night, c_ref hS, q_ringAt, nP, j0', j1, i0, i1, X11_ringAt_b32, X11_refuse, pI_pI]
      · by_cases i1 : i < ringT T N p n
        · have i2 : 0 ≤ i ∧ i < ringT T N p n := by omega
          obtain ⟨k, rfl⟩ : ∃ k : Nat, i = (k : Int) := ⟨i.toNat, by omega⟩
          have e2 := l_ringAt (q := p) (i := k) hW1 j1 (by omega)
          simp [tF, isK, shF hS, eP, c_night, c_ref hS, q_ringAt, nP, j0', j1, i1, e1, e2, i0]
        · have i2 : ¬ (0 ≤ i ∧ i < ringT T N p n) := by omega
          simp [tF, isK, shF hS, eP, c_night, c_ref hS, q_ringAt, nP, j0', j1, i0, i1, e1, X11_ringAt_b32, X11_refuse, pI_pI]
    all_goals simp [tF, isK, shF hS, eP, c_night, c_ref hS, q_ringAt, nP, j0, j1]
end CREAD2
