/-! a text read on the class -/
def rdl (n : Nat) (b : Nat → Int) : Nat → PQ × DR → PQ × DR
  | 0, x => x
  | m + 1, x => if x.1.1 ≠ 0 ∨ tkK n b x.1.2.2.1 = 0 then x else rdl n b m (lnAny n b x.2 (qS n b (decide (tkK n b x.1.2.2.1 = 3)) x.1))
def fin6 (n : Nat) (b : Nat → Int) (x : PQ × DR) : PQ × DR := (qP n b (decide (tP (dT x.2) = 0)) 6 x.1, x.2)
def D0 : DR := (((0, 0, 0, 0, 0, 0), (fun _ => 0), (fun _ => 0), (0, (fun _ => 0), (fun _ => 0), (fun _ => 0)), (fun _ => 0), (fun _ => 0), (fun _ => 0), (fun _ => 0), (fun _ => 0)), (fun _ => 0), (fun _ => 0), (fun _ => (0, 0, 0)))
def rdA (n : Nat) (b : Nat → Int) (l : Int) : PQ × DR := fin6 n b (rdl n b n (lnAny n b D0 (0, -1, 0, l)))
theorem DOK0 : DOK D0 := by
  refine ⟨⟨fun _ => ⟨rfl, rfl, rfl, rfl⟩, fun z => absurd rfl z, by decide⟩, ⟨fun d hd => absurd hd (Nat.not_lt_zero _), fun d hd => absurd hd (Nat.not_lt_zero _), fun d hd => absurd hd (Nat.not_lt_zero _)⟩, ⟨rfl, fun d hd => absurd hd (Nat.not_lt_zero _), fun p q hd => absurd hd (Nat.not_lt_zero _), fun d hd => absurd hd (Nat.not_lt_zero _)⟩, ⟨fun d hd => absurd hd (Nat.not_lt_zero _), fun d hd => absurd hd (Nat.not_lt_zero _)⟩, fun d hd => absurd hd (Nat.not_lt_zero _), fun d hd => absurd hd (Nat.not_lt_zero _), fun d hd => absurd hd (Nat.not_lt_zero _), fun j k _ hd => absurd hd (Nat.not_lt_zero _)⟩
theorem rf154 : ∀ q ∈ rfT, ¬ (q.1 = 15 ∧ q.2.1 = 3) := by decide +kernel
theorem Sh_pR {s : St} (h : Sh s) (x : Int) : Sh (pR s 15 3 x) := by
  refine ⟨h.1, fun q hq => ?_⟩
  show (if q.1 = 15 ∧ q.2.1 = 3 then x else s.2.2.1 q.1 q.2.1) = q.2.2
  rw [if_neg (rf154 q hq)]
  exact h.2 q hq
section CREAD
variable {s s1 : St} {n : Nat} {b : Nat → Int} {q : PQ} {D : DR}
theorem c_part (h : CQ n b s q) (z : q.1 = 0) : ∃ s1, X4_takeToken s 2 (if (tkK n b q.2.2.1 : Int) = 3 then 1 else 0) = some (0, s1) ∧ Fr cT s s1 ∧ CQ n b s1 (qS n b (decide (tkK n b q.2.2.1 = 3)) q) := by
  obtain ⟨s1, e1, f1, c1⟩ := c_take (m := if (tkK n b q.2.2.1 : Int) = 3 then 1 else 0) h
  refine ⟨s1, e1, f1, ?_⟩
  rw [qS_cg (d := decide ((if (tkK n b q.2.2.1 : Int) = 3 then (1 : Int) else 0) ≠ 0)) (fun _ => ?_)]
  · exact c1
  · rw [decide_eq_decide]
    by_cases y : (tkK n b q.2.2.1 : Int) = 3
    · rw [if_pos y]; omega
    · rw [if_neg y]; omega
theorem c_fin {x : PQ × DR} (h : CQ n b s x.1) (hD : CDr s x.2) : ∃ s1, X4_read_b91 s 2 = some (if (fin6 n b x).1.1 = 0 then 1 else 0, s1) ∧ Fr cR s s1 ∧ CQ n b s1 (fin6 n b x).1 ∧ CDr s1 (fin6 n b x).2 := by
  have hS := h.1
  have k2 : isK s 14 2 := ⟨by decide, kd_2 hS⟩
  have k3 : isK s 19 3 := ⟨by decide, kd_3 hS⟩
  have k15 : isK s 18 15 := ⟨by decide, kd_15 hS⟩
  have b91 : ∀ s1 : St, CQ n b s1 (fin6 n b x).1 → X4_read_b114 s1 2 = some (if (fin6 n b x).1.1 = 0 then 1 else 0, s1) := fun s1 c1 => by
    unfold X4_read_b114 X4_read_b126
    rw [grd_t (show isK s1 14 2 from ⟨by decide, kd_2 c1.1⟩), c1.2.1.1]
    by_cases z : (fin6 n b x).1.1 = 0
    · rw [if_neg (fun w => w z), if_pos z, grd_t (by decide)]
    · rw [if_pos z, if_neg z, grd_t (by decide)]
  unfold X4_read_b91
  rw [grd_t k2, gR_2_0 hS, grd_t k3, hD.1.2.2.1]
  by_cases y : tP (dT x.2) = 0
  · rw [if_neg (by omega), grd_t k2, gR_2_3 hS, grd_t k15, grd_t k2]
    obtain ⟨s1, g1, g2, g3⟩ := c_failQ (k := 6) (x := gI s 15 1) (c := true) h rfl (by decide) (fin6 n b x).1 (by
      unfold fin6 qP
      by_cases z : x.1.1 = 0
      · have pl : gI s 15 1 = (tkP n b x.1.2.2.1 : Int) := (h.2.2 z).2.1.2.2.2.1
        rw [if_pos z, pl]
        exact if_pos ⟨z, by simp [y]⟩
      · rw [if_neg z]
        exact if_neg (fun w => z w.1))
    refine ⟨s1, ?_, cTR g2, g3, hD.fT g2⟩
    rw [g1, bnd_some, b91 s1 g3]
  · rw [if_pos (by omega)]
    have e : fin6 n b x = x := by
      unfold fin6 qP
      rw [if_neg (fun w => y (by simpa using w.2))]
    have c1 : CQ n b s (fin6 n b x).1 := by rw [e]; exact h
    refine ⟨s, b91 s c1, Fr.refl _ s, c1, ?_⟩
    rw [e]; exact hD
theorem c_rdl (h8 : n ≤ 800) : ∀ (m k fuel : Nat) (s : St) (x : PQ × DR), k + m = n → m < fuel → CQ n b s x.1 → CDr s x.2 → DOK x.2 → ∃ s1, X4_read_b32 fuel s 2 n k = some (if (fin6 n b (rdl n b m x)).1.1 = 0 then 1 else 0, s1) ∧ Fr cR s s1 ∧ CQ n b s1 (fin6 n b (rdl n b m x)).1 ∧ CDr s1 (fin6 n b (rdl n b m x)).2
  | 0, k, 0, s, x, hk, hf, h, hD, hO => absurd hf (Nat.lt_irrefl _)
  | 0, k, g + 1, s, x, hk, hf, h, hD, hO => by
    rw [X4_read_b32_1]
    unfold X4_read_b32_body
    rw [if_pos (by omega)]
    exact c_fin h hD
  | m + 1, k, 0, s, x, hk, hf, h, hD, hO => absurd hf (Nat.not_lt_zero _)
  | m + 1, k, g + 1, s, x, hk, hf, h, hD, hO => by
    have hS := h.1
    have k2 : isK s 14 2 := ⟨by decide, kd_2 hS⟩
    have k15 : isK s 18 15 := ⟨by decide, kd_15 hS⟩
    rw [X4_read_b32_1]
    unfold X4_read_b32_body
    rw [if_neg (by omega), grd_t k2, h.2.1.1]
    have er : rdl n b (m + 1) x = if x.1.1 ≠ 0 ∨ tkK n b x.1.2.2.1 = 0 then x else rdl n b m (lnAny n b x.2 (qS n b (decide (tkK n b x.1.2.2.1 = 3)) x.1)) := rfl
    by_cases z : x.1.1 = 0
    · have hk0 : gI s 15 0 = (tkK n b x.1.2.2.1 : Int) := (h.2.2 z).2.1.2.2.1
      rw [if_neg (fun w => w z), grd_t k2, gR_2_3 hS, grd_t k15, hk0]
      by_cases y : tkK n b x.1.2.2.1 = 0
      · rw [if_pos (by omega), er, if_pos (Or.inr y)]
        exact c_fin h hD
      · have er2 := er.trans (if_neg (fun w => w.elim (fun v => v z) y))
        rw [if_neg (by omega), er2]
        obtain ⟨s1, e1, f1, c1⟩ := c_part h z
        obtain ⟨s2, e2, f2, c2, d2⟩ := c_lnOpt c1 (hD.fT f1) hO (fun t => X4_read_b32 g t 2 n (w32 ((k : Int) + 1)))
        have hi := (h.2.2 z).2.1.2.1
        have hO2 := (g_lnAny (n := n) (b := b) (q := qS n b (decide (tkK n b x.1.2.2.1 = 3)) x.1) hO (fun w => by
          obtain ⟨a1, a2, a3⟩ := qS_l w
          rw [a3]; exact (tkX_ok hi).2.1)).1
        obtain ⟨s3, e3, f3, c3⟩ := c_rdl h8 m (k + 1) g s2 _ (by omega) (by omega) c2 d2 hO2
        refine ⟨s3, ?_, ((cTR f1).trans f2).trans f3, c3⟩
        have hw := wk1 (k := k) (by omega)
        have k21 : isK s1 14 2 := ⟨by decide, kd_2 c1.1⟩
        have e4 : X4_read_b32 g s2 2 n (w32 ((k : Int) + 1)) = some (if (fin6 n b (rdl n b m (lnAny n b x.2 (qS n b (decide (tkK n b x.1.2.2.1 = 3)) x.1)))).1.1 = 0 then 1 else 0, s3) := by
          rw [hw]
          exact e3
        unfold X4_read_b71 X4_read_b85
        rw [grd_t k2, grd_t k15]
        by_cases y3 : (tkK n b x.1.2.2.1 : Int) = 3
        · rw [if_pos y3] at e1
          rw [if_neg (fun w => w y3), grd_t k2, e1, bnd_some, grd_t k21]
          exact e2.trans e4
        · rw [if_neg y3] at e1
          rw [if_pos y3, grd_t k2, e1, bnd_some, grd_t k21]
          exact e2.trans e4
    · rw [if_pos z, er, if_pos (Or.inl z)]
      exact c_fin h hD
theorem c_read (hS : Sh s) (h8 : n ≤ 800) (hb : ∀ j, j < n → gI s 1 j = b j) : ∃ s1, X4_read s 2 1 n = some (if (rdA n b (gI s 2 6)).1.1 = 0 then 1 else 0, s1) ∧ Fr cR (pR s 15 3 1) s1 ∧ CQ n b s1 (rdA n b (gI s 2 6)).1 ∧ CDr s1 (rdA n b (gI s 2 6)).2 := by
  have hSp := Sh_pR hS 1
  have k2 : isK s 14 2 := ⟨by decide, kd_2 hS⟩
  have k3 : isK s 19 3 := ⟨by decide, kd_3 hS⟩
  have k15 : isK s 18 15 := ⟨by decide, kd_15 hS⟩
  have kt : isK s 2 1 := ⟨by decide, kd_1 hS⟩
  have l1 : ln s 1 = 800 := ln_1 hS
  generalize hs4 : pI (pI (pI (pI (pI (pI (pI (pI s 2 1 0) 2 2 (-1)) 3 0 0) 3 1 0) 3 2 0) 3 3 0) 3 4 0) 3 5 0 = s4
  have hp : pI (pI (pI (pI (pI (pI (pI (pI (pR s 15 3 1) 2 1 0) 2 2 (-1)) 3 0 0) 3 1 0) 3 2 0) 3 3 0) 3 4 0) 3 5 0 = pR s4 15 3 1 := by rw [← hs4]; rfl
  have f4 : Fr cR (pR s 15 3 1) (pR s4 15 3 1) := by
    rw [← hp]
    exact (((((((frR (by decide)).trans (frR (by decide))).trans (frR (by decide))).trans (frR (by decide))).trans (frR (by decide))).trans (frR (by decide))).trans (frR (by decide))).trans (frR (by decide))
  have hS4 : Sh s4 := by rw [← hs4]; exact hS
  have hS4p := Sh_pR hS4 1
  have b4 : ∀ j, j < n → gI s4 1 j = b j := fun j hj => by rw [← hs4]; simp [gI_pI, hb j hj]
  have a21 : gI s4 2 1 = 0 := by rw [← hs4]; simp [gI_pI]
  have a22 : gI s4 2 2 = -1 := by rw [← hs4]; simp [gI_pI]
  have a26 : gI s4 2 6 = gI s 2 6 := by rw [← hs4]; simp [gI_pI]
  have d4 : gI s4 3 0 = 0 ∧ gI s4 3 1 = 0 ∧ gI s4 3 2 = 0 ∧ gI s4 3 3 = 0 ∧ gI s4 3 4 = 0 ∧ gI s4 3 5 = 0 := by rw [← hs4]; simp [gI_pI]
  have hc : CTx n b (pI (pI (pR s4 15 3 1) 15 4 (n : Int)) 15 5 0) := ⟨hS4p, by show (if (15 : Nat) = 15 ∧ 3 = 3 then (1 : Int) else s4.2.2.1 15 3) = 1; exact if_pos ⟨rfl, rfl⟩, by simp [gI_pI], h8, fun j hj => by
    have : gI (pR s4 15 3 1) 1 j = gI s4 1 j := rfl
    simp [gI_pI, this, b4 j hj]⟩
  obtain ⟨s5, e5, f5, c5⟩ := c_step (i := 0) hc (Nat.zero_le _) (by simp [gI_pI])
  have f5' : Fr cR (pR s4 15 3 1) s5 := ((frR (by decide)).trans (frR (by decide))).trans (f5.mono (fun a ha => by unfold cR; omega))
  have e2 : ∀ k, gI s5 2 k = gI s4 2 k := fun k => (f5.nu (by decide)).trans (by
    have : gI (pR s4 15 3 1) 2 k = gI s4 2 k := rfl
    simp [gI_pI, this])
  have e3 : ∀ k, gI s5 3 k = gI s4 3 k := fun k => (f5.nu (by decide)).trans (by
    have : gI (pR s4 15 3 1) 3 k = gI s4 3 k := rfl
    simp [gI_pI, this])
  have q5 : CQ n b s5 (0, -1, 0, gI s 2 6) := ⟨c5.1.1, ⟨(e2 1).trans a21, (e2 2).trans a22⟩, fun _ => ⟨rfl, c5, (e2 6).trans a26⟩⟩
  have D5 : CDr s5 D0 := ⟨⟨(e3 0).trans d4.1, (e3 1).trans d4.2.1, (e3 2).trans d4.2.2.1, (e3 3).trans d4.2.2.2.1, (e3 4).trans d4.2.2.2.2.1, (e3 5).trans d4.2.2.2.2.2⟩, fun d hd => absurd hd (Nat.not_lt_zero _), fun d hd => absurd hd (Nat.not_lt_zero _), fun d hd => absurd hd (Nat.not_lt_zero _), fun d hd => absurd hd (Nat.not_lt_zero _)⟩
  obtain ⟨s6, e6, f6, c6, d6⟩ := c_lnAny q5 rfl D5 DOK0
  have hO6 := (g_lnAny (n := n) (b := b) (q := (0, -1, 0, gI s 2 6)) DOK0 (fun _ => Nat.zero_le _)).1
  obtain ⟨s7, e7, f7, c7, d7⟩ := c_rdl h8 n 0 FU s6 _ (Nat.zero_add _) (by unfold FU; omega) c6 d6 hO6
  refine ⟨s7, ?_, ((f4.trans f5').trans f6).trans f7, c7, d7⟩
  have cl : X9_clear (pI (pI s 2 1 0) 2 2 (-1)) 3 = some (0, s4) := by
    unfold X9_clear
    rw [← hs4]
    simp [tF, isK, shF hS]
  have bg : X8_begin s4 15 1 n = some (0, s5) := by
    have k15' : isK s4 18 15 := ⟨by decide, kd_15 hS4⟩
    have kt' : isK (pR s4 15 3 1) 2 1 := ⟨by decide, kd_1 hS4p⟩
    unfold X8_begin
    rw [grd_t k15', lets_e, grd_t kt', ln_1 hS4p, min_e, if_neg (by omega), bnd_some]
    have k1 : isK (pR s4 15 3 1) 18 15 := ⟨by decide, kd_15 hS4p⟩
    rw [grd_t k1, lets_e, grd_t (show isK (pI (pR s4 15 3 1) 15 4 (n : Int)) 18 15 from k1), lets_e, grd_t (show isK (pI (pI (pR s4 15 3 1) 15 4 (n : Int)) 15 5 0) 18 15 from k1), e5, bnd_some]
  have kp : isK (pI (pI s 2 1 0) 2 2 (-1)) 14 2 := k2
  have rp0 : gR (pI (pI s 2 1 0) 2 2 (-1)) 2 0 = 3 := gR_2_0 hS
  unfold X4_read
  rw [grd_t k2, lets_e, grd_t (show isK (pI s 2 1 0) 14 2 from k2), lets_e, grd_t kp, rp0, grd_t (show isK (pI (pI s 2 1 0) 2 2 (-1)) 19 3 from k3), cl, bnd_some, grd_t (show isK s4 14 2 from ⟨by decide, kd_2 hS4⟩), gR_2_3 hS4, grd_t (show isK s4 18 15 from ⟨by decide, kd_15 hS4⟩), bg, bnd_some, grd_t (show isK s5 14 2 from ⟨by decide, kd_2 c5.1.1⟩), e6, bnd_some]
  exact e7
end CREAD
