/-! reading on the class: wholes, laws, names -/
def lawV (s : St) : Int := if isWv s 9 = 0 then (if isWv s 10 = 0 then (if isWv s 11 = 0 then (if isWv s 12 = 0 then -1 else 3) else 2) else 1) else 0
/-- the sort of line that the token begins -/
def lsV (s : St) : Int := if isWv s 0 = 0 then (if isWv s 3 = 0 then (if isWv s 4 = 0 then (if isWv s 5 = 0 then (if isWv s 6 = 0 then (if isWv s 7 = 0 then -1 else 5) else 4) else 3) else 2) else 1) else 0
def lsN (n : Nat) (b : Nat → Int) (i : Nat) : Int := if wB n b 0 i = true then 0 else if wB n b 3 i = true then 1 else if wB n b 4 i = true then 2 else if wB n b 5 i = true then 3 else if wB n b 6 i = true then 4 else if wB n b 7 i = true then 5 else -1
/-- the token is a name -/
def nmC (s : St) : Int := if gI s 15 0 = 1 ∧ lsV s = -1 then 1 else 0
theorem lsN_n (n : Nat) (b : Nat → Int) (i : Nat) : lsN n b i = -1 ↔ lnB n b i = false := by
  unfold lsN lnB
  cases wB n b 0 i <;> cases wB n b 3 i <;> cases wB n b 4 i <;> cases wB n b 5 i <;> cases wB n b 6 i <;> cases wB n b 7 i <;> decide
theorem tkH_b {n : Nat} {b : Nat → Int} {i : Nat} (hi : i ≤ n) (hk : tkK n b i = 2) : tkH n b i < 1000 := by
  obtain ⟨h1, h2⟩ := tkP_ok (b := b) hi
  have hw := adv_ok (fun k => isDB (b k)) h2
  have m3 : tkN n b (tkP n b i) - tkP n b i ≤ 3 := by
    unfold tkK at hk
    by_cases y : n ≤ tkP n b i
    · rw [if_pos y] at hk; cases hk
    · rw [if_neg y] at hk
      by_cases y2 : isLB (b (tkP n b i)) = true
      · rw [if_pos y2] at hk
        split at hk <;> cases hk
      · rw [if_neg y2] at hk
        by_cases y3 : isDB (b (tkP n b i)) = true
        · rw [if_pos y3] at hk
          by_cases y4 : tkN n b (tkP n b i) - tkP n b i ≤ 3
          · exact y4
          · rw [if_neg y4] at hk; cases hk
        · rw [if_neg y3] at hk
          split at hk <;> cases hk
  have wb := wno_b (b := b) (p := tkP n b i) (tkN n b (tkP n b i) - tkP n b i) (fun k hk2 => by
    unfold tkN at hk2 m3
    exact hw.1 _ (by omega) (by omega))
  have p3 : 10 ^ (tkN n b (tkP n b i) - tkP n b i) ≤ 10 ^ 3 := Nat.pow_le_pow_right (by decide) m3
  show wno b (tkP n b i) (tkN n b (tkP n b i) - tkP n b i) < 1000
  exact Nat.lt_of_lt_of_le wb p3
section COPS2
variable {s s1 : St} {n : Nat} {b : Nat → Int} {q : PQ}
theorem c_lawTok (hS : Sh s) : X4_lawOfToken s 2 = some (lawV s, s) := by
  have k2 : isK s 14 2 := ⟨by decide, kd_2 hS⟩
  have k15 : isK s 18 15 := ⟨by decide, kd_15 hS⟩
  unfold X4_lawOfToken X4_lawOfToken_b59 lawV
  rw [grd_t k2, gR_2_3 hS, grd_t k15, c_isW hS (w := 9) (by decide), bnd_some, grd_t k2, gR_2_3 hS, grd_t k15, c_isW hS (w := 10) (by decide), bnd_some, grd_t k2, gR_2_3 hS, grd_t k15, c_isW hS (w := 11) (by decide), bnd_some, grd_t k2, gR_2_3 hS, grd_t k15, c_isW hS (w := 12) (by decide), bnd_some]
  repeat' split
  all_goals rfl
theorem c_lineS (hS : Sh s) : X4_lineSort s 2 = some (lsV s, s) := by
  have k2 : isK s 14 2 := ⟨by decide, kd_2 hS⟩
  have k15 : isK s 18 15 := ⟨by decide, kd_15 hS⟩
  unfold X4_lineSort X4_lineSort_b87 lsV
  rw [grd_t k2, gR_2_3 hS, grd_t k15, c_isW hS (w := 0) (by decide), bnd_some, grd_t k2, gR_2_3 hS, grd_t k15, c_isW hS (w := 3) (by decide), bnd_some, grd_t k2, gR_2_3 hS, grd_t k15, c_isW hS (w := 4) (by decide), bnd_some, grd_t k2, gR_2_3 hS, grd_t k15, c_isW hS (w := 5) (by decide), bnd_some, grd_t k2, gR_2_3 hS, grd_t k15, c_isW hS (w := 6) (by decide), bnd_some, grd_t k2, gR_2_3 hS, grd_t k15, c_isW hS (w := 7) (by decide), bnd_some]
  generalize isWv s 0 = v0
  generalize isWv s 3 = v3
  generalize isWv s 4 = v4
  generalize isWv s 5 = v5
  generalize isWv s 6 = v6
  generalize isWv s 7 = v7
  by_cases h0 : v0 = 0
  · by_cases h3 : v3 = 0
    · by_cases h4 : v4 = 0
      · by_cases h5 : v5 = 0
        · by_cases h6 : v6 = 0
          · by_cases h7 : v7 = 0 <;> simp [tF, h0, h3, h4, h5, h6, h7]
          · simp [tF, h0, h3, h4, h5, h6]
        · simp [tF, h0, h3, h4, h5]
      · simp [tF, h0, h3, h4]
    · simp [tF, h0, h3]
  · simp [tF, h0]
theorem lawV_l {i : Nat} (h : CTk n b s i) : lawV s = lawN n b i := by
  unfold lawV lawN
  rw [c_isWl h (w := 9) (by decide), c_isWl h (w := 10) (by decide), c_isWl h (w := 11) (by decide), c_isWl h (w := 12) (by decide)]
  cases wB n b 9 i <;> cases wB n b 10 i <;> cases wB n b 11 i <;> cases wB n b 12 i <;> rfl
theorem lsV_l {i : Nat} (h : CTk n b s i) : lsV s = lsN n b i := by
  unfold lsV lsN
  rw [c_isWl h (w := 0) (by decide), c_isWl h (w := 3) (by decide), c_isWl h (w := 4) (by decide), c_isWl h (w := 5) (by decide), c_isWl h (w := 6) (by decide), c_isWl h (w := 7) (by decide)]
  cases wB n b 0 i <;> cases wB n b 3 i <;> cases wB n b 4 i <;> cases wB n b 5 i <;> cases wB n b 6 i <;> cases wB n b 7 i <;> rfl
theorem c_takeLaw (h : CQ n b s q) : ∃ r s1, X4_takeLaw s 2 = some (r, s1) ∧ Fr cT s s1 ∧ CQ n b s1 (qS n b (decide (0 ≤ lawN n b q.2.2.1)) q) ∧ (q.1 = 0 → r = lawN n b q.2.2.1) := by
  have hS := h.1
  have k2 : isK s 14 2 := ⟨by decide, kd_2 hS⟩
  by_cases y : lawV s < 0
  · obtain ⟨s1, e1, f1, c1⟩ := c_take (m := 0) h
    refine ⟨lawV s, s1, ?_, f1, ?_, fun z => lawV_l (h.2.2 z).2.1⟩
    · unfold X4_takeLaw X4_takeLaw_b15
      rw [grd_t k2, c_lawTok hS, bnd_some, if_pos y, grd_t k2, e1, bnd_some]
    · rw [qS_cg (d := decide ((0 : Int) ≠ 0)) (fun z => ?_)]
      · exact c1
      · rw [lawV_l (h.2.2 z).2.1] at y
        rw [decide_eq_decide]; omega
  · obtain ⟨s1, e1, f1, c1⟩ := c_take (m := 1) h
    refine ⟨lawV s, s1, ?_, f1, ?_, fun z => lawV_l (h.2.2 z).2.1⟩
    · unfold X4_takeLaw X4_takeLaw_b15
      rw [grd_t k2, c_lawTok hS, bnd_some, if_neg y, grd_t k2, e1, bnd_some]
    · rw [qS_cg (d := decide ((1 : Int) ≠ 0)) (fun z => ?_)]
      · exact c1
      · rw [lawV_l (h.2.2 z).2.1] at y
        rw [decide_eq_decide]; omega
theorem c_takeWhole {lo hi : Int} (h : CQ n b s q) : ∃ r s1, X4_takeWhole s 2 lo hi = some (r, s1) ∧ Fr cT s s1 ∧ CQ n b s1 (qW n b lo hi q) ∧ (q.1 = 0 → hB n b q.2.2.1 = true → r = (tkH n b q.2.2.1 : Int)) := by
  have hS := h.1
  have k2 : isK s 14 2 := ⟨by decide, kd_2 hS⟩
  have k15 : isK s 18 15 := ⟨by decide, kd_15 hS⟩
  obtain ⟨r, hrv⟩ : ∃ r, w32 (gI s 15 2) = r := ⟨_, rfl⟩
  have hv : q.1 = 0 → hB n b q.2.2.1 = true → r = (tkH n b q.2.2.1 : Int) := fun z0 zh => by
    have e2 := (h.2.2 z0).2.1.2.2.2.2.2.2
    have ei := (h.2.2 z0).2.1.2.1
    unfold hB at zh
    simp at zh
    have hb2 := tkH_b ei zh
    rw [← hrv, e2 zh]
    exact w32e (by omega)
  have main : ∀ m : Int, (q.1 = 0 → decide (m ≠ 0) = hB n b q.2.2.1) → ∃ s1, X4_takeWhole_b26 s 2 lo hi r m 2 = some (r, s1) ∧ Fr cT s s1 ∧ CQ n b s1 (qW n b lo hi q) := by
    intro m hm
    obtain ⟨s1, e1, f1, c1⟩ := c_take (m := m) h
    rw [qS_cg (d := hB n b q.2.2.1) hm] at c1
    have hS1 := c1.1
    have k21 : isK s1 14 2 := ⟨by decide, kd_2 hS1⟩
    unfold X4_takeWhole_b26 X4_takeWhole_b48
    rw [grd_t k2, e1, bnd_some]
    unfold qW
    have live : (qS n b (hB n b q.2.2.1) q).1 = 0 → r = (tkH n b q.2.2.1 : Int) := fun z => by
      by_cases z0 : q.1 = 0
      · by_cases zh : hB n b q.2.2.1 = true
        · exact hv z0 zh
        · unfold qS at z
          rw [if_pos z0, if_neg zh] at z
          cases z
      · rw [qS_fz z0] at z; exact absurd z z0
    by_cases y : lo ≤ r ∧ r ≤ hi
    · rw [if_neg (by omega), if_pos y.2]
      refine ⟨s1, rfl, f1, ?_⟩
      rw [qF_cg (d := false) (fun z => ?_)]
      · unfold qF; rw [if_neg (fun z => by cases z.2)]; exact c1
      · rw [← live z]; simp [y]
    · have b38 : ∃ s2, X4_takeWhole_b39 s1 2 r = some (r, s2) ∧ Fr cT s s2 ∧ CQ n b s2 (qF (!decide (lo ≤ (tkH n b q.2.2.1 : Int) ∧ (tkH n b q.2.2.1 : Int) ≤ hi)) 4 (qS n b (hB n b q.2.2.1) q)) := by
        obtain ⟨s2, g1, g2, g3⟩ := c_failQ (k := 4) (x := gI s1 2 6) (c := true) c1 rfl (by decide) (qF (!decide (lo ≤ (tkH n b q.2.2.1 : Int) ∧ (tkH n b q.2.2.1 : Int) ≤ hi)) 4 (qS n b (hB n b q.2.2.1) q)) (by
          by_cases z : (qS n b (hB n b q.2.2.1) q).1 = 0
          · have e6 := (c1.2.2 z).2.2
            rw [if_pos z, e6]
            unfold qF
            rw [if_pos ⟨z, by rw [← live z]; simp; omega⟩]
          · rw [if_neg z, qF_fz z])
        refine ⟨s2, ?_, f1.trans g2, g3⟩
        unfold X4_takeWhole_b39 X4_takeWhole_b48
        rw [grd_t k21, grd_t k21, g1, bnd_some]
      obtain ⟨s2, g1, g2, g3⟩ := b38
      refine ⟨s2, ?_, g2, g3⟩
      by_cases y1 : r < lo
      · rw [if_pos y1]; exact g1
      · rw [if_neg y1, if_neg (by omega)]; exact g1
  have hk : q.1 = 0 → gI s 15 0 = (tkK n b q.2.2.1 : Int) := fun z0 => (h.2.2 z0).2.1.2.2.1
  unfold X4_takeWhole
  rw [grd_t k2, gR_2_3 hS, grd_t k15, letv_e, hrv, grd_t k2, grd_t k15]
  by_cases y : gI s 15 0 = 2
  · obtain ⟨s1, e1, f1, c1⟩ := main 1 (fun z => by
      have := hk z
      unfold hB
      rw [decide_eq_decide]; omega)
    rw [if_neg (fun z => z y)]
    exact ⟨_, s1, e1, f1, c1, hv⟩
  · obtain ⟨s1, e1, f1, c1⟩ := main 0 (fun z => by
      have := hk z
      unfold hB
      rw [decide_eq_decide]; omega)
    rw [if_pos y]
    exact ⟨_, s1, e1, f1, c1, hv⟩
theorem c_nameV (h : CQ n b s q) : q.1 = 0 → nmB n b q.2.2.1 = true → gI s 15 2 = (cv 8 (tkY n b q.2.2.1) : Int) := fun z0 zh => by
  have := (h.2.2 z0).2.1.2.2.2.2.2.1
  unfold nmB at zh
  simp at zh
  exact this zh.1
theorem c_nameTok (h : CQ n b s q) : ∃ s1, X4_takeToken s 2 (nmC s) = some (0, s1) ∧ Fr cT s s1 ∧ CQ n b s1 (qN n b q) := by
  have hm : q.1 = 0 → decide (nmC s ≠ 0) = nmB n b q.2.2.1 := fun z => by
    have e1 : gI s 15 0 = (tkK n b q.2.2.1 : Int) := (h.2.2 z).2.1.2.2.1
    have e2 : lsV s = -1 ↔ lnB n b q.2.2.1 = false := by rw [lsV_l (h.2.2 z).2.1]; exact lsN_n n b q.2.2.1
    unfold nmC nmB
    by_cases y : gI s 15 0 = 1
    · have hk1 : tkK n b q.2.2.1 = 1 := by omega
      by_cases w : lnB n b q.2.2.1 = false
      · rw [if_pos ⟨y, e2.2 w⟩, w, hk1]; decide
      · rw [if_neg (fun z => w (e2.1 z.2))]
        simp at w
        rw [w]; simp
    · have hk1 : ¬ tkK n b q.2.2.1 = 1 := by omega
      rw [if_neg (fun z => y z.1)]
      simp [hk1]
  obtain ⟨s1, e1, f1, c1⟩ := c_take (m := nmC s) h
  rw [qS_cg (d := nmB n b q.2.2.1) hm] at c1
  exact ⟨s1, e1, f1, c1⟩
theorem c_newEq (hS : Sh s) : X4_takeNewName s 2 = X4_takeNewName_b33 s 2 (gI s 15 2) (nmC s) 2 := by
  have k2 : isK s 14 2 := ⟨by decide, kd_2 hS⟩
  have k15 : isK s 18 15 := ⟨by decide, kd_15 hS⟩
  unfold X4_takeNewName X4_takeNewName_b32 nmC
  rw [grd_t k2, gR_2_3 hS, grd_t k15, grd_t k2, grd_t k15]
  by_cases y : gI s 15 0 = 1
  · rw [if_neg (fun z => z y), grd_t k2, c_lineS hS, bnd_some]
    by_cases y2 : lsV s = -1
    · rw [if_neg (fun z => z y2), if_pos ⟨y, y2⟩]
    · rw [if_pos y2, if_neg (fun z => y2 z.2)]
  · rw [if_pos y, if_neg (fun z => y z.1)]
end COPS2
