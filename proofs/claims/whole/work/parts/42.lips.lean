/-! fractions -/
def er (x y : Nat) (k : Nat) : Nat × Nat := fo (fun _ p => (p.2, p.1 % p.2)) (x, y) k
theorem er_s (x y k : Nat) : er x y (k + 1) = ((er x y k).2, (er x y k).1 % (er x y k).2) := rfl
theorem er_shift (x y : Nat) : ∀ k, er x y (k + 1) = er y (x % y) k
  | 0 => rfl
  | k + 1 => by rw [er_s, er_shift x y k, er_s]
theorem er_end : ∀ (L x y : Nat), y < 2 ^ L → ∃ n, n ≤ 2 * L ∧ er x y n = (Nat.gcd x y, 0) ∧ ∀ j, j < n → (er x y j).2 ≠ 0
  | 0, x, y, h => by
    have : y = 0 := by simp at h; exact h
    subst this
    exact ⟨0, Nat.le_refl _, by rw [Nat.gcd_zero_right]; rfl, fun j hj => by omega⟩
  | L + 1, x, y, h => by
    by_cases hy : y = 0
    · subst hy
      exact ⟨0, by omega, by rw [Nat.gcd_zero_right]; rfl, fun j hj => by omega⟩
    · by_cases hz : x % y = 0
      · refine ⟨1, by omega, ?_, fun j hj => ?_⟩
        · rw [er_shift, hz]
          have : Nat.gcd x y = y := Nat.gcd_eq_right (Nat.dvd_of_mod_eq_zero hz)
          show (y, 0) = _
          rw [this]
        · have : j = 0 := by omega
          subst this; exact hy
      · have hz1 : x % y < y := Nat.mod_lt _ (by omega)
        have hq : y % (x % y) < 2 ^ L := by
          have h1 : y % (x % y) < x % y := Nat.mod_lt _ (by omega)
          have h2 : x % y + y % (x % y) ≤ y := by
            have := Nat.mod_add_div y (x % y)
            have h3 : 1 ≤ y / (x % y) := Nat.div_pos (Nat.le_of_lt hz1) (by omega)
            have h4 := Nat.mul_le_mul_left (x % y) h3
            omega
          rw [Nat.pow_succ] at h
          omega
        obtain ⟨n, n1, n2, n3⟩ := er_end L (x % y) (y % (x % y)) hq
        refine ⟨n + 2, by omega, ?_, fun j hj => ?_⟩
        · rw [er_shift, er_shift, n2]
          have g1 : Nat.gcd x y = Nat.gcd y (x % y) := by rw [Nat.gcd_comm x y, Nat.gcd_rec y x, Nat.gcd_comm]
          have g2 : Nat.gcd y (x % y) = Nat.gcd (x % y) (y % (x % y)) := by rw [Nat.gcd_comm y, Nat.gcd_rec (x % y) y, Nat.gcd_comm]
          rw [g1, g2]
        · match j with
          | 0 => exact hy
          | 1 => exact hz
          | j + 2 => rw [er_shift, er_shift]; exact n3 j (by omega)
theorem cmp0 (y : Nat) : cmp3 (y : Int) 0 = 0 ↔ y = 0 := by
  unfold cmp3
  by_cases h : y = 0
  · subst h; decide
  · constructor
    · intro q
      rw [if_pos (by omega)] at q
      exact absurd q (by decide)
    · intro q; exact absurd q h
theorem tmodN (a b : Nat) : Int.tmod (a : Int) (b : Int) = ((a % b : Nat) : Int) := rfl
theorem tdivN (a b : Nat) : Int.tdiv (a : Int) (b : Int) = ((a / b : Nat) : Int) := rfl
theorem c_gcd {s : St} {x y : Nat} (h : y < 2 ^ 60) : X11_commonDivisor s x y = some (((Nat.gcd x y : Nat) : Int), s) := by
  obtain ⟨n, n1, n2, n3⟩ := er_end 60 x y h
  unfold X11_commonDivisor X11_commonDivisor_b9
  refine iter_run n FU (fun k : Nat => (s, (((er x y k).1 : Nat) : Int), (((er x y k).2 : Nat) : Int), (k : Int))) (by unfold FU; omega) (fun k hk rec => ?_) (fun rec => ?_)
  · have g1 : ¬ (130 : Int) ≤ k := by omega
    have g2 : ¬ cmp3 (((er x y k).2 : Nat) : Int) 0 = 0 := fun q => n3 k hk ((cmp0 _).mp q)
    have g3 : ¬ (er x y k).2 = 0 := n3 k hk
    have hw := wk1 (k := k) (by omega)
    simp only [X11_commonDivisor_b9_body, X11_commonDivisor_b45, tmodN, er_s]
    rw [if_neg g1, if_neg g2, grd_t (by omega), hw]
    rfl
  · simp only [X11_commonDivisor_b9_body, X11_commonDivisor_b45, n2]
    by_cases g1 : (130 : Int) ≤ n
    · rw [if_pos g1]
    · rw [if_neg g1, if_pos ((cmp0 0).mpr rfl)]
theorem m_gcd {s : St} {x y : Nat} (h : y < 2 ^ 60) : X13_common s x y = some (((Nat.gcd x y : Nat) : Int), s) := by
  obtain ⟨n, n1, n2, n3⟩ := er_end 60 x y h
  unfold X13_common X13_common_b6
  refine iter_run n FU (fun k : Nat => (s, (((er x y k).1 : Nat) : Int), (((er x y k).2 : Nat) : Int))) (by unfold FU; omega) (fun k hk rec => ?_) (fun rec => ?_)
  · have g2 : ¬ cmp3 (((er x y k).2 : Nat) : Int) 0 = 0 := fun q => n3 k hk ((cmp0 _).mp q)
    have g3 : ¬ (er x y k).2 = 0 := n3 k hk
    simp only [X13_common_b6_body, tmodN, er_s]
    rw [if_neg g2, grd_t (by omega)]
  · simp only [X13_common_b6_body, n2]
    rw [if_pos ((cmp0 0).mpr rfl)]
/-- a fraction in lowest terms -/
def frF (u l : Nat) (w : Int) : Int := if w = 0 then ((u / Nat.gcd u l : Nat) : Int) else ((l / Nat.gcd u l : Nat) : Int)
theorem w64n {a b : Nat} (h : a < 2 ^ 60) : w64 ((a / b : Nat) : Int) = ((a / b : Nat) : Int) := by
  have h2 : a / b ≤ a := Nat.div_le_self a b
  generalize a / b = c at h2
  exact w64e (by omega)
theorem c_low {s : St} {u l : Nat} {w : Int} (hu : u < 2 ^ 60) (hl : l < 2 ^ 60) (h0 : 0 < l) : X11_inLowestTerms s u l w = some (frF u l w, s) := by
  have hg : 0 < Nat.gcd u l := Nat.gcd_pos_of_pos_right u h0
  have e := c_gcd (s := s) (x := u) hl
  have g1 : 0 ≤ cmp3 ((Nat.gcd u l : Nat) : Int) 1 := by
    unfold cmp3
    split
    · decide
    · rw [if_pos (by omega)]; decide
  have g2 : ¬ ((Nat.gcd u l : Nat) : Int) = 0 := by omega
  unfold X11_inLowestTerms frF X11_inLowestTerms_b35
  rw [e, bnd_some, if_pos g1]
  by_cases h : w = 0
  · rw [if_pos h, if_pos h, grd_t g2, tdivN, w64n hu]
  · rw [if_neg h, if_neg h, grd_t g2, tdivN, w64n hl]
theorem m_frac {s : St} {u l : Nat} {w : Int} (hS : Sh s) (hu : u < 2 ^ 60) (hl : l < 2 ^ 60) (h0 : 0 < l) : X13_fraction s 76 u l w = some (frF u l w, fiM 0 s) := by
  have hg : 0 < Nat.gcd u l := Nat.gcd_pos_of_pos_right u h0
  have e := m_gcd (s := fiM 0 s) (x := u) hl
  have g2 : ¬ ((Nat.gcd u l : Nat) : Int) = 0 := by omega
  unfold X13_fraction frF X13_fraction_b16
  have hk : isK s 23 76 := by simp [isK, shF hS]
  rw [m_good hS, grd_t hk, bnd_some]
  by_cases h : w = 0
  · rw [if_pos h, if_pos h, e, bnd_some, grd_t g2, tdivN, w64n hu]
  · rw [if_neg h, if_neg h, e, bnd_some, grd_t g2, tdivN, w64n hl]
section LIPS
variable {s : St} {T : Tw} {N : Nw} {t : Int} {d : Nat} {night p : Int}
theorem m_hearer0 (hW : WM T N t s) (hd : d < tD T) (hn : 0 ≤ night ∧ night ≤ 99) : X13_hearerBy s 76 d night 0 = some (heaT T N d night, s) := by
  have hS := hW.1.1
  have hF := mF hW.1
  have t1 := hW.1.2.1.1.1
  have t2 := hW.1.2.1.1.2.1
  have c0 := hW.1.2.2.2.2.1.1
  have ob := outT_b hW.1.2.1 N d (aimT T N d) night
  have e1 := m_aim hW hd
  have e2 := m_out hW hd (aimT_b hW.2.1 hW.1.2.1 hd) hn
  have e3 := m_lis hW ob
  have ea := m_around (s := s) (x := outT T N d (aimT T N d) night) hS hF.1.1 ⟨⟨hF.1.2.2.1, hF.1.2.2.2.1⟩, hF.1.2.1⟩ ⟨by omega, by omega⟩ (by rw [c0]; omega) (by rw [c0]; omega)
  rw [c0, Int.emod_eq_of_lt ob.1 ob.2] at ea
  have w1 := w32e (x := outT T N d (aimT T N d) night) (by omega)
  unfold X13_hearerBy heaT
  simp [tF, isK, shF hS, e1, e2, w1, ea, e3]
theorem m_hearer1 (hW : WM T N t s) (hd : d < tD T) (hn : 0 ≤ night ∧ night ≤ 99) : X13_hearerBy s 76 d night 1 = some (furT T N d night, s) := by
  have hS := hW.1.1
  have hF := mF hW.1
  have t1 := hW.1.2.1.1.1
  have t2 := hW.1.2.1.1.2.1
  have c0 := hW.1.2.2.2.2.1.1
  have ob := outT_b hW.1.2.1 N d (aimT T N d) night
  have m1 := Int.emod_nonneg (outT T N d (aimT T N d) night + 1) (b := (tH T : Int)) (by omega)
  have m2 := Int.emod_lt_of_pos (outT T N d (aimT T N d) night + 1) (b := (tH T : Int)) (by omega)
  have e1 := m_aim hW hd
  have e2 := m_out hW hd (aimT_b hW.2.1 hW.1.2.1 hd) hn
  have e3 := m_lis hW ⟨m1, m2⟩
  have ea := m_around (s := s) (x := outT T N d (aimT T N d) night + 1) hS hF.1.1 ⟨⟨hF.1.2.2.1, hF.1.2.2.2.1⟩, hF.1.2.1⟩ ⟨by omega, by omega⟩ (by rw [c0]; omega) (by rw [c0]; omega)
  rw [c0] at ea
  have w1 := w32e (x := outT T N d (aimT T N d) night + 1) (by omega)
  unfold X13_hearerBy furT
  simp [tF, isK, shF hS, e1, e2, w1, ea, e3]
theorem m_chance (hW : WM T N t s) (hd : d < tD T) (hn : 0 ≤ night ∧ night ≤ 99) : X13_chance s 76 p d night = some (hunT T N d p night, s) := by
  have hS := hW.1.1
  have hF := mF hW.1
  have t3 := hW.1.2.1.1.2.2.1
  have e := m_hearer0 hW hd hn
  have e2 := m_hearer1 hW hd hn
  unfold X13_chance X13_chance_b25 X13_chance_b47 hunT
  have w1 := w32e (x := 100 - (tL T : Int)) (by omega)
  have w2 := w32e (x := (tL T : Int)) (by clear w1; omega)
  by_cases h1 : heaT T N d night = p <;> by_cases h2 : furT T N d night = p <;>
  simp [tF, isK, shF hS, hF, e, e2, h1, h2, w1, w2, show w32 0 = 0 from rfl, show w32 100 = 100 from rfl]
def hunN (T : Tw) (N : Nw) (d : Nat) (p night : Int) : Nat := (hunT T N d p night).toNat
theorem hunN_e (hT : TOK T) : hunT T N d p night = (hunN T N d p night : Int) := by
  have := hunT_b hT N d p night
  unfold hunN
  omega
theorem hunN_b (hT : TOK T) : hunN T N d p night ≤ 100 := by
  have := hunT_b hT N d p night
  unfold hunN
  omega
def sumN (f : Nat → Nat) (n : Nat) : Nat := fo (fun k a => a + f k) 0 n
theorem sumN_b {f : Nat → Nat} {c : Nat} (h : ∀ k, f k ≤ c) : ∀ n, sumN f n ≤ c * n
  | 0 => Nat.le_refl _
  | n + 1 => by
    have ih := sumN_b h n
    have := h n
    show sumN f n + f n ≤ _
    rw [Nat.mul_succ]
    omega
theorem l_mean {w : Int} (hW : WC T N s) (hn : 0 ≤ night ∧ night ≤ 99) : X11_mean_b26 FU s 0 p night w 0 0 = some (frF (sumN (fun d => hunN T N d p night) (tD T)) 100 w, s) := by
  have hS := hW.1
  have t6 := hW.2.1.1.2.2.2.2.2.1
  have c3 := hW.2.2.2.1.1.2.2.2.1
  have sb := sumN_b (f := fun d => hunN T N d p night) (c := 100) (fun k => hunN_b hW.2.1)
  unfold X11_mean_b26
  refine iter_run (tD T) FU (fun k : Nat => (s, (0 : Int), p, night, w, ((sumN (fun d => hunN T N d p night) k : Nat) : Int), (k : Int))) (fuel7 (by omega)) (fun k hk rec => ?_) (fun rec => ?_)
  · have e := hundredths_e (p := p) hW hk hn
    rw [hunN_e hW.2.1] at e
    have hg : ¬ tD T ≤ k := by omega
    have hk6 : k ≤ 6000 := by omega
    have es : sumN (fun d => hunN T N d p night) (k + 1) = sumN (fun d => hunN T N d p night) k + hunN T N k p night := rfl
    have b1 := sb k
    have b2 := hunN_b (T := T) (N := N) (d := k) (p := p) (night := night) hW.2.1
    have w1 := w64e (x := ((sumN (fun d => hunN T N d p night) k : Nat) : Int) + (hunN T N k p night : Int)) (by omega)
    have hw := wk1 hk6
    simp [X11_mean_b26_body, tF, isK, shF hS, c3, e, hg, w1, hw, es]
  · have b1 := sb (tD T)
    have e := c_low (s := s) (u := sumN (fun d => hunN T N d p night) (tD T)) (l := 100) (w := w) (by omega) (by decide) (by decide)
    simp only [X11_mean_b26_body]
    simp [tF, isK, shF hS, c3]
    exact (congrArg (fun X => bnd X _) e).trans rfl
theorem r_mean {w : Int} (hW : WM T N t s) (hn : 0 ≤ night ∧ night ≤ 99) : X13_mean_b40 FU s 76 p night w 0 0 = some (frF (sumN (fun d => hunN T N d p night) (tD T)) 100 w, fiM 0 s) := by
  have hS := hW.1.1
  have hF := mF hW.1
  have t6 := hW.1.2.1.1.2.2.2.2.2.1
  have sb := sumN_b (f := fun d => hunN T N d p night) (c := 100) (fun k => hunN_b hW.1.2.1)
  unfold X13_mean_b40
  refine iter_run (tD T) FU (fun k : Nat => (s, (76 : Int), p, night, w, ((sumN (fun d => hunN T N d p night) k : Nat) : Int), (k : Int))) (fuel7 (by omega)) (fun k hk rec => ?_) (fun rec => ?_)
  · have e := m_chance (p := p) hW hk hn
    rw [hunN_e hW.1.2.1] at e
    have hg : ¬ tD T ≤ k := by omega
    have hk6 : k ≤ 6000 := by omega
    have es : sumN (fun d => hunN T N d p night) (k + 1) = sumN (fun d => hunN T N d p night) k + hunN T N k p night := rfl
    have b1 := sb k
    have b2 := hunN_b (T := T) (N := N) (d := k) (p := p) (night := night) hW.1.2.1
    have w1 := w64e (x := ((sumN (fun d => hunN T N d p night) k : Nat) : Int) + (hunN T N k p night : Int)) (by omega)
    have hw := wk1 hk6
    simp [X13_mean_b40_body, tF, isK, shF hS, hF, e, hg, w1, hw, es]
  · have b1 := sb (tD T)
    have e := m_frac (u := sumN (fun d => hunN T N d p night) (tD T)) (l := 100) (w := w) hS (by omega) (by decide) (by decide)
    simp only [X13_mean_b40_body]
    simp [tF, isK, shF hS, hF]
    exact (congrArg (fun X => bnd X _) e).trans rfl
end LIPS
section LCALL
variable {W : Wd} {s : St}
def q_odds (W : Wd) (d n w : Int) : Int × Int := rd W (fun T => g2 ((0 ≤ d ∧ d < tD T)) ((0 ≤ n ∧ n ≤ 99))) (fun T N => frF (hunN T N d.toNat (tFo T d.toNat : Int) n) 100 w)
theorem cc_odds (h : CW W s) (d n w : Int) : X11_odds s 0 d n w = some ((q_odds W d n w).2, pI s 0 2 (q_odds W d n w).1) := by
  obtain ⟨hS, ⟨h0, h2, h3⟩, hW⟩ := h
  have eD := c_dead hS h3
  have eP := c_pers hS h2
  have eH := c_hous hS h0
  have eT := c_town hS h0
  unfold X11_odds
  rcases W with _ | ⟨T, N⟩
  · simp [tF, isK, shF hS, eD, eP, eH, eT, c_night, c_soot, c_seed, c_ref hS, q_odds, rd, g2, nD, nP, nH, gI_pI, show ¬ (0 ≤ d ∧ d < 0) by omega]
  · have hW0 := hW T N rfl
    have hW1 := hW0.tr 2 0
    have hH0 : ¬ tH T = 0 := by have := hW0.2.1.1.1; omega
    by_cases j0 : (0 ≤ d ∧ d < tD T) <;> by_cases j1 : 0 ≤ n ∧ n ≤ 99
    · obtain ⟨d, rfl, j0'⟩ := nat_of j0
      have t6 := hW0.2.1.1.2.2.2.2.2.1
      have e1 := (hW0.2.2.2.1.2.1 d j0').2
      have e2 := hundredths_e (p := (tFo T d : Int)) hW1 j0' j1
      rw [hunN_e hW0.2.1] at e2
      have b2 := hunN_b (T := T) (N := N) (d := d) (p := (tFo T d : Int)) (night := n) hW0.2.1
      have hd6 : (d : Int) < 6 := by omega
      have e5 : X11_inLowestTerms (pI s 0 2 0) ((hunN T N d (tFo T d : Int) n : Nat) : Int) 100 w = _ := c_low (l := 100) (by omega) (by decide) (by decide)
      simp [tF, isK, shF hS, eD, eP, eH, eT, c_night, c_soot, c_seed, c_ref hS, q_odds, rd, g2, nD, nP, nH, gI_pI, hH0, j0', j1, e1, e2, e5, hd6]
    all_goals (simp [tF, isK, shF hS, eD, eP, eH, eT, c_night, c_soot, c_seed, c_ref hS, q_odds, rd, g2, nD, nP, nH, gI_pI, hH0, j0, j1] <;> intros <;> omega)
def q_mean (W : Wd) (p n w : Int) : Int × Int := rd W (fun T => g2 ((0 ≤ p ∧ p < tP T)) ((0 ≤ n ∧ n ≤ 99))) (fun T N => frF (sumN (fun d => hunN T N d p n) (tD T)) 100 w)
theorem cc_mean (h : CW W s) (p n w : Int) : X11_mean s 0 p n w = some ((q_mean W p n w).2, pI s 0 2 (q_mean W p n w).1) := by
  obtain ⟨hS, ⟨h0, h2, h3⟩, hW⟩ := h
  have eD := c_dead hS h3
  have eP := c_pers hS h2
  have eH := c_hous hS h0
  have eT := c_town hS h0
  unfold X11_mean
  rcases W with _ | ⟨T, N⟩
  · simp [tF, isK, shF hS, eD, eP, eH, eT, c_night, c_soot, c_seed, c_ref hS, q_mean, rd, g2, nD, nP, nH, gI_pI, show ¬ (0 ≤ p ∧ p < 0) by omega]
  · have hW0 := hW T N rfl
    have hW1 := hW0.tr 2 0
    have hH0 : ¬ tH T = 0 := by have := hW0.2.1.1.1; omega
    by_cases j0 : (0 ≤ p ∧ p < tP T) <;> by_cases j1 : 0 ≤ n ∧ n ≤ 99
    · obtain ⟨p, rfl, j0'⟩ := nat_of j0
      simp [tF, isK, shF hS, eD, eP, eH, eT, c_night, c_soot, c_seed, c_ref hS, q_mean, rd, g2, nD, nP, nH, gI_pI, hH0, j0', j1, l_mean hW1 j1]
    all_goals (simp [tF, isK, shF hS, eD, eP, eH, eT, c_night, c_soot, c_seed, c_ref hS, q_mean, rd, g2, nD, nP, nH, gI_pI, hH0, j0, j1] <;> intros <;> omega)
theorem mm_odds (h : MWd W s) (d n w : Int) : MR s (q_odds W d n w).1 (q_odds W d n w).2 (X13_odds s 76 d n w) := by
  obtain ⟨hS, hno, hW⟩ := h
  have hS1 : Sh (pI s 76 0 0) := hS
  unfold X13_odds
  rcases W with _ | ⟨T, N⟩
  · have hn := hno rfl
    have hn1 : gR (pI s 76 0 0) 76 3 < 0 := hn
    refine MR_no ?_
    simp [tF, sRF, wkF, isK, shF hS, m_rn, m_in, m_refd hS1, m_works hS1, q_odds, rd, g2, hn, n_dead hS1 hn1, n_pers hS1 hn1, n_hous hS1 hn1]
  · obtain ⟨t, hM, hN, hx⟩ := hW T N rfl
    have hM1 := hM.tr 0 0
    have hF := mF hM
    have hX := wk_world hM hN hx 0 0
    have hSx := hX.1.1
    by_cases j0 : (0 ≤ d ∧ d < tD T) <;> by_cases j1 : 0 ≤ n ∧ n ≤ 99
    · obtain ⟨d, rfl, j0'⟩ := nat_of j0
      have t6 := hM.2.1.1.2.2.2.2.2.1
      have e1 := (hX.1.2.2.2.2.2.1 d j0').2
      have e2 := m_chance (p := (tFo T d : Int)) hX j0' j1
      rw [hunN_e hM.2.1] at e2
      have b2 := hunN_b (T := T) (N := N) (d := d) (p := (tFo T d : Int)) (night := n) hM.2.1
      have hd6 : (d : Int) < 6 := by omega
      have e5 : X13_fraction (wk (pI s 76 0 0)) 76 ((hunN T N d (tFo T d : Int) n : Nat) : Int) 100 w = _ := m_frac (l := 100) hSx (by omega) (by decide) (by decide)
      refine MR_ok ?_
      simp [tF, sRF, wkF, isK, shF hS, m_rn, m_in, m_refd hS1, m_works hS1, q_odds, rd, g2, hF.1, m_dead hM1, m_pers hM1, m_hous hM1, m_good hSx, j0', j1, hF, e1, e2, e5, hd6]
    all_goals (refine MR_no ?_; simp [tF, sRF, wkF, isK, shF hS, m_rn, m_in, m_refd hS1, m_works hS1, q_odds, rd, g2, hF.1, m_dead hM1, m_pers hM1, m_hous hM1, j0, j1] <;> intros <;> omega)
theorem mm_mean (h : MWd W s) (p n w : Int) : MR s (q_mean W p n w).1 (q_mean W p n w).2 (X13_mean s 76 p n w) := by
  obtain ⟨hS, hno, hW⟩ := h
  have hS1 : Sh (pI s 76 0 0) := hS
  unfold X13_mean
  rcases W with _ | ⟨T, N⟩
  · have hn := hno rfl
    have hn1 : gR (pI s 76 0 0) 76 3 < 0 := hn
    refine MR_no ?_
    simp [tF, sRF, wkF, isK, shF hS, m_rn, m_in, m_refd hS1, m_works hS1, q_mean, rd, g2, hn, n_dead hS1 hn1, n_pers hS1 hn1, n_hous hS1 hn1]
  · obtain ⟨t, hM, hN, hx⟩ := hW T N rfl
    have hM1 := hM.tr 0 0
    have hF := mF hM
    have hX := wk_world hM hN hx 0 0
    have hSx := hX.1.1
    by_cases j0 : (0 ≤ p ∧ p < tP T) <;> by_cases j1 : 0 ≤ n ∧ n ≤ 99
    · obtain ⟨p, rfl, j0'⟩ := nat_of j0
      refine MR_ok ?_
      simp [tF, sRF, wkF, isK, shF hS, m_rn, m_in, m_refd hS1, m_works hS1, q_mean, rd, g2, hF.1, m_dead hM1, m_pers hM1, m_hous hM1, m_good hSx, j0', j1, r_mean hX j1]
    all_goals (refine MR_no ?_; simp [tF, sRF, wkF, isK, shF hS, m_rn, m_in, m_refd hS1, m_works hS1, q_mean, rd, g2, hF.1, m_dead hM1, m_pers hM1, m_hous hM1, j0, j1] <;> intros <;> omega)
end LCALL
