/-! houses laid by the number of an order, on the reference -/
theorem nfO_le : ∀ f U n k r, nfO f U n k = some r → k ≤ r
  | 0, _, _, _, _, h => by cases h
  | f + 1, U, n, k, r, h => by
    unfold nfO at h
    split at h
    · have := nfO_le f U n (k + 1) r h; omega
    · split at h
      · cases h; exact Nat.le_refl _
      · have := nfO_le f U (n - 1) (k + 1) r h; omega
theorem fac_le : ∀ m : Nat, m < 7 → fac m ≤ 720 := by decide +kernel
theorem fac_dv : ∀ m : Nat, m < 7 → 0 < m → fac m / m = fac (m - 1) := by decide +kernel
theorem sR_pI2 (s : St) (a : Int) (f : Nat → Int) (k : Nat) (x : Int) : sR (pI s a k x) a f = sR s a f := by
  unfold pI sR
  congr 3
  funext b j
  by_cases h : b = a.toNat <;> simp [h]
section SEATS
variable {s : St} {T : Tw} {N : Nw} {t : Int}
theorem m_nf (rk : St → Int → Int → Int → Int → Int → Rs) {U p r : Nat} {x2 x4 : Int} (hS : Sh s) (hU : U < 64) (hr : r < 6) (hp : p < 6) : ∀ (f g n k : Nat), n ≤ 6 → nfO f U n k = some r → X13_seats_b95 rk (f + g) s 76 x2 U x4 p n k = rk (pI s 79 p (gI s 82 r)) 76 x2 ((U ||| 2 ^ r : Nat) : Int) x4 ((p + 1 : Nat) : Int)
  | 0, _, _, _, _, h => by cases h
  | f + 1, g, n, k, hn, h => by
    have hk := nfO_le _ _ _ _ _ h
    have bt := m_bit (s := s) (x := U) (k := k) hU (by omega)
    have tb : U.testBit k = decide (U / 2 ^ k % 2 = 1) := Nat.testBit_eq_decide_div_mod_eq
    have hw := wk1 (k := k) (by omega)
    rw [show f + 1 + g = f + g + 1 by clear hw; omega, X13_seats_b95_1]
    unfold nfO at h
    by_cases y : U / 2 ^ k % 2 = 1
    · rw [tb, if_pos (by simp [y])] at h
      have ih := m_nf rk (x2 := x2) (x4 := x4) hS hU hr hp f g n (k + 1) hn h
      have w0 : w32 ((n : Int) - 0) = (n : Int) := by rw [Int.sub_zero]; exact wk0 (by clear hw; omega)
      rw [if_pos y] at bt
      unfold X13_seats_b95_body X13_seats_b109 X13_seats_b125
      rw [bt, bnd_some, if_pos (by decide), bt, bnd_some, if_neg (by decide), w0, hw]
      exact ih
    · rw [tb, if_neg (by simp [y])] at h
      rw [if_neg y] at bt
      by_cases z : n = 0
      · rw [if_pos z] at h
        cases h
        have g0 : (n : Int) ≤ 0 := by clear hw; omega
        have gr : (r : Int) < 6 := by clear hw; omega
        have gp : (p : Int) < 19 := by clear hw; omega
        have hwp := wk1 (k := p) (by clear hw; omega)
        have p6 : 2 ^ r < 64 := Nat.pow_lt_pow_right (n := 6) (by decide) (by clear hw hwp; omega)
        have o1 : or32 (U : Int) (shl32 1 (r : Int)) = ((U ||| 2 ^ r : Nat) : Int) := by rw [shlSix r (by clear hw hwp; omega)]; exact or64 _ hU _ p6
        unfold X13_seats_b95_body
        rw [bt, bnd_some, if_neg (by decide), if_pos g0, o1, hwp]
        simp [tF, isK, shF hS, gr, gp]
      · rw [if_neg z] at h
        have ih := m_nf rk (x2 := x2) (x4 := x4) hS hU hr hp f g (n - 1) (k + 1) (by clear hw; omega) h
        have w0 : w32 ((n : Int) - 1) = ((n - 1 : Nat) : Int) := (w32e (by clear hw; omega)).trans (by clear hw; omega)
        have g0 : ¬ (n : Int) ≤ 0 := by clear hw w0; omega
        unfold X13_seats_b95_body X13_seats_b109 X13_seats_b125
        rw [bt, bnd_some, if_neg (by decide), if_neg g0, bt, bnd_some, if_pos rfl, w0, hw]
        exact ih
theorem m_seats_l : ∀ (m p fuel U o : Nat) (u : Int) (s : St), MW T t s → p + m = tP T → m < fuel → U < 2 ^ tP T → pcn U + m = tP T → o < fac m → (0 < m → u = (fac (m - 1) : Int)) →
    X13_seats_b38 fuel s 76 o U u p = some (0, sR s 79 (fun j => if p ≤ j ∧ j < tP T then gI s 82 (kp m U o (j - p)) else gI s 79 j))
  | 0, p, 0, U, o, u, s, hM, hp, hf, hU, hc, ho, hu => absurd hf (Nat.lt_irrefl _)
  | 0, p, g + 1, U, o, u, s, hM, hp, hf, hU, hc, ho, hu => by
    have hS := hM.1
    have hF := mF hM
    have e : (fun j => if p ≤ j ∧ j < tP T then gI s 82 (kp 0 U o (j - p)) else gI s 79 j) = fun j => gI s 79 j := by
      funext j; exact if_neg (by clear hF; omega)
    have gp : tP T ≤ p := by clear hF; omega
    rw [X13_seats_b38_1, e, sR_self]
    simp [X13_seats_b38_body, tF, isK, shF hS, hF, gp]
  | m + 1, p, 0, U, o, u, s, hM, hp, hf, hU, hc, ho, hu => absurd hf (Nat.not_lt_zero _)
  | m + 1, p, g + 1, U, o, u, s, hM, hp, hf, hU, hc, ho, hu => by
    have hS := hM.1
    have hF := mF hM
    have t5 := hM.2.1.1.2.2.2.2.1
    have hP : tP T < 7 := by clear hF; omega
    have eu : u = (fac m : Int) := hu (Nat.succ_pos m)
    subst eu
    have fp := fac_pos m
    have fl := fac_le m (by clear hF; omega)
    have u64 : U < 64 := Nat.lt_of_lt_of_le hU (pow6 t5)
    have hn : o / fac m < m + 1 := Nat.div_lt_of_lt_mul (by rw [Nat.mul_comm]; exact ho)
    have hmd : o % fac m < fac m := Nat.mod_lt _ fp
    obtain ⟨⟨b1, b2, b3⟩, b4, b5⟩ := nf_ok (tP T) hP U hU (o / fac m) (by clear hF; omega) (by clear hF; omega)
    have td : Int.tdiv (o : Int) (fac m : Int) = ((o / fac m : Nat) : Int) := (Int.ofNat_tdiv o (fac m)).symm
    have tm : Int.tmod (o : Int) (fac m : Int) = ((o % fac m : Nat) : Int) := (Int.ofNat_tmod o (fac m)).symm
    have w1 : w32 ((o / fac m : Nat) : Int) = ((o / fac m : Nat) : Int) := wk0 (by clear hF; omega)
    have hwp := wk1 (k := p) (by clear hF w1; omega)
    have nf0 : ¬ (fac m : Int) = 0 := by clear hF w1 hwp; omega
    have nf1 : ¬ fac m = 0 := by clear hF w1 hwp; omega
    have gp : ¬ tP T ≤ p := by clear hF w1 hwp; omega
    have gp2 : ¬ (tP T : Int) ≤ (p : Int) := by clear hF w1 hwp; omega
    have nf := fun (rk : St → Int → Int → Int → Int → Int → Rs) (x2 x4 : Int) => m_nf (s := s) (U := U) (p := p) (r := nfU U (o / fac m)) rk (x2 := x2) (x4 := x4) hS u64 (by clear hF w1 hwp; omega) (by clear hF w1 hwp; omega) 7 5993 (o / fac m) 0 (by clear hF w1 hwp; omega) b1
    have hM2 : MW T t (pI s 79 p (gI s 82 (nfU U (o / fac m)))) := hM.fr (L := fun a => a = 79) (Fr_pI rfl) (fun a ha q => by omega)
    have fin : ∀ u2 : Int, (0 < m → u2 = (fac (m - 1) : Int)) → X13_seats_b92 (X13_seats_b38 g) s 76 ((o % fac m : Nat) : Int) U u2 p ((o / fac m : Nat) : Int) = some (0, sR s 79 (fun j => if p ≤ j ∧ j < tP T then gI s 82 (kp (m + 1) U o (j - p)) else gI s 79 j)) := by
      intro u2 hu2
      have ih := m_seats_l m (p + 1) g (U ||| 2 ^ nfU U (o / fac m)) (o % fac m) u2 (pI s 79 p (gI s 82 (nfU U (o / fac m)))) hM2 (by clear hF w1 hwp; omega) (by clear hF w1 hwp; omega) b5 (by clear hF w1 hwp; omega) hmd hu2
      have hh : (fun j => if p + 1 ≤ j ∧ j < tP T then gI (pI s 79 p (gI s 82 (nfU U (o / fac m)))) 82 (kp m (U ||| 2 ^ nfU U (o / fac m)) (o % fac m) (j - (p + 1))) else gI (pI s 79 p (gI s 82 (nfU U (o / fac m)))) 79 j) = fun j => if p ≤ j ∧ j < tP T then gI s 82 (kp (m + 1) U o (j - p)) else gI s 79 j := by
        funext j
        rw [gI_pI, gI_pI]
        clear hF w1 hwp
        by_cases a : p + 1 ≤ j ∧ j < tP T
        · rw [if_pos a, if_neg (by simp), if_pos (by omega), show j - p = (j - (p + 1)) + 1 by omega]
          rfl
        · rw [if_neg a]
          by_cases b : j = p
          · rw [if_pos ⟨rfl, b⟩, if_pos (by omega), b, Nat.sub_self]
            rfl
          · rw [if_neg (fun q => b q.2), if_neg (by omega)]
      rw [sR_pI2, hh] at ih
      unfold X13_seats_b92
      exact (nf _ _ _).trans ih
    rw [X13_seats_b38_1]
    unfold X13_seats_b38_body
    rw [td, tm, w1, hwp]
    by_cases z : m = 0
    · have gz : (tP T : Int) ≤ ((p + 1 : Nat) : Int) := by clear hF w1 hwp; omega
      have gz2 : (tP T : Int) ≤ (p : Int) + 1 := by clear hF w1 hwp; omega
      have f := fin (fac m : Int) (fun q => by rw [z] at q; exact absurd q (Nat.lt_irrefl _))
      simp [tF, isK, shF hS, hF, gp, gp2, nf0, nf1, gz2]
      simpa using f
    · have gz : ¬ (tP T : Int) ≤ (p : Int) + 1 := by clear hF w1 hwp; omega
      have e1 : w32 ((tP T : Int) - 1) = (tP T : Int) - 1 := w32e (by clear hF w1 hwp; omega)
      have e2 : w32 ((tP T : Int) - 1 - (p : Int)) = (m : Int) := (w32e (by clear hF w1 hwp e1; omega)).trans (by clear hF w1 hwp e1; omega)
      have e3 : Int.tdiv (fac m : Int) (m : Int) = (fac (m - 1) : Int) := by
        rw [← fac_dv m (by clear hF w1 hwp e1 e2; omega) (by clear hF w1 hwp e1 e2; omega)]
        exact (Int.ofNat_tdiv _ _).symm
      have f1 := fac_le (m - 1) (by clear hF w1 hwp e1 e2; omega)
      have e4 : w32 (fac (m - 1) : Int) = (fac (m - 1) : Int) := wk0 (by clear hF w1 hwp e1 e2; omega)
      have f := fin (fac (m - 1) : Int) (fun q => rfl)
      simp [tF, isK, shF hS, hF, gp, gp2, nf0, nf1, gz, e1, e2, e3, e4, z]
      simpa using f
theorem m_seats {o : Nat} (hM : MW T t s) (ho : o < fac (tP T)) : X13_seats s 76 o = some (0, sR s 79 (fun j => if j < tP T then gI s 82 (kp (tP T) 0 o j) else gI s 79 j)) := by
  have hS := hM.1
  have hF := mF hM
  have t4 := hM.2.1.1.2.2.2.1
  have t5 := hM.2.1.1.2.2.2.2.1
  unfold X13_seats X13_seats_b10
  rw [show (s, (76 : Int), (o : Int), (0 : Int), (1 : Int), (2 : Int)) = (fun k : Nat => (s, (76 : Int), (o : Int), (0 : Int), ((fac (1 + k) : Nat) : Int), ((2 + k : Nat) : Int))) 0 from rfl]
  refine iter_run (tP T - 2) FU (fun k : Nat => (s, (76 : Int), (o : Int), (0 : Int), ((fac (1 + k) : Nat) : Int), ((2 + k : Nat) : Int))) (by clear hF; unfold FU; omega) (fun k hk rec => ?_) (fun rec => ?_)
  · have f1 := fac_le (1 + k) (by clear hF; omega)
    have f2 := fac_le (1 + (k + 1)) (by clear hF; omega)
    have ef : fac (1 + (k + 1)) = (2 + k) * fac (1 + k) := by
      rw [show 1 + (k + 1) = (1 + k) + 1 by clear hF; omega]
      show (1 + k + 1) * fac (1 + k) = _
      rw [show 1 + k + 1 = 2 + k by clear hF; omega]
    have em : ((fac (1 + k) : Nat) : Int) * ((2 + k : Nat) : Int) = ((fac (1 + (k + 1)) : Nat) : Int) := by
      rw [ef, Int.mul_comm]; simp
    have w1 : w32 (((fac (1 + k) : Nat) : Int) * ((2 + k : Nat) : Int)) = ((fac (1 + (k + 1)) : Nat) : Int) := by
      rw [em]; exact wk0 (by clear hF; omega)
    have w2 := wk1 (k := 2 + k) (by clear hF w1; omega)
    have g1 : ¬ (tP T : Int) ≤ ((2 + k : Nat) : Int) := by clear hF w1 w2; omega
    simp only [X13_seats_b10_body]
    rw [w1, w2]
    simp only [tF, isK, shF hS, hF]
    rw [if_neg g1]
    simp
    rfl
  · have g1 : (tP T : Int) ≤ ((2 + (tP T - 2) : Nat) : Int) := by clear hF; omega
    have e1 : fac (1 + (tP T - 2)) = fac (tP T - 1) := by
      by_cases z : tP T = 1
      · rw [z]; rfl
      · rw [show 1 + (tP T - 2) = tP T - 1 by clear hF; omega]
    have l := m_seats_l (T := T) (t := t) (tP T) 0 FU 0 o ((fac (1 + (tP T - 2)) : Nat) : Int) s hM (Nat.zero_add _) (by clear hF; unfold FU; omega) (Nat.two_pow_pos _) (by show 0 + tP T = tP T; omega) ho (fun _ => by rw [e1])
    have hh : (fun j => if 0 ≤ j ∧ j < tP T then gI s 82 (kp (tP T) 0 o (j - 0)) else gI s 79 j) = fun j => if j < tP T then gI s 82 (kp (tP T) 0 o j) else gI s 79 j := by
      funext j
      simp
    rw [hh] at l
    simp only [X13_seats_b10_body]
    simp only [tF, isK, shF hS, hF]
    rw [if_pos g1]
    simp
    simpa using l
end SEATS
