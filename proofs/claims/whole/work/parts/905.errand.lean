/-! the errand's table of threes, as its constructor makes it -/
theorem th_bit : ∀ d : Nat, d < 6 → ∀ i : Nat, i < 2 ^ d → th3 (i + 2 ^ d) = th3 i + 3 ^ d := by decide +kernel
theorem shl6 : ∀ d : Nat, d < 6 → shl32 1 (d : Int) = ((2 ^ d : Nat) : Int) := by decide +kernel
theorem th_b : ∀ x : Nat, x < 64 → th3 x ≤ 364 := by decide +kernel
theorem p3 : ∀ d : Nat, d ≤ 6 → 3 ^ d ≤ 729 := by decide +kernel
def e0T (n : Nat → Nat → Int) (m : Nat) : Nat → Nat → Int := fun b k => if b = 51 ∧ k < m then (th3 k : Int) else n b k
/-- the loop's state: all but the table as it was -/
def e0L (s : St) (m : Nat) : St := (s.1, s.2.1, s.2.2.1, e0T s.2.2.2 m)
section ERRAND
variable {s : St}
theorem e0_in {d : Nat} (hk : isK s 10 50) (hr : gR s 50 0 = 51) (hk2 : isK s 1 51) (hl : ln s 51 = 64) (hd : d < 6) (rk : St → Int → Int → Int → Rs) : X0_init_b40 rk FU (e0L s (2 ^ d)) 50 ((3 ^ d : Nat) : Int) d 0 = rk (e0L s (2 ^ (d + 1))) 50 ((3 ^ (d + 1) : Nat) : Int) ((d + 1 : Nat) : Int) := by
  have p6 := pow6 (n := d) (by omega)
  have s6 := shl6 d hd
  have pp : 2 ^ (d + 1) = 2 ^ d + 2 ^ d := by rw [Nat.pow_succ]; omega
  have p7 := pow6 (n := d + 1) (by omega)
  have t3 := p3 d (by omega)
  unfold X0_init_b40
  rw [show (e0L s (2 ^ d), (50 : Int), ((3 ^ d : Nat) : Int), (d : Int), (0 : Int)) = (fun i : Nat => (e0L s (2 ^ d + i), (50 : Int), ((3 ^ d : Nat) : Int), (d : Int), (i : Int))) 0 from rfl]
  refine iter_run (2 ^ d) FU (fun i : Nat => (e0L s (2 ^ d + i), (50 : Int), ((3 ^ d : Nat) : Int), (d : Int), (i : Int))) (by clear s6; unfold FU; omega) (fun i hi rec => ?_) (fun rec => ?_)
  · have ob := or_bit d hd i hi
    rw [s6] at ob
    have tb := th_bit d hd i hi
    have t4 := th_b i (by clear s6 ob; omega)
    have gi : gI (e0L s (2 ^ d + i)) 51 i = (th3 i : Int) := by
      show (if (51 : Int).toNat = 51 ∧ i < 2 ^ d + i then (th3 i : Int) else _) = _
      rw [if_pos ⟨rfl, by clear s6 ob; have : 0 < 2 ^ d := Nat.pow_pos (by decide); omega⟩]
    have g1 : ¬ ((2 ^ d : Nat) : Int) ≤ (i : Int) := by clear s6 ob; omega
    have g2 : (i : Int) < 64 := by clear s6 ob; omega
    have g3 : (0 : Int) ≤ ((i + 2 ^ d : Nat) : Int) := by clear s6 ob; omega
    have g4 : ((i + 2 ^ d : Nat) : Int) < 64 := by clear s6 ob; omega
    have hi6 : i ≤ 6000 := by clear s6 ob; omega
    have es : pI (e0L s (2 ^ d + i)) 51 (i + 2 ^ d) ((th3 (i + 2 ^ d) : Nat) : Int) = e0L s (2 ^ d + (i + 1)) := by
      unfold pI e0L e0T
      congr 3
      funext b k
      show (if b = 51 ∧ k = i + 2 ^ d then ((th3 (i + 2 ^ d) : Nat) : Int) else if b = 51 ∧ k < 2 ^ d + i then (th3 k : Int) else s.2.2.2 b k) = if b = 51 ∧ k < 2 ^ d + (i + 1) then (th3 k : Int) else s.2.2.2 b k
      by_cases q : b = 51 ∧ k = i + 2 ^ d
      · rw [if_pos q, if_pos ⟨q.1, by clear s6 ob; omega⟩, q.2]
      · rw [if_neg q]
        by_cases z : b = 51 ∧ k < 2 ^ d + i
        · rw [if_pos z, if_pos ⟨z.1, by clear s6 ob; omega⟩]
        · rw [if_neg z, if_neg (fun w => z ⟨w.1, by have := fun e => q ⟨w.1, e⟩; clear s6 ob; omega⟩)]
    have w1 : w32 ((th3 i : Int) + ((3 ^ d : Nat) : Int)) = ((th3 (i + 2 ^ d) : Nat) : Int) := by
      rw [w32e (by clear s6 ob es; generalize 3 ^ d = y at *; omega), tb]; simp
    have hw := wk1 hi6
    have k1 : isK (e0L s (2 ^ d + i)) 10 50 := hk
    have k2 : gR (e0L s (2 ^ d + i)) 50 0 = 51 := hr
    have k3 : isK (e0L s (2 ^ d + i)) 1 51 := hk2
    have k4 : ln (e0L s (2 ^ d + i)) 51 = 64 := hl
    simp only [X0_init_b40_body]
    rw [s6, if_neg g1, grd_t k1, grd_t k1, k2, ob, k4, grd_t ⟨k3, by clear s6 ob w1 hw es; omega, g2⟩, grd_t ⟨k3, g3, g4⟩, lets_e, Int.toNat_natCast, Int.toNat_natCast, gi, w1, hw, es]
    rfl
  · have w1 : w32 (((3 ^ d : Nat) : Int) * 3) = ((3 ^ (d + 1) : Nat) : Int) := by
      rw [w32e (by clear s6; generalize 3 ^ d = y at *; omega), Nat.pow_succ]; simp
    have hw := wk1 (k := d) (by clear s6 w1; omega)
    simp only [X0_init_b40_body]
    rw [s6, if_pos (Int.le_refl _), w1, hw, ← pp]
    rfl
theorem e0_loop (hk : isK s 10 50) (hr : gR s 50 0 = 51) (hk2 : isK s 1 51) (hl : ln s 51 = 64) (h0 : e0L s 1 = s) (hn : s.1.1 = 54) : X0_init_b32 FU s 50 1 0 = some (0, pR (nw (e0L s 64) 1 4374) 50 1 54) := by
  unfold X0_init_b32
  rw [show (s, (50 : Int), (1 : Int), (0 : Int)) = (fun d : Nat => (e0L s (2 ^ d), (50 : Int), ((3 ^ d : Nat) : Int), (d : Int))) 0 by
    show _ = (e0L s 1, (50 : Int), (1 : Int), (0 : Int))
    rw [h0]]
  refine iter_run 6 FU (fun d : Nat => (e0L s (2 ^ d), (50 : Int), ((3 ^ d : Nat) : Int), (d : Int))) (by unfold FU; omega) (fun d hd rec => ?_) (fun rec => ?_)
  · have g1 : ¬ (6 : Int) ≤ (d : Int) := by omega
    simp only [X0_init_b32_body]
    rw [if_neg g1]
    exact e0_in hk hr hk2 hl hd (fun (s : St) (x0 x1 x2 : Int) => rec (s, x0, x1, x2))
  · have n1 : (e0L s (2 ^ 6)).1.1 = 54 := hn
    have k1 : isK (nw (e0L s (2 ^ 6)) 1 4374) 10 50 := by
      refine ⟨by decide, ?_⟩
      show ((if (50 : Int).toNat = s.1.1 then ((1 : Nat), (4374 : Nat)) else s.2.1 (50 : Int).toNat)).1 = 10
      rw [if_neg (by rw [hn]; decide)]
      exact hk.2
    have w1 : w32 (((3 ^ 6 : Nat) : Int) * 6) = 4374 := by decide
    simp only [X0_init_b32_body]
    rw [if_pos (by decide), w1, n1, grd_t (by decide), lets_e, show (4374 : Int).toNat = 4374 from rfl, grd_t k1, lets_e]
    rfl
end ERRAND
/-- the errand behind its constructor -/
def e0S (s : St) : St := pR (nw (e0L (pR (nw (pR (nw (pR (nw s 1 64) 50 0 51) 1 6) 50 2 52) 1 6) 50 3 53) 64) 1 4374) 50 1 54
def X0R (s : St) (a : Int) : Rs := if isK s 10 50 ∧ s.1.1 = 51 ∧ a = 50 then some (0, e0S s) else X0_init s a
theorem X0_eq (s : St) (a : Int) : X0_init s a = X0R s a := by
  unfold X0R
  by_cases h : isK s 10 50 ∧ s.1.1 = 51 ∧ a = 50
  · rw [if_pos h]
    obtain ⟨h1, h2, rfl⟩ := h
    obtain ⟨⟨c, sl⟩, sh, r, n⟩ := s
    simp only at h2
    subst h2
    have hk : (sh 50).1 = 10 := h1.2
    unfold X0_init
    have l := e0_loop (s := pR (nw (pR (nw (pR (nw ((51, sl), sh, r, n) 1 64) 50 0 51) 1 6) 50 2 52) 1 6) 50 3 53) ⟨by decide, hk⟩ rfl ⟨by decide, rfl⟩ rfl (by
      refine Prod.ext rfl (Prod.ext rfl (Prod.ext rfl ?_))
      funext b k
      show (if b = 51 ∧ k < 1 then (th3 k : Int) else _) = _
      by_cases q : b = 51 ∧ k < 1
      · rw [if_pos q]
        have k0 : k = 0 := by omega
        rw [q.1, k0]
        rfl
      · rw [if_neg q]) rfl
    have z1 : isK ((51, sl), sh, r, n) 10 50 := ⟨by decide, hk⟩
    have z2 : isK (nw ((51, sl), sh, r, n) 1 64) 10 50 := ⟨by decide, hk⟩
    have z3 : isK (nw (pR (nw ((51, sl), sh, r, n) 1 64) 50 0 51) 1 6) 10 50 := ⟨by decide, hk⟩
    have z4 : isK (nw (pR (nw (pR (nw ((51, sl), sh, r, n) 1 64) 50 0 51) 1 6) 50 2 52) 1 6) 10 50 := ⟨by decide, hk⟩
    refine (grd_t z1).trans ?_
    refine (grd_t ⟨by show 51 < 1000000; decide, by decide, by decide⟩).trans ?_
    refine (lets_e _ _).trans ?_
    refine (grd_t z2).trans ?_
    refine (lets_e _ _).trans ?_
    refine (grd_t ⟨by show 52 < 1000000; decide, by decide, by decide⟩).trans ?_
    refine (lets_e _ _).trans ?_
    refine (grd_t z3).trans ?_
    refine (lets_e _ _).trans ?_
    refine (grd_t ⟨by show 53 < 1000000; decide, by decide, by decide⟩).trans ?_
    refine (lets_e _ _).trans ?_
    refine (grd_t z4).trans ?_
    refine (lets_e _ _).trans ?_
    exact l
  · rw [if_neg h]
