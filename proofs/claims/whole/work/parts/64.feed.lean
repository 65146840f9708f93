/-! feed; what is told -/
theorem w8w8 (x : Int) : w8 (w8 x) = w8 x := by
  have h := ok_w8 x
  unfold ok8 at h
  show Int.bmod (w8 x) 256 = w8 x
  exact Int.bmod_eq_of_le (by omega) (by omega)
section FEED
variable {s : St}
theorem put_e {n : Nat} {x : Int} (hS : Sh s) (hn : n + 4 ≤ 800) (hc : gI s 0 1 = (n : Int)) : ∃ s1, X11_putNumber s 0 x = some (0, s1) ∧ Fr (fun a => a = 0 ∨ a = 1) s s1 ∧ gI s1 0 1 = ((n + 4 : Nat) : Int) ∧ (∀ k, k ≠ 1 → gI s1 0 k = gI s 0 k) ∧ ∀ j, gI s1 1 j = if n ≤ j ∧ j < n + 4 then w8 (shr32 x (24 - 8 * ((j - n : Nat) : Int))) else gI s 1 j := by
  unfold X11_putNumber X11_putNumber_b3
  refine iter_inv (Q := fun F => ∃ s1, F = some (0, s1) ∧ Fr (fun a => a = 0 ∨ a = 1) s s1 ∧ gI s1 0 1 = ((n + 4 : Nat) : Int) ∧ (∀ k, k ≠ 1 → gI s1 0 k = gI s 0 k) ∧ ∀ j, gI s1 1 j = if n ≤ j ∧ j < n + 4 then w8 (shr32 x (24 - 8 * ((j - n : Nat) : Int))) else gI s 1 j) (fun i a => a.2 = ((0 : Int), x, 24 - 8 * (i : Int)) ∧ Fr (fun a => a = 0 ∨ a = 1) s a.1 ∧ gI a.1 0 1 = ((n + i : Nat) : Int) ∧ (∀ k, k ≠ 1 → gI a.1 0 k = gI s 0 k) ∧ ∀ j, gI a.1 1 j = if n ≤ j ∧ j < n + i then w8 (shr32 x (24 - 8 * ((j - n : Nat) : Int))) else gI s 1 j) 4 FU _ (by unfold FU; omega) ⟨rfl, Fr.refl _ _, hc, fun k _ => rfl, fun j => by rw [if_neg (by omega)]⟩ (fun i hi a ha => ?_) (fun a ha rec => ?_)
  · obtain ⟨s4, a2⟩ := a
    obtain ⟨a1, a2, a3, a4, a5⟩ := ha
    simp only at a1
    subst a1
    simp only at a2 a3 a4 a5
    have hS4 : Sh s4 := by rw [a2.sh]; exact hS
    have g1 : ¬ 24 - 8 * (i : Int) < 0 := by omega
    have g2 : ¬ (800 : Int) ≤ ((n + i : Nat) : Int) := by omega
    have g3 : (0 : Int) ≤ ((n + i : Nat) : Int) := by omega
    have g4 : ((n + i : Nat) : Int) < 800 := by omega
    refine ⟨(pI (pI s4 1 (n + i) (w8 (shr32 x (24 - 8 * (i : Int))))) 0 1 ((n + (i + 1) : Nat) : Int), (0 : Int), x, 24 - 8 * ((i + 1 : Nat) : Int)), ⟨rfl, a2.trans ((Fr_pI (by simp)).trans (Fr_pI (by simp))), ?_, fun k hk => ?_, fun j => ?_⟩, fun rec => ?_⟩
    · show gI (pI (pI s4 1 _ _) 0 1 _) 0 1 = _
      rw [gI_pI]; simp
    · show gI (pI (pI s4 1 _ _) 0 1 _) 0 k = _
      rw [gI_pI, if_neg (fun z => hk z.2), gI_pI, if_neg (by simp)]
      exact a4 k hk
    · show gI (pI (pI s4 1 _ _) 0 1 _) 1 j = _
      rw [gI_pI, if_neg (by simp), gI_pI]
      by_cases q : j = n + i
      · rw [if_pos ⟨rfl, q⟩, if_pos (by omega), show j - n = i by omega]
      · rw [if_neg (fun z => q z.2), a5 j]
        by_cases z : n ≤ j ∧ j < n + i
        · rw [if_pos z, if_pos (by omega)]
        · rw [if_neg z, if_neg (by omega)]
    · have w1 : w32 (24 - 8 * (i : Int) + -8) = 24 - 8 * ((i + 1 : Nat) : Int) := by rw [w32e (by omega)]; omega
      have hw := wk1 (k := n + i) (by clear w1; omega)
      have hw' : w32 (((n + i : Nat) : Int) + 1) = ((n + (i + 1) : Nat) : Int) := by rw [hw]; simp; omega
      simp only [X11_putNumber_b3_body, X11_putNumber_b40]
      rw [if_neg g1]
      simp only [tF, isK, shF hS4, a3, gI_pI, Int.toNat_natCast, w8w8, w1]
      rw [if_neg g2]
      simp only [show ¬ ((0 : Int).toNat = (1 : Int).toNat ∧ 1 = n + i) by simp, if_false, a3, hw']
      have g3' : (0 : Int) ≤ (n : Int) + (i : Int) := by clear w1 hw hw'; omega
      have g4' : ¬ (800 : Int) ≤ (n : Int) + (i : Int) := by clear w1 hw hw'; omega
      have g5' : (n : Int) + (i : Int) < 800 := by clear w1 hw hw'; omega
      simp [g3', g4', g5']
  · obtain ⟨s4, a2⟩ := a
    obtain ⟨a1, a2, a3, a4, a5⟩ := ha
    simp only at a1
    subst a1
    simp only at a2 a3 a4 a5
    exact ⟨s4, by simp [X11_putNumber_b3_body], a2, a3, a4, a5⟩
/-- the byte that is fed k-th of five numbers -/
def byF (a b c d e : Int) (k : Nat) : Int := w8 (shr32 (if k < 4 then a else if k < 8 then b else if k < 12 then c else if k < 16 then d else e) (24 - 8 * ((k % 4 : Nat) : Int)))
theorem w8_byF (a b c d e : Int) (k : Nat) : w8 (byF a b c d e k) = byF a b c d e k := w8w8 _
theorem c_feed {n : Nat} {a b c d e : Int} (hS : Sh s) (hn : n + 20 ≤ 800) (hc : gI s 0 1 = (n : Int)) : ∃ s1, X11_feed s 0 a b c d e = some (((n + 20 : Nat) : Int), s1) ∧ Fr (fun a => a = 0 ∨ a = 1) s s1 ∧ gI s1 0 1 = ((n + 20 : Nat) : Int) ∧ (∀ k, k ≠ 1 → gI s1 0 k = gI s 0 k) ∧ ∀ j, gI s1 1 j = if n ≤ j ∧ j < n + 20 then byF a b c d e (j - n) else gI s 1 j := by
  obtain ⟨s1, e1, f1, l1, k1, t1⟩ := put_e (x := a) hS (n := n) (by omega) hc
  have hS1 : Sh s1 := by rw [f1.sh]; exact hS
  obtain ⟨s2, e2, f2, l2, k2, t2⟩ := put_e (x := b) hS1 (n := n + 4) (by omega) l1
  have hS2 : Sh s2 := by rw [f2.sh]; exact hS1
  obtain ⟨s3, e3, f3, l3, k3, t3⟩ := put_e (x := c) hS2 (n := n + 4 + 4) (by omega) l2
  have hS3 : Sh s3 := by rw [f3.sh]; exact hS2
  obtain ⟨s4, e4, f4, l4, k4, t4⟩ := put_e (x := d) hS3 (n := n + 4 + 4 + 4) (by omega) l3
  have hS4 : Sh s4 := by rw [f4.sh]; exact hS3
  obtain ⟨s5, e5, f5, l5, k5, t5⟩ := put_e (x := e) hS4 (n := n + 4 + 4 + 4 + 4) (by omega) l4
  have hS5 : Sh s5 := by rw [f5.sh]; exact hS4
  have w1 : w32 ((n : Int) + 20) = (n : Int) + 20 := w32e (by omega)
  have g1 : (n : Int) + 20 ≤ 800 := by clear w1; omega
  refine ⟨s5, ?_, f1.trans (f2.trans (f3.trans (f4.trans f5))), l5, fun k hk => (k5 k hk).trans ((k4 k hk).trans ((k3 k hk).trans ((k2 k hk).trans (k1 k hk)))), fun j => ?_⟩
  · unfold X11_feed
    simp only [tF, isK, shF hS, shF hS1, shF hS2, shF hS3, shF hS4, shF hS5, hc, w1, e1, e2, e3, e4, e5, l5]
    rw [if_pos g1]
    simp
    clear w1; omega
  · rw [t5]
    by_cases q5 : n + 4 + 4 + 4 + 4 ≤ j ∧ j < n + 4 + 4 + 4 + 4 + 4
    · obtain ⟨i, hi, rfl⟩ : ∃ i, i < 4 ∧ j = n + 16 + i := ⟨j - (n + 16), by clear w1; omega, by clear w1; omega⟩
      rw [if_pos q5, if_pos (by clear w1; omega)]
      unfold byF
      rw [show n + 16 + i - n = 16 + i by clear w1; omega, if_neg (by clear w1; omega), if_neg (by clear w1; omega), if_neg (by clear w1; omega), if_neg (by clear w1; omega), show (16 + i) % 4 = i by clear w1; omega, show n + 16 + i - (n + 4 + 4 + 4 + 4) = i by clear w1; omega]
    · rw [if_neg q5, t4]
      by_cases q4 : n + 4 + 4 + 4 ≤ j ∧ j < n + 4 + 4 + 4 + 4
      · obtain ⟨i, hi, rfl⟩ : ∃ i, i < 4 ∧ j = n + 12 + i := ⟨j - (n + 12), by clear w1; omega, by clear w1; omega⟩
        rw [if_pos q4, if_pos (by clear w1; omega)]
        unfold byF
        rw [show n + 12 + i - n = 12 + i by clear w1; omega, if_neg (by clear w1; omega), if_neg (by clear w1; omega), if_neg (by clear w1; omega), if_pos (by clear w1; omega), show (12 + i) % 4 = i by clear w1; omega, show n + 12 + i - (n + 4 + 4 + 4) = i by clear w1; omega]
      · rw [if_neg q4, t3]
        by_cases q3 : n + 4 + 4 ≤ j ∧ j < n + 4 + 4 + 4
        · obtain ⟨i, hi, rfl⟩ : ∃ i, i < 4 ∧ j = n + 8 + i := ⟨j - (n + 8), by clear w1; omega, by clear w1; omega⟩
          rw [if_pos q3, if_pos (by clear w1; omega)]
          unfold byF
          rw [show n + 8 + i - n = 8 + i by clear w1; omega, if_neg (by clear w1; omega), if_neg (by clear w1; omega), if_pos (by clear w1; omega), show (8 + i) % 4 = i by clear w1; omega, show n + 8 + i - (n + 4 + 4) = i by clear w1; omega]
        · rw [if_neg q3, t2]
          by_cases q2 : n + 4 ≤ j ∧ j < n + 4 + 4
          · obtain ⟨i, hi, rfl⟩ : ∃ i, i < 4 ∧ j = n + 4 + i := ⟨j - (n + 4), by clear w1; omega, by clear w1; omega⟩
            rw [if_pos q2, if_pos (by clear w1; omega)]
            unfold byF
            rw [show n + 4 + i - n = 4 + i by clear w1; omega, if_neg (by clear w1; omega), if_pos (by clear w1; omega), show (4 + i) % 4 = i by clear w1; omega, show n + 4 + i - (n + 4) = i by clear w1; omega]
          · rw [if_neg q2, t1]
            by_cases q1 : n ≤ j ∧ j < n + 4
            · rw [if_pos q1, if_pos (by clear w1; omega)]
              unfold byF
              rw [if_pos (by clear w1; omega), show (j - n) % 4 = j - n by clear w1; omega]
            · rw [if_neg q1, if_neg (by clear w1; omega)]
theorem m_feed {n : Nat} {a b c d e : Int} (hS : Sh s) (hn : n + 20 ≤ 800) (hc : gI s 76 6 = (n : Int)) : ∃ s1, X13_feed_b23 FU s 76 a b c d e 0 = some (((n + 20 : Nat) : Int), s1) ∧ Fr (fun a => a = 76 ∨ a = 77) s s1 ∧ gI s1 76 6 = ((n + 20 : Nat) : Int) ∧ (∀ k, k ≠ 6 → gI s1 76 k = gI s 76 k) ∧ ∀ j, gI s1 77 j = if n ≤ j ∧ j < n + 20 then byF a b c d e (j - n) else gI s 77 j := by
  unfold X13_feed_b23
  refine iter_inv (Q := fun F => ∃ s1, F = some (((n + 20 : Nat) : Int), s1) ∧ Fr (fun a => a = 76 ∨ a = 77) s s1 ∧ gI s1 76 6 = ((n + 20 : Nat) : Int) ∧ (∀ k, k ≠ 6 → gI s1 76 k = gI s 76 k) ∧ ∀ j, gI s1 77 j = if n ≤ j ∧ j < n + 20 then byF a b c d e (j - n) else gI s 77 j) (fun i z => z.2 = ((76 : Int), a, b, c, d, e, (i : Int)) ∧ Fr (fun a => a = 76 ∨ a = 77) s z.1 ∧ gI z.1 76 6 = ((n + i : Nat) : Int) ∧ (∀ k, k ≠ 6 → gI z.1 76 k = gI s 76 k) ∧ ∀ j, gI z.1 77 j = if n ≤ j ∧ j < n + i then byF a b c d e (j - n) else gI s 77 j) 20 FU _ (by unfold FU; omega) ⟨rfl, Fr.refl _ _, hc, fun k _ => rfl, fun j => by rw [if_neg (by omega)]⟩ (fun i hi z hz => ?_) (fun z hz rec => ?_)
  · obtain ⟨s4, a2⟩ := z
    obtain ⟨a1, a2, a3, a4, a5⟩ := hz
    simp only at a1
    subst a1
    simp only at a2 a3 a4 a5
    have hS4 : Sh s4 := by rw [a2.sh]; exact hS
    have g1 : ¬ (20 : Int) ≤ (i : Int) := by omega
    have g3 : (0 : Int) ≤ ((n + i : Nat) : Int) := by omega
    have g4 : ((n + i : Nat) : Int) < 800 := by omega
    have hi6 : i ≤ 6000 := by omega
    refine ⟨(pI (pI s4 77 (n + i) (byF a b c d e i)) 76 6 ((n + (i + 1) : Nat) : Int), (76 : Int), a, b, c, d, e, ((i + 1 : Nat) : Int)), ⟨rfl, a2.trans ((Fr_pI (by simp)).trans (Fr_pI (by simp))), ?_, fun k hk => ?_, fun j => ?_⟩, fun rec => ?_⟩
    · show gI (pI (pI s4 77 _ _) 76 6 _) 76 6 = _
      rw [gI_pI]; simp
    · show gI (pI (pI s4 77 _ _) 76 6 _) 76 k = _
      rw [gI_pI, if_neg (fun z => hk z.2), gI_pI, if_neg (by simp)]
      exact a4 k hk
    · show gI (pI (pI s4 77 _ _) 76 6 _) 77 j = _
      rw [gI_pI, if_neg (by simp), gI_pI]
      by_cases q : j = n + i
      · rw [if_pos ⟨rfl, q⟩, if_pos (by omega), show j - n = i by omega]
      · rw [if_neg (fun z => q z.2), a5 j]
        by_cases z : n ≤ j ∧ j < n + i
        · rw [if_pos z, if_pos (by omega)]
        · rw [if_neg z, if_neg (by omega)]
    · have tm : Int.tmod (i : Int) 4 = ((i % 4 : Nat) : Int) := rfl
      have m4 : i % 4 < 4 := Nat.mod_lt _ (by decide)
      have w1 : w32 (8 * ((i % 4 : Nat) : Int)) = 8 * ((i % 4 : Nat) : Int) := w32e (by clear tm; omega)
      have w2 : w32 (24 - 8 * ((i % 4 : Nat) : Int)) = 24 - 8 * ((i % 4 : Nat) : Int) := w32e (by clear tm w1; omega)
      have hw := wk1 (k := n + i) (by clear tm w1 w2; omega)
      have hw' : w32 (((n + i : Nat) : Int) + 1) = ((n + (i + 1) : Nat) : Int) := by rw [hw]; simp; clear tm w1 w2 hw; omega
      have hwi := wk1 hi6
      have b76 : ∀ v : Int, w8 (shr32 v (24 - 8 * ((i % 4 : Nat) : Int))) = byF a b c d e i → X13_feed_b76 (fun (s : St) (x0 x1 x2 x3 x4 x5 x6 : Int) => rec (s, x0, x1, x2, x3, x4, x5, x6)) s4 76 a b c d e i v = rec (pI (pI s4 77 (n + i) (byF a b c d e i)) 76 6 ((n + (i + 1) : Nat) : Int), (76 : Int), a, b, c, d, e, ((i + 1 : Nat) : Int)) := by
        intro v hv
        simp only [X13_feed_b76]
        simp only [tF, isK, shF hS4, a3, gI_pI, Int.toNat_natCast, w8w8, w8_byF, tm, w1, w2, hv]
        rw [if_pos (by decide), if_pos (by decide), if_pos (by decide), if_pos ⟨⟨by decide, trivial⟩, g3, g4⟩]
        simp only [show ¬ ((76 : Int).toNat = (77 : Int).toNat ∧ 6 = n + i) by simp, if_false, a3, hw', hwi]
        simp
      simp only [X13_feed_b23_body]
      rw [if_neg g1]
      by_cases c1 : (4 : Int) ≤ (i : Int)
      · rw [if_pos c1]
        by_cases c2 : (8 : Int) ≤ (i : Int)
        · rw [if_pos c2]
          by_cases c3 : (12 : Int) ≤ (i : Int)
          · rw [if_pos c3]
            by_cases c4 : (16 : Int) ≤ (i : Int)
            · rw [if_pos c4]
              refine b76 _ ?_
              unfold byF
              clear tm w1 w2 hw hw' hwi
              rw [if_neg (by omega), if_neg (by omega), if_neg (by omega), if_neg (by omega)]
            · rw [if_neg c4]
              refine b76 _ ?_
              unfold byF
              clear tm w1 w2 hw hw' hwi
              rw [if_neg (by omega), if_neg (by omega), if_neg (by omega), if_pos (by omega)]
          · rw [if_neg c3]
            refine b76 _ ?_
            unfold byF
            clear tm w1 w2 hw hw' hwi
            rw [if_neg (by omega), if_neg (by omega), if_pos (by omega)]
        · rw [if_neg c2]
          refine b76 _ ?_
          unfold byF
          clear tm w1 w2 hw hw' hwi
          rw [if_neg (by omega), if_pos (by omega)]
      · rw [if_neg c1]
        refine b76 _ ?_
        unfold byF
        clear tm w1 w2 hw hw' hwi
        rw [if_pos (by omega)]
  · obtain ⟨s4, a2⟩ := z
    obtain ⟨a1, a2, a3, a4, a5⟩ := hz
    simp only at a1
    subst a1
    simp only at a2 a3 a4 a5
    have hS4 : Sh s4 := by rw [a2.sh]; exact hS
    exact ⟨s4, by simp [X13_feed_b23_body, tF, isK, shF hS4, a3], a2, a3, a4, a5⟩
theorem s_feed (a b c d e : Int) (h : INV s) : STP s (fun s => X11_feed s 0 a b c d e) (fun s => X13_feed s 76 a b c d e) := by
  obtain ⟨W, L, I, tr, fl, fp, tp, hO, ht, hC, hM⟩ := h
  have hS := hC.1.1
  have hC0 := hC
  have hM0 := hM
  obtain ⟨b1, b2, b3, b4, b5, b6, b7⟩ := hC
  obtain ⟨m1, m2, m3, m4⟩ := hM
  have w1 : w32 ((tp.1 : Int) + 20) = (tp.1 : Int) + 20 := w32e (by have := ht.1; omega)
  by_cases q : tp.1 + 20 ≤ 800
  · obtain ⟨s1, e1, f1, l1, k1, t1⟩ := c_feed (a := a) (b := b) (c := c) (d := d) (e := e) hS q b2.1
    have hS1 : Sh s1 := by rw [f1.sh]; exact hS
    have f1' : Fr (fun a => a < 76) s s1 := f1.mono (fun a ha => by clear w1; omega)
    have hM1 := hM0.cfr f1'
    obtain ⟨n1, n2, n3, n4⟩ := hM1
    have hSA : Sh (pI s1 76 0 0) := hS1
    have c6 : gI (pI s1 76 0 0) 76 6 = (tp.1 : Int) := n2.2.2.1
    obtain ⟨s2, u1, u2, u3, u4, u5⟩ := m_feed (s := pI s1 76 0 0) (a := a) (b := b) (c := c) (d := d) (e := e) hSA q c6
    have hm : Fr (fun a => a = 76 ∨ a = 77) s1 s2 := (Fr_pI (by simp)).trans u2
    let tp2 : Nat × (Nat → Int) := (tp.1 + 20, fun j => if tp.1 ≤ j ∧ j < tp.1 + 20 then byF a b c d e (j - tp.1) else tp.2 j)
    have hC1 : CI W L I tr fl fp tp2 s1 := by
      have ee : ∀ (a : Int) (k : Nat), a.toNat ≠ 0 → a.toNat ≠ 1 → gI s1 a k = gI s a k := fun a k x y => f1.nu (by simp; omega)
      have E19 : ∀ k, gI s1 19 k = gI s 19 k := fun k => ee 19 k (by decide) (by decide)
      have E32 : ∀ k, gI s1 32 k = gI s 32 k := fun k => ee 32 k (by decide) (by decide)
      have E51 : ∀ k, gI s1 51 k = gI s 51 k := fun k => ee 51 k (by decide) (by decide)
      have E4 : gI s1 4 0 = gI s 4 0 := ee 4 0 (by decide) (by decide)
      have E55 : ∀ k, gI s1 55 k = gI s 55 k := fun k => ee 55 k (by decide) (by decide)
      have E56 : ∀ k, gI s1 56 k = gI s 56 k := fun k => ee 56 k (by decide) (by decide)
      have E59 : ∀ k, gI s1 59 k = gI s 59 k := fun k => ee 59 k (by decide) (by decide)
      have E60 : ∀ k, gI s1 60 k = gI s 60 k := fun k => ee 60 k (by decide) (by decide)
      have E61 : ∀ k, gI s1 61 k = gI s 61 k := fun k => ee 61 k (by decide) (by decide)
      have E62 : ∀ k, gI s1 62 k = gI s 62 k := fun k => ee 62 k (by decide) (by decide)
      refine ⟨⟨hS1, ?_, fun T N z => (b1.2.2 T N z).fr f1 (fun a x y z => by clear w1; omega)⟩, ⟨l1, (k1 2 (by decide)).trans b2.2.1, (k1 3 (by decide)).trans b2.2.2.1, (k1 4 (by decide)).trans b2.2.2.2.1, (k1 15 (by decide)).trans b2.2.2.2.2⟩, fun j hj => ?_, ?_, ?_, ?_, fun T N z => ⟨?_, fun i hi => ((b7 T N z).2 i hi).eq (fun j j1 j2 k => ee _ k (by clear w1; omega) (by clear w1; omega))⟩⟩
      · simp only [E19]; exact b1.2.1
      · have hj' : j < tp.1 + 20 := hj
        rw [t1]
        show _ = (if tp.1 ≤ j ∧ j < tp.1 + 20 then byF a b c d e (j - tp.1) else tp.2 j)
        by_cases z : tp.1 ≤ j ∧ j < tp.1 + 20
        · rw [if_pos z, if_pos z]
        · rw [if_neg z, if_neg z]; exact b3 j (by clear w1; omega)
      · simp only [E51, E4]; exact b4
      · unfold LGc at b5 ⊢; simp only [E59, E60, E61, E62]; exact b5
      · simp only [E19, E32]; exact b6
      · have := (b7 T N z).1
        unfold FTc at this ⊢; simp only [E55, E56]; exact this
    have hM2 : MI_ W L I tr fl fp tp2 s2 := by
      have ee : ∀ (a : Int) (k : Nat), a.toNat ≠ 76 → a.toNat ≠ 77 → gI s2 a k = gI s1 a k := fun a k x y => hm.nu (by simp; omega)
      have E78 : ∀ k, gI s2 78 k = gI s1 78 k := fun k => ee 78 k (by decide) (by decide)
      have E80 : ∀ k, gI s2 80 k = gI s1 80 k := fun k => ee 80 k (by decide) (by decide)
      have E81 : ∀ k, gI s2 81 k = gI s1 81 k := fun k => ee 81 k (by decide) (by decide)
      have K : ∀ k, k ≠ 6 → k ≠ 0 → gI s2 76 k = gI s1 76 k := fun k x y => (u4 k x).trans (by rw [gI_pI, if_neg (fun z => y z.2)])
      refine ⟨⟨by rw [hm.sh]; exact hS1, fun z => by rw [hm.refs]; exact n1.2.1 z, fun T N z => ?_⟩, ⟨(K 1 (by decide) (by decide)).trans n2.1, (K 2 (by decide) (by decide)).trans n2.2.1, u3, (K 12 (by decide) (by decide)).trans n2.2.2.2.1, (K 19 (by decide) (by decide)).trans n2.2.2.2.2.1, (K 20 (by decide) (by decide)).trans n2.2.2.2.2.2⟩, fun j hj => ?_, fun T N z => ?_⟩
      · obtain ⟨t, t1, t2, t3⟩ := n1.2.2 T N z
        refine ⟨t, t1.fr hm (fun a ha z => by clear w1; omega), t2, ?_⟩
        simp only [E78]; exact t3
      · have hj' : j < tp.1 + 20 := hj
        rw [u5]
        show _ = (if tp.1 ≤ j ∧ j < tp.1 + 20 then byF a b c d e (j - tp.1) else tp.2 j)
        by_cases z : tp.1 ≤ j ∧ j < tp.1 + 20
        · rw [if_pos z, if_pos z]
        · rw [if_neg z, if_neg z]
          exact n3 j (by clear w1; omega)
      · have := n4 T N z
        unfold LGm at this ⊢
        simp only [K 19 (by decide) (by decide), E80, E81]
        exact this
    have ht2 : tp2.1 ≤ 800 ∧ ∀ j, ok8 (tp2.2 j) := by
      refine ⟨q, fun j => ?_⟩
      show ok8 (if tp.1 ≤ j ∧ j < tp.1 + 20 then byF a b c d e (j - tp.1) else tp.2 j)
      split
      · exact ok_w8 _
      · exact ht.2 j
    have e2 : s2.1 = s.1 := hm.1.trans f1.1
    refine ⟨_, s1, s2, e1, ?_, hS1, ⟨W, L, I, tr, fl, fp, tp2, hO, ht2, hC1.mfr hO.2.2.1 (hm.mono (fun a ha => by clear w1; omega)), hM2⟩, ?_, ?_, ?_⟩
    · have g1 : (tp.1 : Int) + 20 ≤ 800 := by clear w1; omega
      show X13_feed s1 76 a b c d e = _
      unfold X13_feed
      simp [tF, isK, shF hS1, c6, w1, g1, u1]
    all_goals (rw [e2]; clear w1; omega)
  · have g1 : ¬ (tp.1 : Int) + 20 ≤ 800 := by clear w1; omega
    have e2 : (pI s 76 0 0).1 = s.1 := rfl
    have c6 : gI (pI s 76 0 0) 76 6 = (tp.1 : Int) := m2.2.2.1
    have hv : Mv s (pI s 76 0 0) := Mv_pI (by decide)
    refine ⟨-1, s, pI s 76 0 0, ?_, ?_, hS, ⟨W, L, I, tr, fl, fp, tp, hO, ht, hC0.mread hO.2.2.1 hv, ?_⟩, ?_, ?_, ?_⟩
    · show X11_feed s 0 a b c d e = _
      unfold X11_feed
      simp [tF, isK, shF hS, b2.1, w1, g1]
    · show X13_feed s 76 a b c d e = _
      unfold X13_feed
      simp [tF, isK, shF hS, c6, w1, g1]
    · refine ⟨⟨m1.1, m1.2.1, fun T N z => ?_⟩, m2, m3, m4⟩
      obtain ⟨t, t1, t2, t3⟩ := m1.2.2 T N z
      exact ⟨t, t1.tr 0 0, t2, t3⟩
    all_goals (rw [e2]; clear w1; omega)
end FEED
