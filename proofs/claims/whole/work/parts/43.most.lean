/-! most: the ways by which so many are right -/
def cS (a : Nat) : Prop := (39 ≤ a ∧ a ≤ 50) ∨ (52 ≤ a ∧ a ≤ 54) ∨ a = 57 ∨ a = 58
def CR (s : St) (w r : Int) (F : Rs) : Prop := ∃ s1, F = some (r, s1) ∧ Fr cS (pI s 0 2 w) s1
theorem CR_eq {s : St} {w r : Int} {F : Rs} (h : F = some (r, pI s 0 2 w)) : CR s w r F := ⟨_, h, Fr.refl _ _⟩
theorem CR_of {s s1 : St} {w r : Int} {F : Rs} (h : F = some (r, s1)) (hf : Fr cS (pI s 0 2 w) s1) : CR s w r F := ⟨_, h, hf⟩
theorem WC.cs {T : Tw} {N : Nw} {s s1 : St} (hW : WC T N s) (h : Fr cS s s1) : WC T N s1 := hW.fr h (fun a h1 h2 q => by unfold cS at q; omega)
def wayF (r : Nat → Nat) : Nat → Nat → Nat
  | 0, m => if m = 0 then 1 else 0
  | d + 1, m => wayF r d m * (100 - r d) + (if m = 0 then 0 else wayF r d (m - 1) * r d)
theorem wayF_b {r : Nat → Nat} (hr : ∀ d, r d ≤ 100) : ∀ d m, wayF r d m ≤ 100 ^ d
  | 0, m => by unfold wayF; split <;> omega
  | d + 1, m => by
    have h1 := wayF_b hr d m
    have h2 := wayF_b hr d (m - 1)
    have h3 := hr d
    have e : 100 ^ (d + 1) = 100 ^ d * (100 - r d) + 100 ^ d * r d := by
      rw [← Nat.mul_add, Nat.pow_succ, show 100 - r d + r d = 100 by omega]
    have g1 := Nat.mul_le_mul_right (100 - r d) h1
    have g2 := Nat.mul_le_mul_right (r d) h2
    unfold wayF
    rw [e]
    split <;> omega
theorem wayF_0 (r : Nat → Nat) : ∀ d m, d < m → wayF r d m = 0
  | 0, m, h => by unfold wayF; rw [if_neg (by omega)]
  | d + 1, m, h => by
    unfold wayF
    rw [wayF_0 r d m (by omega), wayF_0 r d (m - 1) (by omega)]
    split <;> simp
theorem way_tot {r : Nat → Nat} (hr : ∀ d, r d ≤ 100) : ∀ d, d ≤ 6 → sumN (fun j => wayF r d j) 7 = 100 ^ d
  | 0, _ => by simp [sumN, fo, wayF]
  | d + 1, h => by
    have ih := way_tot hr d (by omega)
    have h6 := wayF_0 r d 6 (by omega)
    have h3 := hr d
    have e : ∀ f : Nat → Nat, sumN f 7 = f 0 + f 1 + f 2 + f 3 + f 4 + f 5 + f 6 := fun f => by simp [sumN, fo]
    rw [e] at ih ⊢
    have s0 : wayF r (d + 1) 0 = wayF r d 0 * (100 - r d) + 0 := rfl
    have sm : ∀ m, wayF r (d + 1) (m + 1) = wayF r d (m + 1) * (100 - r d) + wayF r d m * r d := fun m => rfl
    rw [s0, sm 0, sm 1, sm 2, sm 3, sm 4, sm 5, Nat.pow_succ, ← ih]
    rw [h6]
    obtain ⟨q, hq⟩ : ∃ q, 100 - r d = q := ⟨_, rfl⟩
    have hq2 : 100 = q + r d := by omega
    rw [hq]
    generalize wayF r d 0 = a0
    generalize wayF r d 1 = a1
    generalize wayF r d 2 = a2
    generalize wayF r d 3 = a3
    generalize wayF r d 4 = a4
    generalize wayF r d 5 = a5
    rw [hq2]
    simp only [Nat.mul_add, Nat.add_mul]
    omega
theorem way_12 {r : Nat → Nat} (hr : ∀ d, r d ≤ 100) {d : Nat} (hd : d ≤ 6) (m : Nat) : wayF r d m ≤ 1000000000000 := Nat.le_trans (wayF_b hr d m) (Nat.le_trans (Nat.pow_le_pow_right (by decide) hd) (by decide))
def rowC (s : St) (r : Nat → Nat) (d : Nat) : St := sR s 58 (fun j => if j < 7 then (wayF r d j : Int) else gI s 58 j)
def rowM (s : St) (r : Nat → Nat) (d : Nat) : St := sR s 87 (fun j => if j < 7 then (wayF r d j : Int) else gI s 87 j)
/-- one entry of the next row -/
theorem way_step {r : Nat → Nat} (hr : ∀ d, r d ≤ 100) {d : Nat} (hd : d < 6) {m : Nat} : w64 (w64 ((wayF r d (m + 1) : Int) * (100 - (r d : Int))) + w64 ((wayF r d m : Int) * (r d : Int))) = (wayF r (d + 1) (m + 1) : Int) := by
  have b1 := way_12 hr (d := d) (by omega) (m + 1)
  have b2 := way_12 hr (d := d) (by omega) m
  have h3 := hr d
  have e : (wayF r (d + 1) (m + 1) : Int) = (wayF r d (m + 1) : Int) * (100 - (r d : Int)) + (wayF r d m : Int) * (r d : Int) := by
    have : wayF r (d + 1) (m + 1) = wayF r d (m + 1) * (100 - r d) + wayF r d m * r d := rfl
    rw [this]
    push_cast
    rw [Int.natCast_sub h3]
    rfl
  have p1 : 0 ≤ (wayF r d (m + 1) : Int) * (100 - (r d : Int)) := Int.mul_nonneg (by omega) (by omega)
  have p2 : 0 ≤ (wayF r d m : Int) * (r d : Int) := Int.mul_nonneg (by omega) (by omega)
  have p3 : (wayF r d (m + 1) : Int) * (100 - (r d : Int)) ≤ 1000000000000 * 100 := Int.mul_le_mul (by omega) (by omega) (by omega) (by omega)
  have p4 : (wayF r d m : Int) * (r d : Int) ≤ 1000000000000 * 100 := Int.mul_le_mul (by omega) (by omega) (by omega) (by omega)
  rw [w64e (x := (wayF r d (m + 1) : Int) * (100 - (r d : Int))) (by omega), w64e (x := (wayF r d m : Int) * (r d : Int)) (by omega), w64e (by omega), e]
theorem way_step0 {r : Nat → Nat} (hr : ∀ d, r d ≤ 100) {d : Nat} (hd : d < 6) : w64 ((wayF r d 0 : Int) * (100 - (r d : Int))) = (wayF r (d + 1) 0 : Int) := by
  have b1 := way_12 hr (d := d) (by omega) 0
  have h3 := hr d
  have e : (wayF r (d + 1) 0 : Int) = (wayF r d 0 : Int) * (100 - (r d : Int)) := by
    have : wayF r (d + 1) 0 = wayF r d 0 * (100 - r d) + 0 := rfl
    rw [this]
    push_cast
    rw [Int.natCast_sub h3]
    simp
  have p1 : 0 ≤ (wayF r d 0 : Int) * (100 - (r d : Int)) := Int.mul_nonneg (by omega) (by omega)
  have p3 : (wayF r d 0 : Int) * (100 - (r d : Int)) ≤ 1000000000000 * 100 := Int.mul_le_mul (by omega) (by omega) (by omega) (by omega)
  rw [w64e (by omega), e]
section MOST
variable {s : St} {T : Tw} {N : Nw} {t : Int} {d : Nat} {night p : Int} {r : Nat → Nat}
theorem ways_in (hS : Sh s) (hr : ∀ d, r d ≤ 100) (hd : d < 6) (rk : St → Int → Int → Int → Int → Rs) : X2_countWays_b63 rk FU (rowC s r d) 57 31 night d (r d) 6 = rk (rowC s r (d + 1)) 57 31 night ((d + 1 : Nat) : Int) := by
  have hrd := hr d
  have w0 : w32 (100 - (r d : Int)) = 100 - (r d : Int) := w32e (by omega)
  unfold X2_countWays_b63
  rw [show (rowC s r d, (57 : Int), (31 : Int), night, (d : Int), (r d : Int), (6 : Int)) = (fun i : Nat => (sR s 58 (fun j => if j < 7 then (if 6 - i < j then (wayF r (d + 1) j : Int) else (wayF r d j : Int)) else gI s 58 j), (57 : Int), (31 : Int), night, (d : Int), (r d : Int), ((6 - i : Nat) : Int))) 0 by
    show _ = (sR s 58 (fun j => if j < 7 then (if 6 < j then (wayF r (d + 1) j : Int) else (wayF r d j : Int)) else gI s 58 j), (57 : Int), (31 : Int), night, (d : Int), (r d : Int), (6 : Int))
    unfold rowC
    congr 2
    funext j
    by_cases h : j < 7
    · rw [if_pos h, if_pos h, if_neg (by clear w0; omega)]
    · rw [if_neg h, if_neg h]]
  refine iter_run 6 FU (fun i : Nat => (sR s 58 (fun j => if j < 7 then (if 6 - i < j then (wayF r (d + 1) j : Int) else (wayF r d j : Int)) else gI s 58 j), (57 : Int), (31 : Int), night, (d : Int), (r d : Int), ((6 - i : Nat) : Int))) (by clear w0; unfold FU; omega) (fun i hi rec => ?_) (fun rec => ?_)
  · obtain ⟨m, hm⟩ : ∃ m, 6 - i = m + 1 := ⟨5 - i, by clear w0; omega⟩
    have hm6 : m < 6 := by clear w0; omega
    have hm2 : 6 - (i + 1) = m := by clear w0; omega
    simp only [hm, hm2]
    have g1 : ¬ ((m + 1 : Nat) : Int) ≤ 0 := by clear w0; omega
    have g2 : (0 : Int) ≤ (m : Int) + 1 := by clear w0; omega
    have g3 : (m : Int) + 1 < 7 := by clear w0; omega
    have g4 : (m : Int) < 7 := by clear w0; omega
    have g5 : m + 1 < 7 := by clear w0; omega
    have g6 : m < 7 := by clear w0; omega
    have g7 : ¬ (m : Int) + 1 ≤ 0 := by clear w0; omega
    have g8 : ¬ m + 1 < m := by clear w0; omega
    have i1 : ((m : Int) + 1).toNat = m + 1 := by clear w0; omega
    have hf : (fun j => if j = m + 1 then (wayF r (d + 1) (m + 1) : Int) else if j < 7 then (if m + 1 < j then (wayF r (d + 1) j : Int) else (wayF r d j : Int)) else gI s 58 j) = fun j => if j < 7 then (if m < j then (wayF r (d + 1) j : Int) else (wayF r d j : Int)) else gI s 58 j := by
      funext j
      by_cases h1 : j = m + 1
      · rw [if_pos h1, if_pos (by clear w0; omega), if_pos (by clear w0; omega), h1]
      · rw [if_neg h1]
        by_cases h2 : j < 7
        · rw [if_pos h2, if_pos h2]
          by_cases h3 : m + 1 < j
          · rw [if_pos h3, if_pos (by clear w0; omega)]
          · rw [if_neg h3, if_neg (by clear w0; omega)]
        · rw [if_neg h2, if_neg h2]
    have hst := way_step hr hd (m := m)
    have hm60 : m ≤ 6000 := by clear w0 hst; omega
    have w1 := wk0 hm60
    have w2 : w32 ((m : Int) + 1 + -1) = (m : Int) := by rw [w32e (by clear w0 hst w1; omega)]; clear w0 hst w1; omega
    simp [X2_countWays_b63_body, tF, sRF, isK, shF hS, gI_sR, g1, g2, g3, g4, g5, g6, g7, g8, i1, w1, w2, w0, hst, sR_pI, hf]
  · have hf : (fun j => if j = 0 then (wayF r (d + 1) 0 : Int) else if j < 7 then (if 0 < j then (wayF r (d + 1) j : Int) else (wayF r d j : Int)) else gI s 58 j) = fun j => if j < 7 then (wayF r (d + 1) j : Int) else gI s 58 j := by
      funext j
      by_cases h1 : j = 0
      · rw [if_pos h1, if_pos (by clear w0; omega), h1]
      · rw [if_neg h1, if_pos (by clear w0; omega : 0 < j)]
    have hst := way_step0 hr hd
    have hk6 : d ≤ 6000 := by clear w0 hst; omega
    have hw := wk1 hk6
    simp [X2_countWays_b63_body, tF, sRF, isK, shF hS, gI_sR, w0, hst, sR_pI, hf, hw, rowC]
theorem ways_e (hW : WC T N s) (hn : 0 ≤ night ∧ night ≤ 99) : X2_countWays s 57 31 night = some (0, rowC s (fun d => hunN T N d (tFo T d : Int) night) (tD T)) := by
  have hS := hW.1
  have t6 := hW.2.1.1.2.2.2.2.2.1
  have hr : ∀ d, (fun d => hunN T N d (tFo T d : Int) night) d ≤ 100 := fun d => hunN_b hW.2.1
  generalize hrr : (fun d => hunN T N d (tFo T d : Int) night) = r at hr
  have hrd : ∀ d : Nat, hunN T N d (tFo T d : Int) night = r d := fun d => congrFun hrr d
  have outer : X2_countWays_b30 FU (rowC s r 0) 57 31 night 0 = some (0, rowC s r (tD T)) := by
    unfold X2_countWays_b30
    refine iter_run (tD T) FU (fun k : Nat => (rowC s r k, (57 : Int), (31 : Int), night, (k : Int))) (fuel7 (by omega)) (fun k hk rec => ?_) (fun rec => ?_)
    · have hWk : WC T N (rowC s r k) := hW.cs (Fr_sR (Or.inr (Or.inr (Or.inr rfl))))
      have c3 := hWk.2.2.2.1.1.2.2.2.1
      have c4 := (hWk.2.2.2.1.2.1 k hk).2
      have hSk := hWk.1
      have e := hundredths_e (p := (tFo T k : Int)) hWk hk hn
      rw [hunN_e hW.2.1, hrd] at e
      have hi := ways_in (night := night) hS hr (d := k) (by omega) (fun (s : St) (x0 x1 x2 x3 : Int) => rec (s, x0, x1, x2, x3))
      have g1 : ¬ tD T ≤ k := by omega
      have g2 : (k : Int) < 6 := by omega
      simp only [X2_countWays_b30_body]
      simp [tF, isK, shF hSk, c3, c4, g1, g2, e, hi]
    · have hWk : WC T N (rowC s r (tD T)) := hW.cs (Fr_sR (Or.inr (Or.inr (Or.inr rfl))))
      have c3 := hWk.2.2.2.1.1.2.2.2.1
      have hSk := hWk.1
      simp only [X2_countWays_b30_body]
      simp [tF, isK, shF hSk, c3]
  unfold X2_countWays X2_countWays_b2
  rw [show (s, (57 : Int), (31 : Int), night, (1 : Int)) = (fun k : Nat => (sR s 58 (fun j => if 1 ≤ j ∧ j < k + 1 then 0 else gI s 58 j), (57 : Int), (31 : Int), night, ((k + 1 : Nat) : Int))) 0 by
    have : (fun j => if 1 ≤ j ∧ j < 0 + 1 then 0 else gI s 58 j) = fun j => gI s 58 j := by
      funext j; rw [if_neg (by omega)]
    simp only [this, sR_self]
    rfl]
  refine iter_run 6 FU (fun k : Nat => (sR s 58 (fun j => if 1 ≤ j ∧ j < k + 1 then 0 else gI s 58 j), (57 : Int), (31 : Int), night, ((k + 1 : Nat) : Int))) (by unfold FU; omega) (fun k hk rec => ?_) (fun rec => ?_)
  · have g1 : ¬ (6 : Int) < (k : Int) + 1 := by omega
    have g2 : (0 : Int) ≤ (k : Int) + 1 := by omega
    have g3 : (k : Int) + 1 < 7 := by omega
    have i1 : ((k : Int) + 1).toNat = k + 1 := by omega
    have hf : (fun j => if j = k + 1 then (0 : Int) else if 1 ≤ j ∧ j < k + 1 then 0 else gI s 58 j) = fun j => if 1 ≤ j ∧ j < k + 1 + 1 then 0 else gI s 58 j := by
      funext j
      by_cases h1 : j = k + 1
      · rw [if_pos h1, if_pos (by omega)]
      · rw [if_neg h1]
        by_cases h2 : 1 ≤ j ∧ j < k + 1
        · rw [if_pos h2, if_pos (by omega)]
        · rw [if_neg h2, if_neg (by omega)]
    have hk6 : k + 1 ≤ 6000 := by omega
    have hw := wk1 hk6
    rw [show ((k + 1 : Nat) : Int) = (k : Int) + 1 by simp] at hw
    simp [X2_countWays_b2_body, tF, sRF, isK, shF hS, g1, g2, g3, i1, sR_pI, hf, hw]
  · have hf : (fun j => if j = 0 then (1 : Int) else if 1 ≤ j ∧ j < 6 + 1 then 0 else gI s 58 j) = fun j => if j < 7 then (wayF r 0 j : Int) else gI s 58 j := by
      funext j
      by_cases h1 : j = 0
      · rw [if_pos h1, if_pos (by omega), h1]; rfl
      · rw [if_neg h1]
        by_cases h2 : j < 7
        · rw [if_pos (by omega), if_pos h2]
          unfold wayF
          rw [if_neg h1]; rfl
        · rw [if_neg (by omega), if_neg h2]
    have e : pI (sR s 58 (fun j => if 1 ≤ j ∧ j < 6 + 1 then 0 else gI s 58 j)) 58 0 1 = rowC s r 0 := by
      rw [sR_pI, hf]; rfl
    simp only [X2_countWays_b2_body]
    rw [if_pos (by decide)]
    simp [tF, sRF, isK, shF hS]
    have e' : pI (sR s 58 (fun j => if 1 ≤ j ∧ j < 7 then 0 else gI s 58 j)) 58 0 1 = rowC s r 0 := e
    first | rw [e', outer] | (simp only [Nat.one_le_iff_ne_zero] at *; rw [e', outer])
theorem waysFrom_e {m : Nat} (hS : Sh s) (hr : ∀ d, r d ≤ 100) {D : Nat} (hD : D ≤ 6) (hm : m ≤ 7) : X2_waysFrom (rowC s r D) 57 m = some (((sumN (fun j => wayF r D (m + j)) (7 - m) : Nat) : Int), rowC s r D) := by
  have sb := sumN_b (f := fun j => wayF r D (m + j)) (c := 1000000000000) (fun k => way_12 hr hD _)
  unfold X2_waysFrom X2_waysFrom_b5
  rw [show (rowC s r D, (57 : Int), (0 : Int), (m : Int)) = (fun k : Nat => (rowC s r D, (57 : Int), ((sumN (fun j => wayF r D (m + j)) k : Nat) : Int), ((m + k : Nat) : Int))) 0 from rfl]
  refine iter_run (7 - m) FU (fun k : Nat => (rowC s r D, (57 : Int), ((sumN (fun j => wayF r D (m + j)) k : Nat) : Int), ((m + k : Nat) : Int))) (by unfold FU; omega) (fun k hk rec => ?_) (fun rec => ?_)
  · have g1 : ¬ (6 : Int) < ((m + k : Nat) : Int) := by omega
    have g2 : (0 : Int) ≤ ((m + k : Nat) : Int) := by omega
    have g3 : ((m + k : Nat) : Int) < 7 := by omega
    have g4 : m + k < 7 := by omega
    have b1 := sb k
    have b2 := way_12 hr hD (m + k)
    have es : sumN (fun j => wayF r D (m + j)) (k + 1) = sumN (fun j => wayF r D (m + j)) k + wayF r D (m + k) := rfl
    have gx : gI (rowC s r D) 58 (m + k) = (wayF r D (m + k) : Int) := by
      show (if m + k < 7 then _ else _) = _
      rw [if_pos g4]
    have w1 := w64e (x := ((sumN (fun j => wayF r D (m + j)) k : Nat) : Int) + (wayF r D (m + k) : Int)) (by omega)
    have hw := wk1 (k := m + k) (by clear w1; omega)
    have hSr : Sh (rowC s r D) := hS
    simp only [X2_waysFrom_b5_body]
    rw [if_neg g1]
    simp only [tF, isK, shF hSr, Int.toNat_natCast, gx, w1, hw, es]
    rw [if_pos (by decide), if_pos ⟨by decide, g2, g3⟩]
    rfl
  · have g1 : (6 : Int) < ((m + (7 - m) : Nat) : Int) := by omega
    simp only [X2_waysFrom_b5_body]
    rw [if_pos g1]
end MOST
