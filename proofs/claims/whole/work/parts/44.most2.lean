/-! most: the reference's row -/
section MOST2
variable {s : St} {T : Tw} {N : Nw} {t : Int} {d : Nat} {night p wh w : Int} {r : Nat → Nat} {m : Nat}
theorem mways_in (hS : Sh s) (hr : ∀ d, r d ≤ 100) (hd : d < 6) (hwh : 0 ≤ wh ∧ wh ≤ 1000000000000) (rk : St → Int → Int → Int → Int → Int → Int → Rs) : X13_most_b124 rk FU (rowM s r d) 76 p night w wh d (r d) 6 = rk (rowM s r (d + 1)) 76 p night w (wh * 100) ((d + 1 : Nat) : Int) := by
  have hrd := hr d
  have w0 : w32 (100 - (r d : Int)) = 100 - (r d : Int) := w32e (by omega)
  unfold X13_most_b124
  rw [show (rowM s r d, (76 : Int), p, night, w, wh, (d : Int), (r d : Int), (6 : Int)) = (fun i : Nat => (sR s 87 (fun j => if j < 7 then (if 7 - i ≤ j then (wayF r (d + 1) j : Int) else (wayF r d j : Int)) else gI s 87 j), (76 : Int), p, night, w, wh, (d : Int), (r d : Int), (6 : Int) - (i : Int))) 0 by
    show _ = (sR s 87 (fun j => if j < 7 then (if 7 ≤ j then (wayF r (d + 1) j : Int) else (wayF r d j : Int)) else gI s 87 j), (76 : Int), p, night, w, wh, (d : Int), (r d : Int), (6 : Int))
    unfold rowM
    congr 2
    funext j
    by_cases h : j < 7
    · rw [if_pos h, if_pos h, if_neg (by clear w0; omega)]
    · rw [if_neg h, if_neg h]]
  refine iter_run 7 FU (fun i : Nat => (sR s 87 (fun j => if j < 7 then (if 7 - i ≤ j then (wayF r (d + 1) j : Int) else (wayF r d j : Int)) else gI s 87 j), (76 : Int), p, night, w, wh, (d : Int), (r d : Int), (6 : Int) - (i : Int))) (by clear w0; unfold FU; omega) (fun i hi rec => ?_) (fun rec => ?_)
  · obtain ⟨m, hm⟩ : ∃ m, i + m = 6 := ⟨6 - i, by clear w0; omega⟩
    have hmI : (6 : Int) - (i : Int) = (m : Int) := by clear w0; omega
    have hm1 : 7 - i = m + 1 := by clear w0; omega
    have hm2 : 7 - (i + 1) = m := by clear w0; omega
    have hm3 : (6 : Int) - ((i + 1 : Nat) : Int) = (m : Int) - 1 := by clear w0; omega
    simp only [hmI, hm1, hm2, hm3]
    have hf : (fun j => if j = m then (wayF r (d + 1) m : Int) else if j < 7 then (if m + 1 ≤ j then (wayF r (d + 1) j : Int) else (wayF r d j : Int)) else gI s 87 j) = fun j => if j < 7 then (if m ≤ j then (wayF r (d + 1) j : Int) else (wayF r d j : Int)) else gI s 87 j := by
      funext j
      by_cases h1 : j = m
      · rw [if_pos h1, if_pos (by clear w0; omega), if_pos (by clear w0; omega), h1]
      · rw [if_neg h1]
        by_cases h2 : j < 7
        · rw [if_pos h2, if_pos h2]
          by_cases h3 : m + 1 ≤ j
          · rw [if_pos h3, if_pos (by clear w0; omega)]
          · rw [if_neg h3, if_neg (by clear w0; omega)]
        · rw [if_neg h2, if_neg h2]
    have w2 : w32 ((m : Int) + -1) = (m : Int) - 1 := by rw [w32e (by clear w0; omega)]; rfl
    have g1 : ¬ (m : Int) < 0 := by clear w0 w2; omega
    have g3 : (m : Int) < 7 := by clear w0 w2; omega
    have g4 : m < 7 := by clear w0 w2; omega
    have g5 : ¬ m + 1 ≤ m := by clear w0 w2; omega
    cases m with
    | zero =>
      have hst := way_step0 hr hd
      have b0 := way_12 hr (d := d + 1) (by clear w0 w2 hst; omega) 0
      have w3 : w64 (wayF r (d + 1) 0 : Int) = (wayF r (d + 1) 0 : Int) := w64e (by clear w0 w2 hst; omega)
      simp at w2 hf
      simp [X13_most_b124_body, X13_most_b171, tF, sRF, isK, shF hS, gI_sR, w0, hst, w3, sR_pI, w2, hf]
    | succ q =>
      have hst := way_step hr hd (m := q)
      have hq60 : q ≤ 6000 := by clear w0 w2 hst; omega
      have g6 : ¬ (q : Int) + 1 ≤ 0 := by clear w0 w2 hst; omega
      have g7 : (0 : Int) ≤ (q : Int) + 1 := by clear w0 w2 hst; omega
      have g8 : (q : Int) + 1 < 7 := by clear w0 w2 hst; omega
      have g9 : (q : Int) < 7 := by clear w0 w2 hst; omega
      have g10 : q + 1 < 7 := by clear w0 w2 hst; omega
      have g11 : q < 7 := by clear w0 w2 hst; omega
      have g12 : ¬ q + 1 + 1 ≤ q := by clear w0 w2 hst; omega
      have g14 : ¬ q + 1 ≤ q := by clear w0 w2 hst; omega
      have g13 : ¬ (q : Int) + 1 < 0 := by clear w0 w2 hst; omega
      have i1 : ((q : Int) + 1).toNat = q + 1 := by clear w0 w2 hst; omega
      have w1 := wk0 hq60
      simp at w2 hf
      simp [X13_most_b124_body, X13_most_b171, tF, sRF, isK, shF hS, gI_sR, w0, w1, hst, sR_pI, w2, hf, g6, g7, g8, g9, g10, g11, g12, g13, g14, i1]
  · have hw := wk1 (k := d) (by clear w0; omega)
    have w4 : w64 (wh * 100) = wh * 100 := w64e (by clear w0 hw; omega)
    have hf : (fun j => if j < 7 then (if 7 - 7 ≤ j then (wayF r (d + 1) j : Int) else (wayF r d j : Int)) else gI s 87 j) = fun j => if j < 7 then (wayF r (d + 1) j : Int) else gI s 87 j := by
      funext j
      rw [if_pos (by clear w0 hw w4; omega : 7 - 7 ≤ j)]
    simp only [hf]
    simp [X13_most_b124_body, w4, hw, rowM]
theorem r_most (hW : WM T N t s) (hn : 0 ≤ night ∧ night ≤ 99) (hm : m ≤ 6) : ∃ s1, X13_most_b56 FU s 76 m night w 1 0 = some (frF (sumN (fun j => wayF (fun d => hunN T N d (tFo T d : Int) night) (tD T) (m + j)) (7 - m)) (100 ^ tD T) w, fiM 0 s1) ∧ Mv s s1 := by
  have hS := hW.1.1
  have t6 := hW.1.2.1.1.2.2.2.2.2.1
  have hr : ∀ d, (fun d => hunN T N d (tFo T d : Int) night) d ≤ 100 := fun d => hunN_b hW.1.2.1
  generalize hrr : (fun d => hunN T N d (tFo T d : Int) night) = r at hr
  have hrd : ∀ d : Nat, hunN T N d (tFo T d : Int) night = r d := fun d => congrFun hrr d
  have p12 : ∀ k, k ≤ 6 → 100 ^ k ≤ 1000000000000 := fun k hk => Nat.le_trans (Nat.pow_le_pow_right (by decide) hk) (by decide)
  have hWk : ∀ k, WM T N t (rowM s r k) := fun k => ⟨hW.1.fr (L := fun a => a = 87) (Fr_sR rfl) (fun a ha q => by omega), hW.2.1, hW.2.2⟩
  refine ⟨rowM s r (tD T), ?_, Mv_fr (L := fun a => a = 87) (Fr_sR rfl) (fun a ha => Or.inr (by omega))⟩
  have last : X13_most_b199 FU (rowM s r (tD T)) 76 w ((100 ^ tD T : Nat) : Int) 0 m = some (frF (sumN (fun j => wayF r (tD T) (m + j)) (7 - m)) (100 ^ tD T) w, fiM 0 (rowM s r (tD T))) := by
    have sb := sumN_b (f := fun j => wayF r (tD T) (m + j)) (c := 1000000000000) (fun k => way_12 hr t6 _)
    have hSr : Sh (rowM s r (tD T)) := hS
    unfold X13_most_b199
    rw [show (rowM s r (tD T), (76 : Int), w, ((100 ^ tD T : Nat) : Int), (0 : Int), (m : Int)) = (fun k : Nat => (rowM s r (tD T), (76 : Int), w, ((100 ^ tD T : Nat) : Int), ((sumN (fun j => wayF r (tD T) (m + j)) k : Nat) : Int), ((m + k : Nat) : Int))) 0 from rfl]
    refine iter_run (7 - m) FU (fun k : Nat => (rowM s r (tD T), (76 : Int), w, ((100 ^ tD T : Nat) : Int), ((sumN (fun j => wayF r (tD T) (m + j)) k : Nat) : Int), ((m + k : Nat) : Int))) (by unfold FU; omega) (fun k hk rec => ?_) (fun rec => ?_)
    · have g1 : ¬ (6 : Int) < ((m + k : Nat) : Int) := by omega
      have g2 : (0 : Int) ≤ ((m + k : Nat) : Int) := by omega
      have g3 : ((m + k : Nat) : Int) < 7 := by omega
      have g4 : m + k < 7 := by omega
      have b1 := sb k
      have b2 := way_12 hr t6 (m + k)
      have es : sumN (fun j => wayF r (tD T) (m + j)) (k + 1) = sumN (fun j => wayF r (tD T) (m + j)) k + wayF r (tD T) (m + k) := rfl
      have gx : gI (rowM s r (tD T)) 87 (m + k) = (wayF r (tD T) (m + k) : Int) := by
        show (if m + k < 7 then _ else _) = _
        rw [if_pos g4]
      have w1 := w64e (x := ((sumN (fun j => wayF r (tD T) (m + j)) k : Nat) : Int) + (wayF r (tD T) (m + k) : Int)) (by omega)
      have hw := wk1 (k := m + k) (by clear w1; omega)
      simp only [X13_most_b199_body]
      rw [if_neg g1]
      simp only [tF, isK, shF hSr, Int.toNat_natCast, gx, w1, hw, es]
      rw [if_pos (by decide), if_pos ⟨by decide, g2, g3⟩]
      rfl
    · have g1 : (6 : Int) < ((m + (7 - m) : Nat) : Int) := by omega
      have b1 := sb (7 - m)
      have e := m_frac (u := sumN (fun j => wayF r (tD T) (m + j)) (7 - m)) (l := 100 ^ tD T) (w := w) hSr (by omega) (Nat.lt_of_le_of_lt (p12 _ t6) (by decide)) (Nat.pow_pos (by decide))
      simp only [X13_most_b199_body]
      rw [if_pos g1, e]
      simp [tF, isK, shF hSr]
  have outer : X13_most_b89 FU (rowM s r 0) 76 m night w 1 0 = some (frF (sumN (fun j => wayF r (tD T) (m + j)) (7 - m)) (100 ^ tD T) w, fiM 0 (rowM s r (tD T))) := by
    unfold X13_most_b89
    refine iter_run (tD T) FU (fun k : Nat => (rowM s r k, (76 : Int), (m : Int), night, w, ((100 ^ k : Nat) : Int), (k : Int))) (fuel7 (by omega)) (fun k hk rec => ?_) (fun rec => ?_)
    · have hF := mF (hWk k).1
      have hSk := (hWk k).1.1
      have c4 := ((hWk k).1.2.2.2.2.2.1 k hk).2
      have e := m_chance (p := (tFo T k : Int)) (hWk k) hk hn
      rw [hunN_e hW.1.2.1, hrd] at e
      have pk := p12 k (by omega)
      have hi := mways_in (p := (m : Int)) (night := night) (w := w) (wh := ((100 ^ k : Nat) : Int)) hS hr (d := k) (by omega) (by clear hF e c4; generalize 100 ^ k = z at pk; omega) (fun (s : St) (x0 x1 x2 x3 x4 x6 : Int) => rec (s, x0, x1, x2, x3, x4, x6))
      have ep : ((100 ^ k : Nat) : Int) * 100 = ((100 ^ (k + 1) : Nat) : Int) := by rw [Nat.pow_succ]; push_cast; rfl
      rw [ep] at hi
      have g1 : ¬ tD T ≤ k := by omega
      have g2 : (k : Int) < 6 := by omega
      simp only [X13_most_b89_body]
      simp only [tF, isK, shF hSk, hF, c4, Int.toNat_natCast, e, hi]
      simp [g1, g2]
    · have hF := mF (hWk (tD T)).1
      have hSk := (hWk (tD T)).1.1
      simp only [X13_most_b89_body]
      simp only [tF, isK, shF hSk, hF, last]
      simp
  unfold X13_most_b56
  rw [show (s, (76 : Int), (m : Int), night, w, (1 : Int), (0 : Int)) = (fun k : Nat => (sR s 87 (fun j => if j < k then (wayF r 0 j : Int) else gI s 87 j), (76 : Int), (m : Int), night, w, (1 : Int), (k : Int))) 0 by
    simp [sR_self]]
  refine iter_run 7 FU (fun k : Nat => (sR s 87 (fun j => if j < k then (wayF r 0 j : Int) else gI s 87 j), (76 : Int), (m : Int), night, w, (1 : Int), (k : Int))) (by unfold FU; omega) (fun k hk rec => ?_) (fun rec => ?_)
  · have hf : ∀ x : Int, x = (wayF r 0 k : Int) → (fun j => if j = k then x else if j < k then (wayF r 0 j : Int) else gI s 87 j) = fun j => if j < k + 1 then (wayF r 0 j : Int) else gI s 87 j := by
      intro x hx
      funext j
      by_cases h1 : j = k
      · rw [if_pos h1, if_pos (by omega), hx, h1]
      · rw [if_neg h1]
        by_cases h2 : j < k
        · rw [if_pos h2, if_pos (by omega)]
        · rw [if_neg h2, if_neg (by omega)]
    have g1 : ¬ (6 : Int) < k := by omega
    have g2 : (k : Int) < 7 := by omega
    have hk6 : k ≤ 6000 := by omega
    have hw := wk1 hk6
    by_cases h0 : k = 0
    · subst h0
      have := hf 1 rfl
      simp at this
      simp [X13_most_b56_body, X13_most_b79, tF, sRF, isK, shF hS, sR_pI, this, show w32 1 = 1 from rfl]
    · have h0' : ¬ (k : Int) = 0 := by clear hw; omega
      have hz := hf 0 (by unfold wayF; rw [if_neg h0]; rfl)
      simp [X13_most_b56_body, X13_most_b79, tF, sRF, isK, shF hS, sR_pI, g1, g2, h0, h0', hz, hw]
  · simp only [X13_most_b56_body]
    rw [if_pos (by decide)]
    exact outer
end MOST2
