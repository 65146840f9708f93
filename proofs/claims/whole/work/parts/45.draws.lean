/-! most as a call; draws -/
def nxS (x : Int) : Int := (75 * x + 74) % 65537
def sdF (seed : Int) (k : Nat) : Int := fo (fun _ x => nxS x) seed k
theorem nxS_b (x : Int) : 0 ≤ nxS x ∧ nxS x ≤ 65536 := by
  have h1 := Int.emod_nonneg (75 * x + 74) (b := 65537) (by decide)
  have h2 := Int.emod_lt_of_pos (75 * x + 74) (b := 65537) (by decide)
  unfold nxS
  omega
theorem sdF_b {seed : Int} (h : 0 ≤ seed ∧ seed ≤ 65536) : ∀ k, 0 ≤ sdF seed k ∧ sdF seed k ≤ 65536
  | 0 => h
  | _ + 1 => nxS_b _
def drT (T : Tw) (N : Nw) (d : Nat) (night x : Int) : Int := if (tL T : Int) ≤ x % 100 then heaT T N d night else furT T N d night
section DRAWS
variable {s : St} {T : Tw} {N : Nw} {t : Int} {d : Nat} {night x seed : Int}
theorem draw_e (hS : Sh s) (hx : 0 ≤ gI s 57 1 ∧ gI s 57 1 ≤ 65536) : X2_draw s 57 = some (nxS (gI s 57 1) % 100, pI s 57 1 (nxS (gI s 57 1))) := by
  have b := nxS_b (gI s 57 1)
  have e1 : Int.tmod (75 * gI s 57 1 + 74) 65537 = nxS (gI s 57 1) := by
    unfold nxS
    rw [Int.tmod_eq_emod_of_nonneg (by omega)]
  have e2 : Int.tmod (nxS (gI s 57 1)) 100 = nxS (gI s 57 1) % 100 := Int.tmod_eq_emod_of_nonneg b.1
  have w2 : w32 (75 * gI s 57 1) = 75 * gI s 57 1 := w32e (by clear e1 e2; omega)
  have w1 : w32 (75 * gI s 57 1 + 74) = 75 * gI s 57 1 + 74 := w32e (by clear e1 e2 w2; omega)
  unfold X2_draw
  simp [tF, isK, shF hS, gI_pI, w2, w1, e1, e2]
theorem drawn_e (hW : WC T N s) (hd : d < tD T) (hn : 0 ≤ night ∧ night ≤ 99) (hx : 0 ≤ gI s 57 1 ∧ gI s 57 1 ≤ 65536) : X2_drawnListener s 57 31 d night = some (drT T N d night (nxS (gI s 57 1)), pI s 57 1 (nxS (gI s 57 1))) := by
  have hS := hW.1
  have e := draw_e hS hx
  have hW1 : WC T N (pI s 57 1 (nxS (gI s 57 1))) := hW.cs (Fr_pI (Or.inr (Or.inr (Or.inl rfl))))
  have e1 := w_lis hW1 hd hn
  have e2 := furtherOn_e hW1 hd hn
  have c1 := hW1.2.2.2.1.1.2.1
  unfold X2_drawnListener drT X2_drawnListener_b29
  by_cases h : (tL T : Int) ≤ nxS (gI s 57 1) % 100 <;>
  simp [tF, isK, shF hS, e, e1, e2, c1, h]
theorem skip_e {m : Nat} (hS : Sh s) (hm : m ≤ 700) (hx : gI s 57 1 = seed) (hs : 0 ≤ seed ∧ seed ≤ 65536) : X2_skip s 57 m = some (0, pI s 57 1 (sdF seed m)) := by
  unfold X2_skip X2_skip_b2
  rw [show (s, (57 : Int), (m : Int), (0 : Int)) = (fun k : Nat => (pI s 57 1 (sdF seed k), (57 : Int), (m : Int), (k : Int))) 0 by
    show _ = (pI s 57 1 seed, (57 : Int), (m : Int), (0 : Int))
    rw [← hx, pI_self]]
  refine iter_run m FU (fun k : Nat => (pI s 57 1 (sdF seed k), (57 : Int), (m : Int), (k : Int))) (by unfold FU; omega) (fun k hk rec => ?_) (fun rec => ?_)
  · have hSk : Sh (pI s 57 1 (sdF seed k)) := hS
    have hg : gI (pI s 57 1 (sdF seed k)) 57 1 = sdF seed k := by rw [gI_pI]; simp
    have e := draw_e hSk (by rw [hg]; exact sdF_b hs k)
    rw [hg, pI_pI] at e
    have es : sdF seed (k + 1) = nxS (sdF seed k) := rfl
    have g1 : ¬ (m : Int) ≤ k := by omega
    have g2 : ¬ m ≤ k := by omega
    have hk6 : k ≤ 6000 := by omega
    have hw := wk1 hk6
    simp [X2_skip_b2_body, tF, isK, shF hS, g1, g2, e, es, hw]
  · simp [X2_skip_b2_body]
theorem m_further (hM : MW T t s) (hx : 0 ≤ gI s 76 32 ∧ gI s 76 32 ≤ 65536) : X13_further s 76 = some (if (tL T : Int) ≤ nxS (gI s 76 32) % 100 then 0 else 1, pI s 76 32 (nxS (gI s 76 32))) := by
  have hS := hM.1
  have hF := mF hM
  have hF1 := mF (hM.tr 32 (nxS (gI s 76 32)))
  have b := nxS_b (gI s 76 32)
  have e1 : Int.tmod (75 * gI s 76 32 + 74) 65537 = nxS (gI s 76 32) := by
    unfold nxS
    rw [Int.tmod_eq_emod_of_nonneg (by omega)]
  have e2 : Int.tmod (nxS (gI s 76 32)) 100 = nxS (gI s 76 32) % 100 := Int.tmod_eq_emod_of_nonneg b.1
  have w3 : w32 (nxS (gI s 76 32)) = nxS (gI s 76 32) := w32e (by clear e1 e2 hF hF1; omega)
  have w2 : w64 (75 * gI s 76 32) = 75 * gI s 76 32 := w64e (by clear e1 e2 hF hF1 w3; omega)
  have w1 : w64 (75 * gI s 76 32 + 74) = 75 * gI s 76 32 + 74 := w64e (by clear e1 e2 hF hF1 w3 w2; omega)
  have c1 := hF1.2.2.2.2.2.2.2.1
  have hgx : gI (pI s 76 32 (nxS (gI s 76 32))) 76 32 = nxS (gI s 76 32) := by rw [gI_pI]; simp
  unfold X13_further X13_further_b44
  by_cases h : (tL T : Int) ≤ nxS (gI s 76 32) % 100 <;>
  simp [tF, isK, shF hS, hF.1, w3, w2, w1, e1, e2, c1, hgx, h]
theorem m_hearer {f : Int} (hW : WM T N t s) (hd : d < tD T) (hn : 0 ≤ night ∧ night ≤ 99) : X13_hearerBy s 76 d night (if (tL T : Int) ≤ x % 100 then 0 else 1) = some (drT T N d night x, s) := by
  unfold drT
  by_cases h : (tL T : Int) ≤ x % 100
  · rw [if_pos h, if_pos h]; exact m_hearer0 hW hd hn
  · rw [if_neg h, if_neg h]; exact m_hearer1 hW hd hn
theorem r_heardBy {m : Nat} (hW : WM T N t s) (hd : d < tD T) (hn : 0 ≤ night ∧ night ≤ 99) (hm : m ≤ 700) (hx : gI s 76 32 = seed) (hs : 0 ≤ seed ∧ seed ≤ 65536) : X13_heardBy_b71 FU s 76 d night 0 m = some (drT T N d night (sdF seed (m + 1)), fiM 0 (pI s 76 32 (sdF seed (m + 1)))) := by
  have hS := hW.1.1
  unfold X13_heardBy_b71
  rw [show (s, (76 : Int), (d : Int), night, (0 : Int), (m : Int)) = (fun k : Nat => (pI s 76 32 (sdF seed k), (76 : Int), (d : Int), night, (if k = 0 then (0 : Int) else if (tL T : Int) ≤ sdF seed k % 100 then 0 else 1), (m : Int) - (k : Int))) 0 by
    show _ = (pI s 76 32 seed, (76 : Int), (d : Int), night, (0 : Int), (m : Int) - 0)
    rw [← hx, pI_self, Int.sub_zero]]
  refine iter_run (m + 1) FU (fun k : Nat => (pI s 76 32 (sdF seed k), (76 : Int), (d : Int), night, (if k = 0 then (0 : Int) else if (tL T : Int) ≤ sdF seed k % 100 then 0 else 1), (m : Int) - (k : Int))) (by unfold FU; omega) (fun k hk rec => ?_) (fun rec => ?_)
  · have hMk := hW.1.tr 32 (sdF seed k)
    have hg : gI (pI s 76 32 (sdF seed k)) 76 32 = sdF seed k := by rw [gI_pI]; simp
    have e := m_further hMk (by rw [hg]; exact sdF_b hs k)
    rw [hg, pI_pI] at e
    have es : sdF seed (k + 1) = nxS (sdF seed k) := rfl
    have g1 : ¬ (m : Int) - (k : Int) < 0 := by omega
    have hw : w32 ((m : Int) - (k : Int) + -1) = (m : Int) - ((k + 1 : Nat) : Int) := by rw [w32e (by omega)]; omega
    simp only [X13_heardBy_b71_body, hw, es]
    rw [if_neg g1, e]
    simp [tF, isK, shF hS]
  · have hWk := hW.tr 32 (sdF seed (m + 1))
    have e := m_hearer (x := sdF seed (m + 1)) (f := 0) hWk hd hn
    have g1 : (m : Int) - ((m + 1 : Nat) : Int) < 0 := by omega
    have hSk : Sh (pI s 76 32 (sdF seed (m + 1))) := hS
    simp only [X13_heardBy_b71_body]
    rw [if_pos g1, if_neg (by omega), e]
    simp [tF, isK, shF hS, m_good hSk]
def rgI (T : Tw) (N : Nw) (night : Int) (b : Nat × Int) (D : Nat) : Nat × Int := fo (fun d p => (p.1 + (if drT T N d night (nxS p.2) = (tFo T d : Int) then 1 else 0), nxS p.2)) b D
def rgO (T : Tw) (N : Nw) (seed : Int) (n : Nat) : Nat × Int := fo (fun k p => rgI T N (k : Int) p (tD T)) (0, seed) n
theorem rgI_b (T : Tw) (N : Nw) (night : Int) (b : Nat × Int) (hb : 0 ≤ b.2 ∧ b.2 ≤ 65536) : ∀ D, (rgI T N night b D).1 ≤ b.1 + D ∧ 0 ≤ (rgI T N night b D).2 ∧ (rgI T N night b D).2 ≤ 65536
  | 0 => ⟨Nat.le_refl _, hb⟩
  | D + 1 => by
    obtain ⟨h1, h2⟩ := rgI_b T N night b hb D
    refine ⟨?_, nxS_b _⟩
    show (rgI T N night b D).1 + _ ≤ _
    split <;> omega
theorem rgO_b (T : Tw) (N : Nw) (hT : tD T ≤ 6) {seed : Int} (hb : 0 ≤ seed ∧ seed ≤ 65536) : ∀ n, (rgO T N seed n).1 ≤ 6 * n ∧ 0 ≤ (rgO T N seed n).2 ∧ (rgO T N seed n).2 ≤ 65536
  | 0 => ⟨Nat.le_refl _, hb⟩
  | n + 1 => by
    obtain ⟨h1, h2⟩ := rgO_b T N hT hb n
    obtain ⟨h3, h4⟩ := rgI_b T N (n : Int) (rgO T N seed n) h2 (tD T)
    refine ⟨?_, h4⟩
    show (rgI T N (n : Int) (rgO T N seed n) (tD T)).1 ≤ _
    omega
theorem l_rights {n : Nat} (hW : WC T N s) (hn : n ≤ 99) (hx : gI s 57 1 = seed) (hs : 0 ≤ seed ∧ seed ≤ 65536) : X11_rights_b45 FU s 0 n 0 0 = some (((rgO T N seed n).1 : Int), pI s 57 1 (rgO T N seed n).2) := by
  have hS := hW.1
  have t6 := hW.2.1.1.2.2.2.2.2.1
  unfold X11_rights_b45
  rw [show (s, (0 : Int), (n : Int), (0 : Int), (0 : Int)) = (fun k : Nat => (pI s 57 1 (rgO T N seed k).2, (0 : Int), (n : Int), ((rgO T N seed k).1 : Int), (k : Int))) 0 by
    show _ = (pI s 57 1 seed, (0 : Int), (n : Int), (0 : Int), (0 : Int))
    rw [← hx, pI_self]]
  refine iter_run n FU (fun k : Nat => (pI s 57 1 (rgO T N seed k).2, (0 : Int), (n : Int), ((rgO T N seed k).1 : Int), (k : Int))) (by unfold FU; omega) (fun k hk rec => ?_) (fun rec => ?_)
  · obtain ⟨o1, o2⟩ := rgO_b T N t6 hs k
    generalize hb : rgO T N seed k = b at o1 o2
    have inner : X11_rights_b54 (fun (s : St) (x0 x2 x3 x4 : Int) => rec (s, x0, x2, x3, x4)) FU (pI s 57 1 b.2) 0 n b.1 k 0 = rec (pI s 57 1 (rgI T N (k : Int) b (tD T)).2, (0 : Int), (n : Int), ((rgI T N (k : Int) b (tD T)).1 : Int), ((k + 1 : Nat) : Int)) := by
      unfold X11_rights_b54
      refine iter_run (tD T) FU (fun j : Nat => (pI s 57 1 (rgI T N (k : Int) b j).2, (0 : Int), (n : Int), ((rgI T N (k : Int) b j).1 : Int), (k : Int), (j : Int))) (fuel7 (by omega)) (fun j hj rec2 => ?_) (fun rec2 => ?_)
      · obtain ⟨i1, i2⟩ := rgI_b T N (k : Int) b o2 j
        have es : rgI T N (k : Int) b (j + 1) = ((rgI T N (k : Int) b j).1 + (if drT T N j (k : Int) (nxS (rgI T N (k : Int) b j).2) = (tFo T j : Int) then 1 else 0), nxS (rgI T N (k : Int) b j).2) := rfl
        generalize rgI T N (k : Int) b j = c at i1 i2 es
        have hWj : WC T N (pI s 57 1 c.2) := hW.cs (Fr_pI (Or.inr (Or.inr (Or.inl rfl))))
        have hWj1 : WC T N (pI s 57 1 (nxS c.2)) := hW.cs (Fr_pI (Or.inr (Or.inr (Or.inl rfl))))
        have hg : gI (pI s 57 1 c.2) 57 1 = c.2 := by rw [gI_pI]; simp
        have e := drawn_e (d := j) (night := (k : Int)) hWj hj (by omega) (by rw [hg]; exact i2)
        rw [hg, pI_pI] at e
        have c3 := hWj.2.2.2.1.1.2.2.2.1
        have c4 := (hWj1.2.2.2.1.2.1 j hj).2
        have g1 : ¬ tD T ≤ j := by omega
        have g2 : (j : Int) < 6 := by omega
        have hj6 : j ≤ 6000 := by omega
        have hc6 : c.1 ≤ 6000 := by omega
        have hw := wk1 hj6
        have hw2 := wk1 hc6
        by_cases h : drT T N j (k : Int) (nxS c.2) = (tFo T j : Int)
        · rw [if_pos h] at es
          simp [X11_rights_b54_body, X11_rights_b97, tF, isK, shF hS, c3, c4, g1, g2, e, h, es, hw, hw2]
        · rw [if_neg h] at es
          simp [X11_rights_b54_body, X11_rights_b97, tF, isK, shF hS, c3, c4, g1, g2, e, h, es, hw]
      · have hWj : WC T N (pI s 57 1 (rgI T N (k : Int) b (tD T)).2) := hW.cs (Fr_pI (Or.inr (Or.inr (Or.inl rfl))))
        have c3 := hWj.2.2.2.1.1.2.2.2.1
        have hk6 : k ≤ 6000 := by omega
        have hw := wk1 hk6
        simp [X11_rights_b54_body, tF, isK, shF hS, c3, hw]
    have es : rgO T N seed (k + 1) = rgI T N (k : Int) (rgO T N seed k) (tD T) := rfl
    have g1 : ¬ (n : Int) ≤ k := by omega
    simp only [X11_rights_b45_body, es, hb]
    rw [if_neg g1, inner]
  · simp [X11_rights_b45_body]
theorem r_rights {n : Nat} (hW : WM T N t s) (hn : n ≤ 99) (hx : gI s 76 32 = seed) (hs : 0 ≤ seed ∧ seed ≤ 65536) : X13_rights_b59 FU s 76 n 0 0 = some (((rgO T N seed n).1 : Int), fiM 0 (pI s 76 32 (rgO T N seed n).2)) := by
  have hS := hW.1.1
  have t6 := hW.1.2.1.1.2.2.2.2.2.1
  unfold X13_rights_b59
  rw [show (s, (76 : Int), (n : Int), (0 : Int), (0 : Int)) = (fun k : Nat => (pI s 76 32 (rgO T N seed k).2, (76 : Int), (n : Int), ((rgO T N seed k).1 : Int), (k : Int))) 0 by
    show _ = (pI s 76 32 seed, (76 : Int), (n : Int), (0 : Int), (0 : Int))
    rw [← hx, pI_self]]
  refine iter_run n FU (fun k : Nat => (pI s 76 32 (rgO T N seed k).2, (76 : Int), (n : Int), ((rgO T N seed k).1 : Int), (k : Int))) (by unfold FU; omega) (fun k hk rec => ?_) (fun rec => ?_)
  · obtain ⟨o1, o2⟩ := rgO_b T N t6 hs k
    generalize hb : rgO T N seed k = b at o1 o2
    have inner : X13_rights_b68 (fun (s : St) (x0 x2 x3 x4 : Int) => rec (s, x0, x2, x3, x4)) FU (pI s 76 32 b.2) 76 n b.1 k 0 = rec (pI s 76 32 (rgI T N (k : Int) b (tD T)).2, (76 : Int), (n : Int), ((rgI T N (k : Int) b (tD T)).1 : Int), ((k + 1 : Nat) : Int)) := by
      unfold X13_rights_b68
      refine iter_run (tD T) FU (fun j : Nat => (pI s 76 32 (rgI T N (k : Int) b j).2, (76 : Int), (n : Int), ((rgI T N (k : Int) b j).1 : Int), (k : Int), (j : Int))) (fuel7 (by omega)) (fun j hj rec2 => ?_) (fun rec2 => ?_)
      · obtain ⟨i1, i2⟩ := rgI_b T N (k : Int) b o2 j
        have es : rgI T N (k : Int) b (j + 1) = ((rgI T N (k : Int) b j).1 + (if drT T N j (k : Int) (nxS (rgI T N (k : Int) b j).2) = (tFo T j : Int) then 1 else 0), nxS (rgI T N (k : Int) b j).2) := rfl
        generalize rgI T N (k : Int) b j = c at i1 i2 es
        have hMj := hW.1.tr 32 c.2
        have hWj1 := hW.tr 32 (nxS c.2)
        have hg : gI (pI s 76 32 c.2) 76 32 = c.2 := by rw [gI_pI]; simp
        have e := m_further hMj (by rw [hg]; exact i2)
        rw [hg, pI_pI] at e
        have e2 := m_hearer (x := nxS c.2) (d := j) (night := (k : Int)) (f := 0) hWj1 hj (by omega)
        have hF := mF hMj
        have hF1 := mF hWj1.1
        have c4 := (hWj1.1.2.2.2.2.2.1 j hj).2
        have g1 : ¬ tD T ≤ j := by omega
        have g2 : (j : Int) < 6 := by omega
        have hj6 : j ≤ 6000 := by omega
        have hc6 : c.1 ≤ 6000 := by omega
        have hw := wk1 hj6
        have hw2 := wk1 hc6
        have hw3 := wk0 hc6
        have hF' := mF hW.1
        by_cases h : drT T N j (k : Int) (nxS c.2) = (tFo T j : Int)
        · rw [if_pos h] at es
          simp [X13_rights_b68_body, X13_rights_b111, tF, isK, shF hS, hF', hF.2.2.2.2.2.2, c4, g1, g2, e, e2, h, es, hw, hw2]
        · rw [if_neg h] at es
          simp [X13_rights_b68_body, X13_rights_b111, tF, isK, shF hS, hF', hF.2.2.2.2.2.2, c4, g1, g2, e, e2, h, es, hw, hw3]
      · have hF := mF (hW.1.tr 32 (rgI T N (k : Int) b (tD T)).2)
        have hF' := mF hW.1
        have hk6 : k ≤ 6000 := by omega
        have hw := wk1 hk6
        simp [X13_rights_b68_body, tF, isK, shF hS, hF', hF.2.2.2.2.2.2, hw]
    have es : rgO T N seed (k + 1) = rgI T N (k : Int) (rgO T N seed k) (tD T) := rfl
    have g1 : ¬ (n : Int) ≤ k := by omega
    simp only [X13_rights_b59_body, es, hb]
    rw [if_neg g1, inner]
  · have hSk : Sh (pI s 76 32 (rgO T N seed n).2) := hS
    simp [X13_rights_b59_body, tF, isK, shF hS, m_good hSk]
end DRAWS
