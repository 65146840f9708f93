/-! who is worth how much where; two who like to change -/
def wrD (T : Tw) (N : Nw) (night : Int) (p q D : Nat) : Nat := cnt (fun d => decide (tFo T d = p ∧ lisT T N (outT T N d (nHo N q) night) = (q : Int))) D
def wrT (T : Tw) (N : Nw) (night : Int) (p q : Nat) : Nat := wrD T N night p q (tD T)
/-- the seating's row -/
def WTH (s : St) (T : Tw) (N : Nw) (night : Int) : Prop := gI s 47 2 = (tP T : Int) ∧ ∀ p, p < tP T → ∀ q, q < tP T → gI s 48 (p * 6 + q) = (wrT T N night p q : Int)
/-- a loop's last state, the same whatever comes behind it -/
theorem iter_goU {α R : Type} {body : R → (α → Rs) → α → Rs} (I : Nat → α → Prop) (n : Nat)
    (hs : ∀ k, k < n → ∀ a, I k a → ∃ a', I (k + 1) a' ∧ ∀ rk rec, body rk rec a = rec a') :
    ∀ m, m ≤ n → ∀ a, I (n - m) a → ∃ a', I n a' ∧ ∀ rk fuel, m < fuel → iter (body rk) fuel a = body rk (iter (body rk) (fuel - m - 1)) a'
  | 0, _, a, hI => ⟨a, hI, fun rk fuel hf => by
    obtain ⟨g, rfl⟩ : ∃ g, fuel = g + 1 := ⟨fuel - 1, by omega⟩
    rfl⟩
  | m + 1, hm, a, hI => by
    obtain ⟨a1, h1, h2⟩ := hs (n - (m + 1)) (by omega) a hI
    rw [show n - (m + 1) + 1 = n - m by omega] at h1
    obtain ⟨a', h3, h4⟩ := iter_goU I n hs m (by omega) a1 h1
    refine ⟨a', h3, fun rk fuel hf => ?_⟩
    obtain ⟨g, rfl⟩ : ∃ g, fuel = g + 1 := ⟨fuel - 1, by omega⟩
    show body rk (iter (body rk) g) a = _
    rw [h2, h4 rk g (by omega), show g + 1 - (m + 1) - 1 = g - m - 1 by omega]
theorem iter_go {α R : Type} {body : R → (α → Rs) → α → Rs} (I : Nat → α → Prop) (n : Nat) (a : α) (h0 : I 0 a)
    (hs : ∀ k, k < n → ∀ a, I k a → ∃ a', I (k + 1) a' ∧ ∀ rk rec, body rk rec a = rec a') : ∃ a', I n a' ∧ ∀ rk fuel, n < fuel → iter (body rk) fuel a = body rk (iter (body rk) (fuel - n - 1)) a' :=
  iter_goU I n hs n (Nat.le_refl _) a (by rw [Nat.sub_self]; exact h0)
section WEIGH
variable {s : St} {T : Tw} {N : Nw} {t : Int} {night : Int}
theorem wrD_s (p q D : Nat) : wrD T N night p q (D + 1) = wrD T N night p q D + (if tFo T D = p ∧ lisT T N (outT T N D (nHo N q) night) = (q : Int) then 1 else 0) := by
  show cnt _ D + (if decide _ = true then 1 else 0) = _
  simp only [decide_eq_true_eq]
  rfl
theorem wrD_b (p q D : Nat) : wrD T N night p q D ≤ D := cnt_le _ _
theorem weigh_in {D : Nat} {s0 : St} (hW : WC T N s0) (hD : D < tD T) (hn : 0 ≤ night ∧ night ≤ 99) (hf : Fr cS s0 s) (h2 : gI s 47 2 = (tP T : Int)) (hr : ∀ p, p < tP T → ∀ q, q < tP T → gI s 48 (p * 6 + q) = (wrD T N night p q D : Int)) :
    ∃ s1, (∀ rk : St → Int → Int → Int → Int → Rs, X5_weigh_b51 rk FU s 47 31 night D 0 = rk s1 47 31 night ((D + 1 : Nat) : Int)) ∧ Fr cS s0 s1 ∧ gI s1 47 2 = (tP T : Int) ∧ ∀ p, p < tP T → ∀ q, q < tP T → gI s1 48 (p * 6 + q) = (wrD T N night p q (D + 1) : Int) := by
  have hT := hW.2.1
  have hN := hW.2.2.1
  obtain ⟨t1, t2, t3, t4, t5, t6, t7, t8⟩ := hT.1
  have l3 := (hT.2.1 D hD).2.2
  have hgo0 := iter_go (α := St × Int × Int × Int × Int × Int) (body := fun (rk37 : St → Int → Int → Int → Int → Rs) (rec : St × Int × Int × Int × Int × Int → Rs) (a : St × Int × Int × Int × Int × Int) => X5_weigh_b51_body rk37 (fun (s : St) (x0 x1 x2 x3 x4 : Int) => rec (s, x0, x1, x2, x3, x4)) a.1 a.2.1 a.2.2.1 a.2.2.2.1 a.2.2.2.2.1 a.2.2.2.2.2) (fun k a => a.2 = ((47 : Int), (31 : Int), night, (D : Int), (k : Int)) ∧ Fr cS s0 a.1 ∧ gI a.1 47 2 = (tP T : Int) ∧ ∀ p, p < tP T → ∀ q, q < tP T → gI a.1 48 (p * 6 + q) = (if q < k then (wrD T N night p q (D + 1) : Int) else (wrD T N night p q D : Int))) (tP T) (s, 47, 31, night, D, 0) ⟨rfl, hf, h2, fun p hp q hq => by rw [if_neg (by omega)]; exact hr p hp q hq⟩ (fun k hk (a : St × Int × Int × Int × Int × Int) ha => by
      obtain ⟨s4, a2⟩ := a
      obtain ⟨a1, a2, a3, a4⟩ := ha
      simp only at a1
      subst a1
      simp only at a2 a3 a4
      have hW4 := hW.cs a2
      have hS4 := hW4.1
      have hb := hN.2.1 k hk
      have e1 := hW4.2.2.2.2.1.1 k hk
      have e2 := lisAimed_e (aim := nHo N k) hW4 hD (by omega) hn
      have e3 := (hW4.2.2.2.1.2.1 D hD).2
      have g1 : ¬ tP T ≤ k := by omega
      have g2 : (k : Int) < 6 := by omega
      have g3 : (D : Int) < 6 := by omega
      have hk6 : k ≤ 6000 := by omega
      have i1 : ((tFo T D : Int) * 6 + (k : Int)).toNat = tFo T D * 6 + k := by omega
      have i2 : (0 : Int) ≤ (tFo T D : Int) * 6 + (k : Int) := by omega
      have i3 : (tFo T D : Int) * 6 + (k : Int) < 36 := by omega
      have wb := wrD_b (T := T) (N := N) (night := night) (tFo T D) k D
      have av := a4 (tFo T D) l3 k hk
      rw [if_neg (Nat.lt_irrefl k)] at av
      by_cases y : lisT T N (outT T N D (nHo N k) night) = (k : Int)
      · have hv : wrD T N night (tFo T D) k (D + 1) = wrD T N night (tFo T D) k D + 1 := by rw [wrD_s, if_pos ⟨rfl, y⟩]
        refine ⟨(pI s4 48 (tFo T D * 6 + k) ((wrD T N night (tFo T D) k D : Int) + 1), (47 : Int), (31 : Int), night, (D : Int), ((k + 1 : Nat) : Int)), ⟨rfl, a2.trans (Fr_pI (Or.inl (by simp))), ?_, fun p hp q hq => ?_⟩, fun rk rec => ?_⟩
        · show gI (pI s4 48 _ _) 47 2 = _
          rw [gI_pI, if_neg (by simp)]; exact a3
        · show gI (pI s4 48 _ _) 48 (p * 6 + q) = _
          rw [gI_pI]
          by_cases e : p * 6 + q = tFo T D * 6 + k
          · have ep : p = tFo T D ∧ q = k := by omega
            rw [if_pos ⟨rfl, e⟩, ep.1, ep.2, if_pos (Nat.lt_succ_self k), hv]
            simp
          · rw [if_neg (fun z => e z.2), a4 p hp q hq]
            by_cases z : q = k
            · have np : ¬ tFo T D = p := fun w => e (by rw [z, w])
              rw [z, if_neg (Nat.lt_irrefl k), if_pos (Nat.lt_succ_self k), wrD_s, if_neg (fun w => np w.1)]
              simp
            · by_cases z2 : q < k
              · rw [if_pos z2, if_pos (by omega)]
              · rw [if_neg z2, if_neg (by omega)]
        · have w6 : w32 ((tFo T D : Int) * 6) = (tFo T D : Int) * 6 := w32e (by omega)
          have w7 : w32 ((tFo T D : Int) * 6 + (k : Int)) = (tFo T D : Int) * 6 + (k : Int) := w32e (by clear w6; omega)
          have w8 : w32 ((wrD T N night (tFo T D) k D : Int) + 1) = (wrD T N night (tFo T D) k D : Int) + 1 := w32e (by clear w6 w7; omega)
          have hw := wk1 hk6
          simp [X5_weigh_b51_body, X5_weigh_b105, tF, isK, shF hS4, a3, g1, g2, g3, e1, e2, e3, y, w6, w7, w8, i1, i2, i3, av, hw]
      · refine ⟨(s4, (47 : Int), (31 : Int), night, (D : Int), ((k + 1 : Nat) : Int)), ⟨rfl, a2, a3, fun p hp q hq => ?_⟩, fun rk rec => ?_⟩
        · show gI s4 48 (p * 6 + q) = _
          rw [a4 p hp q hq]
          by_cases z : q = k
          · rw [z, if_neg (Nat.lt_irrefl k), if_pos (Nat.lt_succ_self k), wrD_s, if_neg (fun w => y w.2)]
            simp
          · by_cases z2 : q < k
            · rw [if_pos z2, if_pos (by omega)]
            · rw [if_neg z2, if_neg (by omega)]
        · have hw := wk1 hk6
          simp [X5_weigh_b51_body, X5_weigh_b105, tF, isK, shF hS4, a3, g1, g2, g3, e1, e2, e3, y, hw])
  obtain ⟨⟨s4, a0⟩, ⟨a1, a2, a3, a4⟩, hgo⟩ := hgo0
  · simp only at a1
    subst a1
    simp only at a2 a3 a4
    have hW4 := hW.cs a2
    have hS4 := hW4.1
    have hk6 : D ≤ 6000 := by omega
    refine ⟨s4, fun rk => ?_, a2, a3, fun p hp q hq => ?_⟩
    · refine (hgo rk FU (by unfold FU; omega)).trans ?_
      have hw := wk1 hk6
      simp [X5_weigh_b51_body, tF, isK, shF hS4, a3, hw]
    · have := a4 p hp q hq
      rw [if_pos hq] at this
      exact this
theorem weigh_e (hW : WC T N s) (hn : 0 ≤ night ∧ night ≤ 99) : ∃ s1, X5_weigh s 47 31 night = some (0, s1) ∧ Fr cS s s1 ∧ WTH s1 T N night := by
  have hT := hW.2.1
  have hS := hW.1
  obtain ⟨t1, t2, t3, t4, t5, t6, t7, t8⟩ := hT.1
  have c2 := hW.2.2.2.1.1.2.2.1
  have outer : ∀ s2, Fr cS s s2 → gI s2 47 2 = (tP T : Int) → (∀ p, p < tP T → ∀ q, q < tP T → gI s2 48 (p * 6 + q) = 0) → ∃ s1, X5_weigh_b37 FU s2 47 31 night 0 = some (0, s1) ∧ Fr cS s s1 ∧ WTH s1 T N night := by
    intro s2 hf h2 hz
    unfold X5_weigh_b37
    refine iter_inv (Q := fun F => ∃ s1, F = some (0, s1) ∧ Fr cS s s1 ∧ WTH s1 T N night) (fun k a => a.2 = ((47 : Int), (31 : Int), night, (k : Int)) ∧ Fr cS s a.1 ∧ gI a.1 47 2 = (tP T : Int) ∧ ∀ p, p < tP T → ∀ q, q < tP T → gI a.1 48 (p * 6 + q) = (wrD T N night p q k : Int)) (tD T) FU _ (by unfold FU; omega) ⟨rfl, hf, h2, hz⟩ (fun k hk a ha => ?_) (fun a ha rec => ?_)
    · obtain ⟨s4, a2⟩ := a
      obtain ⟨a1, a2, a3, a4⟩ := ha
      simp only at a1
      subst a1
      simp only at a2 a3 a4
      have hW4 := hW.cs a2
      have hS4 := hW4.1
      have c3 := hW4.2.2.2.1.1.2.2.2.1
      have g1 : ¬ tD T ≤ k := by omega
      obtain ⟨s5, f1, f2, f3, f4⟩ := weigh_in hW hk hn a2 a3 a4
      refine ⟨(s5, (47 : Int), (31 : Int), night, ((k + 1 : Nat) : Int)), ⟨rfl, f2, f3, f4⟩, fun rec => ?_⟩
      simp only [X5_weigh_b37_body]
      rw [f1]
      simp [tF, isK, shF hS4, c3, g1]
    · obtain ⟨s4, a2⟩ := a
      obtain ⟨a1, a2, a3, a4⟩ := ha
      simp only at a1
      subst a1
      simp only at a2 a3 a4
      have hW4 := hW.cs a2
      have hS4 := hW4.1
      have c3 := hW4.2.2.2.1.1.2.2.2.1
      exact ⟨s4, by simp [X5_weigh_b37_body, tF, isK, shF hS4, c3], a2, a3, a4⟩
  have hS2 : Sh (pI s 47 2 (tP T : Int)) := hS
  have z : X5_weigh_b13 FU (pI s 47 2 (tP T : Int)) 47 31 night 0 = X5_weigh_b37 FU (sR (pI s 47 2 (tP T : Int)) 48 (fun j => if j < 36 then 0 else gI s 48 j)) 47 31 night 0 := by
    have e48 : ∀ k, gI (pI s 47 2 (tP T : Int)) 48 k = gI s 48 k := fun k => by rw [gI_pI, if_neg (by simp)]
    unfold X5_weigh_b13
    rw [show (pI s 47 2 (tP T : Int), (47 : Int), (31 : Int), night, (0 : Int)) = (fun k : Nat => (sR (pI s 47 2 (tP T : Int)) 48 (fun j => if j < k then 0 else gI s 48 j), (47 : Int), (31 : Int), night, (k : Int))) 0 by
      have : (fun j => if j < 0 then 0 else gI s 48 j) = fun j => gI (pI s 47 2 (tP T : Int)) 48 j := by
        funext j; rw [if_neg (by omega), e48]
      simp only [this, sR_self]
      rfl]
    refine iter_run 36 FU (fun k : Nat => (sR (pI s 47 2 (tP T : Int)) 48 (fun j => if j < k then 0 else gI s 48 j), (47 : Int), (31 : Int), night, (k : Int))) (by unfold FU; omega) (fun k hk rec => ?_) (fun rec => ?_)
    · have g1 : ¬ (36 : Int) ≤ k := by omega
      have g2 : (k : Int) < 36 := by omega
      have hk6 : k ≤ 6000 := by omega
      have hf : (fun j => if j = k then (0 : Int) else if j < k then 0 else gI s 48 j) = fun j => if j < k + 1 then 0 else gI s 48 j := by
        funext j
        by_cases h1 : j = k
        · rw [if_pos h1, if_pos (by omega)]
        · rw [if_neg h1]
          by_cases h2 : j < k
          · rw [if_pos h2, if_pos (by omega)]
          · rw [if_neg h2, if_neg (by omega)]
      have hw := wk1 hk6
      simp [X5_weigh_b13_body, tF, sRF, isK, shF hS, g1, g2, sR_pI, hf, hw]
    · simp [X5_weigh_b13_body, tF, sRF, isK, shF hS]
  obtain ⟨s1, f1, f2, f3⟩ := outer (sR (pI s 47 2 (tP T : Int)) 48 (fun j => if j < 36 then 0 else gI s 48 j)) ((Fr_pI (Or.inl (by simp))).trans (Fr_sR (Or.inl (by simp)))) (by rw [gI_sR]; simp [gI_pI]) (fun p hp q hq => by rw [gI_sR]; simp; omega)
  refine ⟨s1, ?_, f2, f3⟩
  unfold X5_weigh
  simp [tF, isK, shF hS, c2, z, f1]
end WEIGH
