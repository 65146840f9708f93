/-! which sets fit: the reference -/
def fitB (T : Tw) (x : Nat) : Bool := decide (notT T x = -2)
def somF (T : Tw) (n : Nat) : Nat := fo (fun x a => if fitB T x = true then a ||| x else a) 0 n
def eveF (T : Tw) (n : Nat) : Nat := fo (fun x a => if fitB T x = true then a &&& x else a) (2 ^ tU T - 1) n
def othF (T : Tw) (k n : Nat) : Nat := cnt (fun x => fitB T x && bitB x k) n
def fouF (T : Tw) (i : Int) (n : Nat) : Int := fo (fun x r => if fitB T x = true ∧ ((cnt (fitB T) x : Nat) : Int) = i then (x : Int) else r) (-1) n
def ficT (T : Tw) : Nat := cnt (fitB T) (2 ^ tU T)
theorem or16 : ∀ a : Nat, a < 16 → ∀ b : Nat, b < 16 → or32 (a : Int) (b : Int) = ((a ||| b : Nat) : Int) := by decide +kernel
theorem and16 : ∀ a : Nat, a < 16 → ∀ b : Nat, b < 16 → and32 (a : Int) (b : Int) = ((a &&& b : Nat) : Int) := by decide +kernel
theorem shl4 : ∀ k : Nat, k ≤ 4 → shl32 1 (k : Int) = ((2 ^ k : Nat) : Int) := by decide +kernel
theorem pow4 {k : Nat} (h : k ≤ 4) : 2 ^ k ≤ 16 := Nat.pow_le_pow_right (by decide : 0 < 2) h
theorem somF_b (T : Tw) : ∀ n, n ≤ 16 → somF T n < 16
  | 0, _ => by show 0 < 16; decide
  | n + 1, h => by
    have ih := somF_b T n (by omega)
    show (if fitB T n = true then somF T n ||| n else somF T n) < 16
    split
    · exact Nat.or_lt_two_pow (n := 4) ih (by omega)
    · exact ih
theorem eveF_b {T : Tw} (hT : tU T ≤ 4) : ∀ n, eveF T n < 16
  | 0 => by
    have := pow4 hT
    show 2 ^ tU T - 1 < 16
    omega
  | n + 1 => by
    have ih := eveF_b hT n
    show (if fitB T n = true then eveF T n &&& n else eveF T n) < 16
    split
    · exact Nat.lt_of_le_of_lt Nat.and_le_left ih
    · exact ih
/-- what the reference keeps of the fits -/
def FV (T : Tw) (s : St) : Prop := gI s 76 26 = (ficT T : Int) ∧ gI s 76 27 = (somF T (2 ^ tU T) : Int) ∧ gI s 76 28 = (if ficT T = 0 then 0 else (eveF T (2 ^ tU T) : Int)) ∧ ∀ k, k < tU T → gI s 86 k = (othF T k (2 ^ tU T) : Int)
section FITTING
variable {s : St} {T : Tw} {N : Nw} {t : Int} {x : Nat} {i : Int}
theorem MW.mv {s1 : St} (hM : MW T t s) (h : Mv s s1) : MW T t s1 := hM.fr h.1 (fun a ha q => by unfold mS at q; omega)
theorem fit_in {fd : Int} (hM : MW T t s) (hx : x < 16) (hb : ∀ k, k < tU T → 0 ≤ gI s 86 k ∧ gI s 86 k ≤ 16) (rk : St → Int → Int → Int → Int → Rs) : X13_fitting_b118 rk FU s 76 i fd x 0 = rk (sR s 86 (fun j => if j < tU T then gI s 86 j + (if bitB x j = true then 1 else 0) else gI s 86 j)) 76 i fd ((x + 1 : Nat) : Int) := by
  have hS := hM.1
  have hF := mF hM
  have t7 := hM.2.1.1.2.2.2.2.2.2.1
  have h8 : ¬ t.toNat = 86 := by have := hM.2.2.2.1; omega
  unfold X13_fitting_b118
  rw [show (s, (76 : Int), i, fd, (x : Int), (0 : Int)) = (fun k : Nat => (sR s 86 (fun j => if j < k then gI s 86 j + (if bitB x j = true then 1 else 0) else gI s 86 j), (76 : Int), i, fd, (x : Int), (k : Int))) 0 by
    simp [sR_self]]
  refine iter_run (tU T) FU (fun k : Nat => (sR s 86 (fun j => if j < k then gI s 86 j + (if bitB x j = true then 1 else 0) else gI s 86 j), (76 : Int), i, fd, (x : Int), (k : Int))) (by clear hF; unfold FU; omega) (fun k hk rec => ?_) (fun rec => ?_)
  · have g1 : ¬ tU T ≤ k := by clear hF; omega
    have g2 : (k : Int) < 4 := by clear hF; omega
    have hk6 : k ≤ 6000 := by clear hF; omega
    have b1 := hb k hk
    have eb := bit_e (s := sR s 86 (fun j => if j < k then gI s 86 j + (if bitB x j = true then 1 else 0) else gI s 86 j)) (x := x) (k := k) (by clear hF; omega) (by clear hF; omega)
    have hf : ∀ v : Int, v = gI s 86 k + (if bitB x k = true then 1 else 0) → (fun j => if j = k then v else if j < k then gI s 86 j + (if bitB x j = true then 1 else 0) else gI s 86 j) = fun j => if j < k + 1 then gI s 86 j + (if bitB x j = true then 1 else 0) else gI s 86 j := by
      intro v hv
      funext j
      by_cases h1 : j = k
      · rw [if_pos h1, if_pos (by clear hF; omega), hv, h1]
      · rw [if_neg h1]
        by_cases h2 : j < k
        · rw [if_pos h2, if_pos (show j < k + 1 by clear hF; omega)]
        · rw [if_neg h2, if_neg (show ¬ j < k + 1 by clear hF; omega)]
    have w1 : w32 (gI s 86 k + 1) = gI s 86 k + 1 := w32e (by clear hF; omega)
    have w0 : w32 (gI s 86 k) = gI s 86 k := w32e (by clear hF w1; omega)
    have hw := wk1 hk6
    by_cases h : bitB x k = true
    · have hf1 := hf (gI s 86 k + 1) (by rw [if_pos h])
      simp [X13_fitting_b118_body, X13_fitting_b152, tF, sRF, isK, shF hS, gI_sR, hF, h8, g1, g2, eb, h, w1, sR_pI, hf1, hw]
    · have hf1 := hf (gI s 86 k) (by rw [if_neg h]; simp)
      simp [X13_fitting_b118_body, X13_fitting_b152, tF, sRF, isK, shF hS, gI_sR, hF, h8, g1, g2, eb, h, w0, sR_pI, hf1, hw]
  · have hx6 : x ≤ 6000 := by clear hF; omega
    have hw := wk1 hx6
    simp [X13_fitting_b118_body, X13_fitting_b160, tF, sRF, isK, shF hS, gI_sR, hF, h8, hw]
theorem m_fitting (hT : TFK T) (hM : MW T t s) (i : Int) : ∃ s1, X13_fitting s 76 i = some (fouF T i (2 ^ tU T), s1) ∧ Mv s s1 ∧ FV T s1 := by
  have hS := hM.1
  have hF := mF hM
  have t7 := hT.1.1.2.2.2.2.2.2.1
  have p4 := pow4 t7
  have e4 := shl4 (tU T) t7
  have pp : 0 < 2 ^ tU T := Nat.pow_pos (by decide)
  let I : Nat → St × Int × Int × Int × Int → Prop := fun x a => a.2 = ((76 : Int), i, fouF T i x, (x : Int)) ∧ Mv s a.1 ∧ gI a.1 76 26 = ((cnt (fitB T) x : Nat) : Int) ∧ gI a.1 76 27 = (somF T x : Int) ∧ gI a.1 76 28 = (eveF T x : Int) ∧ ∀ k, k < tU T → gI a.1 86 k = (othF T k x : Int)
  have main : ∀ s3 : St, I 0 (s3, 76, i, -1, 0) → ∃ s1, X13_fitting_b49 FU s3 76 i (-1) 0 = some (fouF T i (2 ^ tU T), s1) ∧ Mv s s1 ∧ FV T s1 := by
    intro s3 h3
    unfold X13_fitting_b49
    refine iter_inv (Q := fun F => ∃ s1, F = some (fouF T i (2 ^ tU T), s1) ∧ Mv s s1 ∧ FV T s1) I (2 ^ tU T) FU (s3, 76, i, -1, 0) (by clear hF; unfold FU; omega) h3 (fun x hx a ha => ?_) (fun a ha rec => ?_)
    · obtain ⟨s4, a2⟩ := a
      obtain ⟨a1, a2, a3, a4, a5, a6⟩ := ha
      simp only at a1
      subst a1
      simp only at a2 a3 a4 a5 a6
      have hM4 := hM.mv a2
      have hS4 := hM4.1
      have hF4 := mF hM4
      have g1 : ¬ ((2 ^ tU T : Nat) : Int) ≤ (x : Int) := by clear hF hF4 e4; generalize 2 ^ tU T = z at *; omega
      have hx16 : x < 16 := by clear hF hF4; omega
      have ew := m_wrongHeard hT hM4 (x := x) (by clear hF hF4; omega)
      have hM5 := hM4.sr79 (rwN T x (tf3 s4 t 6) (tU T))
      have v5 : Mv s4 (sR s4 79 (rwN T x (tf3 s4 t 6) (tU T))) := Mv_fr (L := fun a => a = 79) (Fr_sR rfl) (fun a ha => Or.inl ha)
      have n26 : ∀ (f : Nat → Int) (k : Nat), gI (sR s4 79 f) 76 k = gI s4 76 k := fun f k => by rw [gI_sR]; simp
      have n86 : ∀ (f : Nat → Int) (k : Nat), gI (sR s4 79 f) 86 k = gI s4 86 k := fun f k => by rw [gI_sR]; simp
      generalize rwN T x (tf3 s4 t 6) (tU T) = f5 at ew hM5 v5
      have hk6 : x ≤ 6000 := by clear hF hF4; omega
      have cle := cnt_le (fitB T) x
      have hw := wk1 hk6
      by_cases hfit : fitB T x = true
      · have hn : notT T x = -2 := of_decide_eq_true hfit
        rw [hn] at ew
        have hc6 : cnt (fitB T) x ≤ 6000 := by clear hF hF4 hw; omega
        have so := somF_b T x (by clear hF hF4 hw; omega)
        have ev := eveF_b t7 (T := T) x
        have eo := or16 _ so x hx16
        have ea := and16 _ ev x hx16
        have hwc := wk1 hc6
        generalize hs9 : pI (pI (pI (sR s4 79 f5) 76 26 ((cnt (fitB T) x : Nat) + 1 : Int)) 76 27 ((somF T x ||| x : Nat) : Int)) 76 28 ((eveF T x &&& x : Nat) : Int) = s9
        have v9 : Mv s s9 := by
          rw [← hs9]
          exact (((a2.trans v5).trans (Mv_pI (by decide))).trans (Mv_pI (by decide))).trans (Mv_pI (by decide))
        have hM9 := hM.mv v9
        have h86 : ∀ k, gI s9 86 k = gI s4 86 k := fun k => by rw [← hs9]; simp [gI_pI, n86]
        have ob : ∀ k, k < tU T → 0 ≤ gI s9 86 k ∧ gI s9 86 k ≤ 16 := fun k hk => by
          rw [h86, a6 k hk]
          have := cnt_le (fun x => fitB T x && bitB x k) x
          unfold othF
          clear hF hF4 hw hwc
          omega
        have h26 : gI s9 76 26 = ((cnt (fitB T) x : Nat) + 1 : Int) := by rw [← hs9]; simp [gI_pI]
        have h27 : gI s9 76 27 = ((somF T x ||| x : Nat) : Int) := by rw [← hs9]; simp [gI_pI]
        have h28 : gI s9 76 28 = ((eveF T x &&& x : Nat) : Int) := by rw [← hs9]; simp [gI_pI]
        have es : ∀ k, othF T k (x + 1) = othF T k x + (if bitB x k = true then 1 else 0) := fun k => by
          show cnt (fun x => fitB T x && bitB x k) x + (if (fitB T x && bitB x k) = true then 1 else 0) = cnt (fun x => fitB T x && bitB x k) x + _
          rw [hfit]; simp
        have ec : cnt (fitB T) (x + 1) = cnt (fitB T) x + 1 := cnt_s1 hfit
        have eso : somF T (x + 1) = somF T x ||| x := by
          show (if fitB T x = true then somF T x ||| x else somF T x) = _
          rw [if_pos hfit]
        have eev : eveF T (x + 1) = eveF T x &&& x := by
          show (if fitB T x = true then eveF T x &&& x else eveF T x) = _
          rw [if_pos hfit]
        have efo : fouF T i (x + 1) = if ((cnt (fitB T) x : Nat) : Int) = i then (x : Int) else fouF T i x := by
          show (if fitB T x = true ∧ ((cnt (fitB T) x : Nat) : Int) = i then (x : Int) else fouF T i x) = _
          by_cases q : ((cnt (fitB T) x : Nat) : Int) = i
          · rw [if_pos ⟨hfit, q⟩, if_pos q]
          · rw [if_neg (fun z => q z.2), if_neg q]
        refine ⟨(sR s9 86 (fun j => if j < tU T then gI s9 86 j + (if bitB x j = true then 1 else 0) else gI s9 86 j), (76 : Int), i, fouF T i (x + 1), ((x + 1 : Nat) : Int)), ⟨rfl, v9.trans (Mv_fr (L := fun a => a = 86) (Fr_sR rfl) (fun a ha => Or.inr (by clear hF hF4 hw hwc; omega))), ?_, ?_, ?_, fun k hk => ?_⟩, fun rec => ?_⟩
        · show gI s9 76 26 = _
          rw [h26, ec]; simp
        · show gI s9 76 27 = _
          rw [h27, eso]
        · show gI s9 76 28 = _
          rw [h28, eev]
        · show (if k < tU T then gI s9 86 k + (if bitB x k = true then 1 else 0) else gI s9 86 k) = _
          rw [if_pos hk, h86, a6 k hk, es]
          split <;> simp
        · have hi := fun fd => fit_in (i := i) (fd := fd) hM9 hx16 ob (fun (s : St) (x0 x1 x2 x3 : Int) => rec (s, x0, x1, x2, x3))
          have hS6 : Sh (sR s4 79 f5) := hS4
          simp only [X13_fitting_b49_body]
          rw [hF4.1.1, hF4.2.2.2.2.2.2.2.2.2.2.1, e4, if_neg g1, ew]
          have b85 : ∀ fd, X13_fitting_b85 (fun (s : St) (x0 x1 x2 x3 : Int) => rec (s, x0, x1, x2, x3)) (sR s4 79 f5) 76 i fd x = rec (sR s9 86 (fun j => if j < tU T then gI s9 86 j + (if bitB x j = true then 1 else 0) else gI s9 86 j), (76 : Int), i, fd, ((x + 1 : Nat) : Int)) := by
            intro fd
            simp only [X13_fitting_b85]
            simp [tF, sRF, isK, shF hS4, gI_pI, n26, a3, a4, a5, hwc, eo, ea]
            rw [hs9]
            exact hi fd
          simp only [tF, isK, shF hS4, hF4.1, sRF, n26, a3, b85, efo]
          by_cases q : ((cnt (fitB T) x : Nat) : Int) = i
          · simp [q]
          · simp [q]
      · have hn : ¬ notT T x = -2 := fun q => hfit (decide_eq_true q)
        have es : ∀ k, othF T k (x + 1) = othF T k x := fun k => by
          show cnt (fun x => fitB T x && bitB x k) x + (if (fitB T x && bitB x k) = true then 1 else 0) = cnt (fun x => fitB T x && bitB x k) x
          simp [hfit]
        have ec : cnt (fitB T) (x + 1) = cnt (fitB T) x := cnt_s0 hfit
        have eso : somF T (x + 1) = somF T x := by
          show (if fitB T x = true then somF T x ||| x else somF T x) = _
          rw [if_neg hfit]
        have eev : eveF T (x + 1) = eveF T x := by
          show (if fitB T x = true then eveF T x &&& x else eveF T x) = _
          rw [if_neg hfit]
        have efo : fouF T i (x + 1) = fouF T i x := by
          show (if fitB T x = true ∧ ((cnt (fitB T) x : Nat) : Int) = i then (x : Int) else fouF T i x) = _
          rw [if_neg (fun z => hfit z.1)]
        refine ⟨(sR s4 79 f5, (76 : Int), i, fouF T i (x + 1), ((x + 1 : Nat) : Int)), ⟨rfl, a2.trans v5, ?_, ?_, ?_, fun k hk => ?_⟩, fun rec => ?_⟩
        · show gI s4 76 26 = _
          rw [a3, ec]
        · show gI s4 76 27 = _
          rw [a4, eso]
        · show gI s4 76 28 = _
          rw [a5, eev]
        · show gI s4 86 k = _
          rw [a6 k hk, es]
        · simp only [X13_fitting_b49_body]
          rw [hF4.1.1, hF4.2.2.2.2.2.2.2.2.2.2.1, e4, if_neg g1, ew]
          simp [tF, isK, shF hS4, hF4.1, hn, X13_fitting_b160, hw, efo]
    · obtain ⟨s4, a2⟩ := a
      obtain ⟨a1, a2, a3, a4, a5, a6⟩ := ha
      simp only at a1
      subst a1
      simp only at a2 a3 a4 a5 a6
      have hM4 := hM.mv a2
      have hS4 := hM4.1
      have hF4 := mF hM4
      simp only [X13_fitting_b49_body]
      rw [hF4.1.1, hF4.2.2.2.2.2.2.2.2.2.2.1, e4, if_pos (Int.le_refl _), a3]
      by_cases q : ficT T = 0
      · refine ⟨pI s4 76 28 0, ?_, a2.trans (Mv_pI (by decide)), ?_, ?_, ?_, a6⟩
        · have q' : cnt (fitB T) (2 ^ tU T) = 0 := q
          simp [tF, isK, shF hS4, hF4.1, q', X13_fitting_b178]
        · exact a3
        · exact a4
        · rw [if_pos q]; rfl
      · refine ⟨s4, ?_, a2, a3, a4, ?_, a6⟩
        · have q' : ¬ cnt (fitB T) (2 ^ tU T) = 0 := q
          simp [tF, isK, shF hS4, hF4.1, q', X13_fitting_b178]
        · rw [if_neg q]; exact a5
  generalize hs3 : pI (pI (pI s 76 26 0) 76 27 0) 76 28 ((2 ^ tU T - 1 : Nat) : Int) = s3
  have v3 : Mv s s3 := by
    rw [← hs3]
    exact ((Mv_pI (by decide)).trans (Mv_pI (by decide))).trans (Mv_pI (by decide))
  have hS3 : Sh s3 := by rw [← hs3]; exact hS
  have z : X13_fitting_b29 FU s3 76 i (-1) 0 = X13_fitting_b49 FU (sR s3 86 (fun j => if j < 4 then 0 else gI s3 86 j)) 76 i (-1) 0 := by
    unfold X13_fitting_b29
    rw [show (s3, (76 : Int), i, (-1 : Int), (0 : Int)) = (fun k : Nat => (sR s3 86 (fun j => if j < k then 0 else gI s3 86 j), (76 : Int), i, (-1 : Int), (k : Int))) 0 by simp [sR_self]]
    refine iter_run 4 FU (fun k : Nat => (sR s3 86 (fun j => if j < k then 0 else gI s3 86 j), (76 : Int), i, (-1 : Int), (k : Int))) (by clear hF; unfold FU; omega) (fun k hk rec => ?_) (fun rec => ?_)
    · have g1 : ¬ (4 : Int) ≤ k := by clear hF; omega
      have g2 : (k : Int) < 4 := by clear hF; omega
      have hk6 : k ≤ 6000 := by clear hF; omega
      have hf : (fun j => if j = k then (0 : Int) else if j < k then 0 else gI s3 86 j) = fun j => if j < k + 1 then 0 else gI s3 86 j := by
        funext j
        by_cases h1 : j = k
        · rw [if_pos h1, if_pos (by clear hF; omega)]
        · rw [if_neg h1]
          by_cases h2 : j < k
          · rw [if_pos h2, if_pos (by clear hF; omega)]
          · rw [if_neg h2, if_neg (by clear hF; omega)]
      have hw := wk1 hk6
      simp [X13_fitting_b29_body, tF, sRF, isK, shF hS3, g1, g2, sR_pI, hf, hw]
    · simp only [X13_fitting_b29_body]
      rw [if_pos (by decide)]
  obtain ⟨s1, f1, f2, f3⟩ := main (sR s3 86 (fun j => if j < 4 then 0 else gI s3 86 j)) (by
    refine ⟨rfl, v3.trans (Mv_fr (L := fun a => a = 86) (Fr_sR rfl) (fun a ha => Or.inr (by clear hF; omega))), ?_, ?_, ?_, fun k hk => ?_⟩
    · show gI s3 76 26 = 0
      rw [← hs3]; simp [gI_pI]
    · show gI s3 76 27 = 0
      rw [← hs3]; simp [gI_pI]
    · show gI s3 76 28 = ((2 ^ tU T - 1 : Nat) : Int)
      rw [← hs3]; simp [gI_pI]
    · show (if k < 4 then (0 : Int) else gI s3 86 k) = 0
      rw [if_pos (by clear hF; omega)])
  refine ⟨s1, ?_, f2, f3⟩
  have w1 : w32 (((2 ^ tU T : Nat) : Int) - 1) = ((2 ^ tU T - 1 : Nat) : Int) := by
    clear hF e4 main z f1
    generalize 2 ^ tU T = y at *
    rw [w32e (by omega)]
    omega
  have h8 : ¬ t.toNat = 76 := by have := hM.2.2.2.1; clear hF; omega
  unfold X13_fitting
  simp only [tF, isK, shF hS, hF, gI_pI]
  simp [h8, hF]
  rw [e4, w1, hs3, z]
  exact f1
end FITTING
