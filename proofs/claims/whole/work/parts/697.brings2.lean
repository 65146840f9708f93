/-! the reference's search, whole -/
def heN (T : Tw) (N : Nw) (night : Int) (d : Nat) : Nat := (heaT T N d night).toNat
def bgf (T : Tw) (N : Nw) (night : Int) (d : Nat) : Nat := if heN T N night d = tFo T d then 2 else 0
def bgC (T : Tw) (N : Nw) (night : Int) : Nat := vl (bgf T N night) (tD T)
def brF (T : Tw) (N : Nw) (night fr : Int) : Int := vV (heN T N night) (tFo T) (nHo N) (tH T) (tP T) (tD T) (bgC T N night) fr
theorem bgf_le (T : Tw) (N : Nw) (night : Int) (d : Nat) : bgf T N night d ≤ 2 := by unfold bgf; split <;> omega
section BRINGO
variable {s : St} {T : Tw} {N : Nw} {t : Int} {he : Nat → Nat}
theorem heN_e (hT : TOK T) (hN : NOK T N) (night : Int) (d : Nat) : ((heN T N night d : Nat) : Int) = heaT T N d night ∧ heN T N night d < tP T := by
  have := lisT_b hT hN (outT T N d (aimT T N d) night)
  unfold heN heaT
  omega
theorem m_bring_out {n b : Nat} {fr l : Int} (hn : n = 3 ^ tD T) (hW : WM T N t s) (hh : HRm s T he) (hp : ∀ d, d < tD T → he d < tP T) (hfr : 0 ≤ fr ∧ fr < tH T) (hb : b < n)
    (hI : SI he (tFo T) (nHo N) (tH T) fr (tP T) (tD T) b (b * 7) (fun j => gI s 84 j) l) :
    ∃ s1, X13_brings_b127 FU s 76 fr n l b = some (vV he (tFo T) (nHo N) (tH T) (tP T) (tD T) b fr, s1) ∧ Fr (fun a => a = 84) s s1 := by
  have t6 := hW.1.2.1.1.2.2.2.2.2.1
  have p729 := pw3 (tD T) t6
  unfold X13_brings_b127
  refine iter_inv (Q := fun F => ∃ s1, F = some (vV he (tFo T) (nHo N) (tH T) (tP T) (tD T) b fr, s1) ∧ Fr (fun a => a = 84) s s1)
    (fun (k : Nat) (a : St × Int × Int × Int × Int × Int) => ∃ s2 l2, a = (s2, 76, fr, (n : Int), l2, ((b + k : Nat) : Int)) ∧ Fr (fun a => a = 84) s s2 ∧ SI he (tFo T) (nHo N) (tH T) fr (tP T) (tD T) b ((b + k) * 7) (fun j => gI s2 84 j) l2)
    (n - b) FU (s, 76, fr, (n : Int), l, (b : Int)) (by unfold FU; omega) ⟨s, l, rfl, Fr.refl _ s, hI⟩ (fun k hk a ha => ?_) (fun a ha rec => ?_)
  · obtain ⟨s2, l2, rfl, hf2, hI2⟩ := ha
    obtain ⟨s3, l3, e3, hf3, hI3⟩ := m_bring_in (c := b + k) hn (hW.f84 hf2) (hh.f84 hf2) hp hfr (by omega) hI2
    refine ⟨(s3, 76, fr, (n : Int), l3, ((b + (k + 1) : Nat) : Int)), ⟨s3, l3, rfl, hf2.trans hf3, hI3⟩, fun rec => ?_⟩
    have g : ¬ (n : Int) ≤ ((b + k : Nat) : Int) := by omega
    show X13_brings_b127_body (fun (s : St) (x0 x1 x3 x5 x6 : Int) => rec (s, x0, x1, x3, x5, x6)) s2 76 fr n l2 ((b + k : Nat) : Int) = _
    unfold X13_brings_b127_body
    rw [if_neg g, e3]
    rfl
  · obtain ⟨s2, l2, rfl, hf2, hI2⟩ := ha
    have g : (n : Int) ≤ ((b + (n - b) : Nat) : Int) := by omega
    have e : b + (n - b) = n := by omega
    rw [e, hn] at hI2
    have el := SI_end hI2
    refine ⟨s2, ?_, hf2⟩
    show X13_brings_b127_body (fun (s : St) (x0 x1 x3 x5 x6 : Int) => rec (s, x0, x1, x3, x5, x6)) s2 76 fr n l2 ((b + (n - b) : Nat) : Int) = _
    unfold X13_brings_b127_body
    rw [if_pos g, el]
theorem m_bring_fill {n b : Nat} {fr : Int} (hS : Sh s) (hn : n ≤ 729) (hb : b < n) : X13_brings_b79 FU s 76 fr n b 0 = X13_brings_b127 FU (sR s 84 (fun j => if j = b * 7 + 6 then 0 else if j < n * 7 then 9999 else gI s 84 j)) 76 fr n 9999 b := by
  have w0 : w32 ((n : Int) * 7) = (n : Int) * 7 := w32e (by omega)
  have w1 : w32 ((b : Int) * 7) = (b : Int) * 7 := w32e (by clear w0; omega)
  have w2 : w32 ((b : Int) * 7 + 6) = (b : Int) * 7 + 6 := w32e (by clear w0 w1; omega)
  have n2 : ((b : Int) * 7 + 6).toNat = b * 7 + 6 := by clear w0 w1 w2; omega
  have gl : 0 ≤ (b : Int) * 7 + 6 := by clear w0 w1 w2; omega
  have gj : (b : Int) * 7 + 6 < 5103 := by clear w0 w1 w2; omega
  unfold X13_brings_b79
  rw [show (s, (76 : Int), fr, (n : Int), (b : Int), (0 : Int)) = (fun k : Nat => (sR s 84 (fun j => if j < k then 9999 else gI s 84 j), (76 : Int), fr, (n : Int), (b : Int), (k : Int))) 0 by
    simp [sR_self]]
  refine iter_run (n * 7) FU (fun k : Nat => (sR s 84 (fun j => if j < k then 9999 else gI s 84 j), (76 : Int), fr, (n : Int), (b : Int), (k : Int))) (by clear w0 w1 w2; unfold FU; omega) (fun k hk rec => ?_) (fun rec => ?_)
  · have hk6 : k ≤ 6000 := by clear w0 w1 w2; omega
    have hw := wk1 hk6
    have g1 : ¬ (n : Int) * 7 ≤ (k : Int) := by clear w0 w1 w2 hw; omega
    have g2 : (k : Int) < 5103 := by clear w0 w1 w2 hw; omega
    have hf1 : (fun j => if j = k then (9999 : Int) else if j < k then 9999 else gI s 84 j) = fun j => if j < k + 1 then 9999 else gI s 84 j := by
      funext j
      by_cases h1 : j = k
      · rw [if_pos h1, if_pos (by clear w0 w1 w2 hw; omega)]
      · rw [if_neg h1]
        by_cases h2 : j < k
        · rw [if_pos h2, if_pos (show j < k + 1 by clear w0 w1 w2 hw; omega)]
        · rw [if_neg h2, if_neg (show ¬ j < k + 1 by clear w0 w1 w2 hw; omega)]
    simp [X13_brings_b79_body, tF, sRF, isK, shF hS, w0, hw, g1, g2, sR_pI, hf1]
  · simp [X13_brings_b79_body, tF, sRF, isK, shF hS, w0, w1, w2, n2, gl, gj, sR_pI]
theorem m_brings {night fr : Int} (hW : WM T N t s) (hfr : 0 ≤ fr ∧ fr < tH T) (hn : 0 ≤ night ∧ night ≤ 99) : ∃ s1, X13_brings s 76 fr night = some (brF T N night fr, s1) ∧ Fr (fun a => a = 84 ∨ a = 85) s s1 := by
  have hM := hW.1
  have hS := hM.1
  have t1 := hM.2.1.1.1
  have t2 := hM.2.1.1.2.1
  have t6 := hM.2.1.1.2.2.2.2.2.1
  have p729 := pw3 (tD T) t6
  have h8 : ¬ t.toNat = 85 := by have := hM.2.2.2.1; omega
  have h84 : ¬ (t + 4).toNat = 85 := by have := hM.2.2.2.1; omega
  have first : X13_brings s 76 fr night = X13_brings_b79 FU (sR s 85 (fun j => if j < tD T then (heN T N night j : Int) else gI s 85 j)) 76 fr ((3 ^ tD T : Nat) : Int) ((bgC T N night : Nat) : Int) 0 := by
    have hF := mF hM
    unfold X13_brings X13_brings_b8
    rw [show (s, (76 : Int), fr, night, (1 : Int), (0 : Int), (0 : Int)) = (fun k : Nat => (sR s 85 (fun j => if j < k then (heN T N night j : Int) else gI s 85 j), (76 : Int), fr, night, ((3 ^ k : Nat) : Int), ((vl (bgf T N night) k : Nat) : Int), (k : Int))) 0 by
      simp [sR_self, vl]]
    refine iter_run (tD T) FU (fun k : Nat => (sR s 85 (fun j => if j < k then (heN T N night j : Int) else gI s 85 j), (76 : Int), fr, night, ((3 ^ k : Nat) : Int), ((vl (bgf T N night) k : Nat) : Int), (k : Int))) (by clear hF; unfold FU; omega) (fun k hk rec => ?_) (fun rec => ?_)
    · have hf0 : Fr (fun a => a = 85) s (sR s 85 (fun j => if j < k then (heN T N night j : Int) else gI s 85 j)) := Fr_sR rfl
      have hW2 : WM T N t (sR s 85 (fun j => if j < k then (heN T N night j : Int) else gI s 85 j)) := ⟨hW.1.fr hf0 (fun a ha q => by clear hF; omega), hW.2.1, hW.2.2⟩
      have eh := m_hea (d := k) (night := night) hW2 hk hn
      have en := heN_e hM.2.1 hW.2.1 night k
      rw [← en.1] at eh
      have e4 := (hM.2.2.2.2.2.1 k hk).2
      have k3 := pw3 k (by clear hF; omega)
      have vb := vl_lt (bgf_le T N night) k
      have g1 : ¬ tD T ≤ k := by clear hF; omega
      have g6 : (k : Int) < 6 := by clear hF; omega
      have hk6 : k ≤ 6000 := by clear hF; omega
      have hw := wk1 hk6
      have hf1 : (fun j => if j = k then (heN T N night k : Int) else if j < k then (heN T N night j : Int) else gI s 85 j) = fun j => if j < k + 1 then (heN T N night j : Int) else gI s 85 j := by
        funext j
        by_cases h1 : j = k
        · rw [if_pos h1, if_pos (by clear hF hw; omega), h1]
        · rw [if_neg h1]
          by_cases h2 : j < k
          · rw [if_pos h2, if_pos (show j < k + 1 by clear hF hw; omega)]
          · rw [if_neg h2, if_neg (show ¬ j < k + 1 by clear hF hw; omega)]
      have ev : vl (bgf T N night) (k + 1) = vl (bgf T N night) k + bgf T N night k * 3 ^ k := rfl
      have w3 : w32 (((3 ^ k : Nat) : Int) * 3) = ((3 ^ (k + 1) : Nat) : Int) := by
        rw [w32e (by clear hF hw ev eh; generalize 3 ^ k = y at *; omega), Nat.pow_succ]; simp
      have iq : ((heN T N night k : Nat) : Int) = ((tFo T k : Nat) : Int) ↔ heN T N night k = tFo T k := by clear hF hw w3 ev eh; omega
      by_cases y : heN T N night k = tFo T k
      · have eb : bgf T N night k = 2 := if_pos y
        rw [eb] at ev
        have w4 : w32 (2 * ((3 ^ k : Nat) : Int)) = ((2 * 3 ^ k : Nat) : Int) := by
          rw [w32e (by clear hF hw ev w3 eh; generalize 3 ^ k = y at *; omega)]; simp
        have w5 : w32 (((vl (bgf T N night) k : Nat) : Int) + ((2 * 3 ^ k : Nat) : Int)) = ((vl (bgf T N night) (k + 1) : Nat) : Int) := by
          rw [w32e (by clear hF hw ev w3 w4 eh; generalize 3 ^ k = y at *; omega), ev]; simp
        simp only [X13_brings_b8_body, X13_brings_b63, w3, w4, w5, hw, eh]
        have hf2 := hf1
        rw [y] at hf2
        simp [tF, sRF, isK, shF hS, gI_sR, hF, h8, h84, g1, g6, eh, e4, sR_pI, hf2, y]
      · have eb : bgf T N night k = 0 := if_neg y
        rw [eb, Nat.zero_mul, Nat.add_zero] at ev
        have w5 : w32 ((vl (bgf T N night) k : Nat) : Int) = ((vl (bgf T N night) k : Nat) : Int) := w32e (by clear hF hw ev w3 eh; generalize 3 ^ k = y at *; omega)
        simp only [X13_brings_b8_body, X13_brings_b63, w3, hw, eh, ev]
        simp [tF, sRF, isK, shF hS, gI_sR, hF, h8, h84, g1, g6, eh, e4, sR_pI, hf1, y, iq, w5]
    · simp [X13_brings_b8_body, tF, sRF, isK, shF hS, gI_sR, hF, h8, bgC]
  have hb : bgC T N night < 3 ^ tD T := vl_lt (bgf_le T N night) _
  rw [first, m_bring_fill (s := sR s 85 (fun j => if j < tD T then (heN T N night j : Int) else gI s 85 j)) hS p729 hb]
  have hp : ∀ d, d < tD T → heN T N night d < tP T := fun d _ => (heN_e hM.2.1 hW.2.1 night d).2
  have hp2 : ∀ d, d < tD T → heN T N night d < tP T ∧ tFo T d < tP T := fun d hd => ⟨hp d hd, (hM.2.1.2.1 d hd).2.2⟩
  generalize hs5 : sR s 85 (fun j => if j < tD T then (heN T N night j : Int) else gI s 85 j) = s5
  have f5 : Fr (fun a => a = 84 ∨ a = 85) s s5 := by rw [← hs5]; exact Fr_sR (Or.inr rfl)
  have h5 : HRm s5 T (heN T N night) := fun d hd => by
    rw [← hs5, gI_sR, if_pos rfl]; exact if_pos hd
  generalize hs6 : sR s5 84 (fun j => if j = bgC T N night * 7 + 6 then 0 else if j < 3 ^ tD T * 7 then 9999 else gI s5 84 j) = s6
  have f6 : Fr (fun a => a = 84) s5 s6 := by rw [← hs6]; exact Fr_sR rfl
  have f6' := f5.trans (f6.mono (fun a ha => Or.inl ha))
  have hW6 : WM T N t s6 := ⟨hM.fr f6' (fun a ha q => by omega), hW.2.1, by
    have e : (fun j => gI s6 79 j) = fun j => gI s 79 j := by funext j; exact f6'.nu (by decide)
    rw [e]; exact hW.2.2⟩
  have h6 := h5.f84 f6
  have hI := SI_start (he := heN T N night) (of := tFo T) (ho := nHo N) (H := tH T) (fr := fr) (P := tP T) (D := tD T) (b := bgC T N night) (f := fun j => gI s6 84 j) (by omega) (by omega) t6 hp2 hb (fun j hj => by
    show gI s6 84 j = _
    rw [← hs6, gI_sR, if_pos rfl]
    by_cases y : j = bgC T N night * 7 + 6
    · rw [if_pos y, if_pos y]
    · rw [if_neg y, if_neg y, if_pos hj])
  obtain ⟨s7, e7, f7⟩ := m_bring_out rfl hW6 h6 hp hfr hb hI
  exact ⟨s7, e7, f6'.trans (f7.mono (fun a ha => Or.inl ha))⟩
end BRINGO
