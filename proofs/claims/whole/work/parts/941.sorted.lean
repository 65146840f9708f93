/-! people by their houses, the least first -/
theorem cnt_all {P : Nat → Bool} : ∀ n, (∀ j, j < n → P j = true) → cnt P n = n
  | 0, _ => rfl
  | n + 1, h => by rw [cnt_s1 (h n (by omega)), cnt_all n (fun j hj => h j (by omega))]
theorem cnt_dn {P : Nat → Bool} : ∀ n, (∀ i j, i < j → j < n → P j = true → P i = true) → ∀ j, j < n → (P j = true ↔ j < cnt P n)
  | 0, _, j, hj => by omega
  | n + 1, h, j, hj => by
    by_cases q : P n = true
    · have al : ∀ j, j < n + 1 → P j = true := fun j hj => by
        by_cases z : j = n
        · rw [z]; exact q
        · exact h j n (by omega) (by omega) q
      rw [cnt_all (n + 1) al]
      exact ⟨fun _ => hj, fun _ => al j hj⟩
    · rw [cnt_s0 q]
      have ih := cnt_dn n (fun a b h1 h2 h3 => h a b h1 (by omega) h3)
      by_cases z : j = n
      · rw [z]
        have := cnt_le P n
        exact ⟨fun h => absurd h q, fun h => by omega⟩
      · exact ih j (by omega)
/-- how far in the next one is put -/
def insI (ho : Nat → Int) (f : Nat → Nat) (p : Nat) : Nat := cnt (fun j => decide (ho (f j) < ho p)) p
def ins (ho : Nat → Int) : Nat → Nat → Nat
  | 0, _ => 0
  | p + 1, j => if j < insI ho (ins ho p) p then ins ho p j else if j = insI ho (ins ho p) p then p else ins ho p (j - 1)
section SORTED
variable {ho : Nat → Int} {P : Nat}
theorem ins_s (p j : Nat) : ins ho (p + 1) j = if j < insI ho (ins ho p) p then ins ho p j else if j = insI ho (ins ho p) p then p else ins ho p (j - 1) := rfl
theorem insI_le (f : Nat → Nat) (p : Nat) : insI ho f p ≤ p := cnt_le _ _
theorem ins_ok (hd : ∀ p q, p < P → q < p → ho q ≠ ho p) : ∀ p, p ≤ P → (∀ k, k < p → ins ho p k < p) ∧ (∀ q, q < p → ∃ k, k < p ∧ ins ho p k = q) ∧ ∀ i j, i < j → j < p → ho (ins ho p i) < ho (ins ho p j)
  | 0, _ => ⟨fun k h => by omega, fun q h => by omega, fun i j _ h => by omega⟩
  | p + 1, hp => by
    obtain ⟨h1, h2, h3⟩ := ins_ok hd p (by omega)
    have le := insI_le (ho := ho) (ins ho p) p
    have lo : ∀ j, j < insI ho (ins ho p) p → ho (ins ho p j) < ho p := fun j hj => by
      have := (cnt_dn (P := fun j => decide (ho (ins ho p j) < ho p)) p (fun i j a b c => by
        have := h3 i j a b
        simp at c ⊢
        omega) j (by omega)).2 hj
      simpa using this
    have hi : ∀ j, insI ho (ins ho p) p ≤ j → j < p → ho p < ho (ins ho p j) := fun j hj hjp => by
      have := (cnt_dn (P := fun j => decide (ho (ins ho p j) < ho p)) p (fun i j a b c => by
        have := h3 i j a b
        simp at c ⊢
        omega) j hjp)
      have n1 : ¬ ho (ins ho p j) < ho p := fun z => by
        have w := this.1 (by simpa using z)
        unfold insI at hj
        omega
      have := hd p (ins ho p j) (by omega) (h1 j hjp)
      omega
    generalize hI : insI ho (ins ho p) p = I at *
    refine ⟨fun k hk => ?_, fun q hq => ?_, fun i j hij hj => ?_⟩
    · rw [ins_s, hI]
      split
      · have := h1 k (by omega); omega
      · split
        · omega
        · have := h1 (k - 1) (by omega); omega
    · by_cases z : q = p
      · refine ⟨I, by omega, ?_⟩
        rw [ins_s, hI, if_neg (Nat.lt_irrefl _), if_pos rfl, z]
      · obtain ⟨k, k1, k2⟩ := h2 q (by omega)
        by_cases y : k < I
        · exact ⟨k, by omega, by rw [ins_s, hI, if_pos y, k2]⟩
        · exact ⟨k + 1, by omega, by rw [ins_s, hI, if_neg (by omega), if_neg (by omega), Nat.add_sub_cancel, k2]⟩
    · rw [ins_s, ins_s, hI]
      by_cases a : i < I
      · rw [if_pos a]
        by_cases b : j < I
        · rw [if_pos b]; exact h3 i j hij (by omega)
        · rw [if_neg b]
          by_cases c : j = I
          · rw [if_pos c]; exact lo i a
          · rw [if_neg c]; exact h3 i (j - 1) (by omega) (by omega)
      · rw [if_neg a, if_neg (show ¬ j < I by omega), if_neg (show ¬ j = I by omega)]
        by_cases c : i = I
        · rw [if_pos c]; exact hi (j - 1) (by omega) (by omega)
        · rw [if_neg c]; exact h3 (i - 1) (j - 1) (by omega) (by omega)
theorem ins_pos (hd : ∀ p q, p < P → q < p → ho q ≠ ho p) {p : Nat} (hp : p < P) : (∀ j, j < insI ho (ins ho p) p → ho (ins ho p j) < ho p) ∧ ∀ j, insI ho (ins ho p) p ≤ j → j < p → ho p < ho (ins ho p j) := by
  obtain ⟨h1, h2, h3⟩ := ins_ok hd p (by omega)
  have le := insI_le (ho := ho) (ins ho p) p
  have mono := cnt_dn (P := fun j => decide (ho (ins ho p j) < ho p)) p (fun i j a b c => by
    have := h3 i j a b
    simp at c ⊢
    omega)
  refine ⟨fun j hj => ?_, fun j hj hjp => ?_⟩
  · have := (mono j (by omega)).2 hj
    simpa using this
  · have n1 : ¬ ho (ins ho p j) < ho p := fun z => by
      have w := (mono j hjp).1 (by simpa using z)
      unfold insI at hj
      omega
    have := hd p (ins ho p j) (by omega) (h1 j hjp)
    omega
theorem ins_inj (hd : ∀ p q, p < P → q < p → ho q ≠ ho p) {i j : Nat} (hi : i < P) (hj : j < P) (h : ins ho P i = ins ho P j) : i = j := by
  obtain ⟨h1, h2, h3⟩ := ins_ok hd P (Nat.le_refl _)
  rcases Nat.lt_trichotomy i j with q | q | q
  · have := h3 i j q hj; rw [h] at this; omega
  · exact q
  · have := h3 j i q hi; rw [h] at this; omega
end SORTED
section FREES
variable {s : St} {T : Tw} {N : Nw} {t : Int}
theorem m_frees_in {p : Nat} (hM : MW T t s) (hN : NOK T N) (hx : RXf (fun j => gI s 78 j) T N) (hp : p < tP T) (hr : ∀ j, j < p → gI s 82 j = nHo N (ins (nHo N) p j)) :
    ∃ s1, (∀ rk : St → Int → Int → Rs, X13_frees_b15 rk FU s 76 p p = rk s1 76 ((p + 1 : Nat) : Int)) ∧ Fr (fun a => a = 82) s s1 ∧ ∀ j, j < p + 1 → gI s1 82 j = nHo N (ins (nHo N) (p + 1) j) := by
  have hS := hM.1
  have t5 := hM.2.1.1.2.2.2.2.1
  obtain ⟨lo, hi⟩ := ins_pos hN.2.2.1 hp
  have le := insI_le (ho := nHo N) (ins (nHo N) p) p
  have vp : gI s 78 p = nHo N p := hx.1 p hp
  generalize hI : insI (nHo N) (ins (nHo N) p) p = I at *
  refine ⟨sR s 82 (fun j => if j = I then nHo N p else if I < j ∧ j ≤ p then gI s 82 (j - 1) else gI s 82 j), fun rk => ?_, Fr_sR rfl, fun j hj => ?_⟩
  · unfold X13_frees_b15
    rw [show (s, (76 : Int), (p : Int), (p : Int)) = (fun k : Nat => (sR s 82 (fun j => if p - k < j ∧ j ≤ p then gI s 82 (j - 1) else gI s 82 j), (76 : Int), (p : Int), (p : Int) - (k : Int))) 0 by
      have : (fun j => if p - 0 < j ∧ j ≤ p then gI s 82 (j - 1) else gI s 82 j) = fun j => gI s 82 j := by
        funext j; exact if_neg (by omega)
      simp only [this, sR_self]
      simp]
    refine iter_run (p - I) FU (fun k : Nat => (sR s 82 (fun j => if p - k < j ∧ j ≤ p then gI s 82 (j - 1) else gI s 82 j), (76 : Int), (p : Int), (p : Int) - (k : Int))) (by unfold FU; omega) (fun k hk rec => ?_) (fun rec => ?_)
    · obtain ⟨q, hq⟩ : ∃ q : Nat, p = q + 1 + k := ⟨p - 1 - k, by omega⟩
      have e1 : (p : Int) - (k : Int) = ((q + 1 : Nat) : Int) := by omega
      have f1 : gI s 82 q = nHo N (ins (nHo N) p q) := hr q (by omega)
      have f2 := hi q (by omega) (by omega)
      have w1 : w32 (((q + 1 : Nat) : Int) - 1) = (q : Int) := (w32e (by omega)).trans (by omega)
      have w2 : w32 (((q + 1 : Nat) : Int) + -1) = (q : Int) := (w32e (by clear w1; omega)).trans (by clear w1; omega)
      have w3 : (p : Int) - ((k + 1 : Nat) : Int) = (q : Int) := by clear w1 w2; omega
      have g0 : ¬ ((q + 1 : Nat) : Int) ≤ 0 := by clear w1 w2; omega
      have g1 : (q : Int) < 6 := by clear w1 w2; omega
      have g2 : ((q + 1 : Nat) : Int) < 6 := by clear w1 w2; omega
      have g3 : (p : Int) < 19 := by clear w1 w2; omega
      have rq : (if p - k < q ∧ q ≤ p then gI s 82 (q - 1) else gI s 82 q) = gI s 82 q := if_neg (by clear w1 w2; omega)
      have cmp : ¬ gI s 82 q ≤ gI s 78 p := by rw [f1, vp]; clear w1 w2; omega
      have hf : (fun j => if j = q + 1 then gI s 82 q else if p - k < j ∧ j ≤ p then gI s 82 (j - 1) else gI s 82 j) = fun j => if p - (k + 1) < j ∧ j ≤ p then gI s 82 (j - 1) else gI s 82 j := by
        funext j
        clear w1 w2
        by_cases h1 : j = q + 1
        · rw [if_pos h1, if_pos (by omega), h1]; rfl
        · rw [if_neg h1]
          by_cases h2 : p - k < j ∧ j ≤ p
          · rw [if_pos h2, if_pos (by omega)]
          · rw [if_neg h2, if_neg (by omega)]
      simp only [X13_frees_b15_body]
      rw [e1, w3, w1, w2, if_neg g0]
      have n1 : ((q + 1 : Nat) : Int).toNat = q + 1 := by simp
      simp only [tF, sRF, isK, shF hS, gI_sR, Int.toNat_natCast, n1]
      simp [g1, g3, rq, cmp, sR_pI, hf]
      intro z
      exact absurd z (by clear w1 w2; omega)
    · have e1 : (p : Int) - ((p - I : Nat) : Int) = (I : Int) := by omega
      have g1 : (I : Int) < 6 := by omega
      have g3 : (p : Int) < 19 := by omega
      have hw := wk1 (k := p) (by omega)
      have hf : (fun j => if j = I then gI s 78 p else if p - (p - I) < j ∧ j ≤ p then gI s 82 (j - 1) else gI s 82 j) = fun j => if j = I then nHo N p else if I < j ∧ j ≤ p then gI s 82 (j - 1) else gI s 82 j := by
        funext j
        rw [vp, show p - (p - I) = I by clear hw; omega]
      have fin : X13_frees_b56 rk (sR s 82 (fun j => if p - (p - I) < j ∧ j ≤ p then gI s 82 (j - 1) else gI s 82 j)) 76 p (I : Int) = rk (sR s 82 (fun j => if j = I then nHo N p else if I < j ∧ j ≤ p then gI s 82 (j - 1) else gI s 82 j)) 76 ((p + 1 : Nat) : Int) := by
        unfold X13_frees_b56
        rw [hw]
        simp only [tF, sRF, isK, shF hS, gI_sR, Int.toNat_natCast]
        simp [g1, g3, sR_pI, hf]
      simp only [X13_frees_b15_body]
      rw [e1]
      by_cases z : I = 0
      · rw [if_pos (by clear hw; omega)]
        exact fin
      · obtain ⟨q, hq⟩ : ∃ q : Nat, I = q + 1 := ⟨I - 1, by clear hw; omega⟩
        have f1 : gI s 82 q = nHo N (ins (nHo N) p q) := hr q (by clear hw; omega)
        have f2 := lo q (by clear hw; omega)
        have w1 : w32 ((I : Int) - 1) = (q : Int) := (w32e (by clear hw; omega)).trans (by clear hw; omega)
        have gq : (q : Int) < 6 := by clear hw w1; omega
        have rq : (if p - (p - I) < q ∧ q ≤ p then gI s 82 (q - 1) else gI s 82 q) = gI s 82 q := if_neg (by clear hw w1; omega)
        have cmp : gI s 82 q ≤ gI s 78 p := by rw [f1, vp]; clear hw w1; omega
        rw [if_neg (by clear hw w1; omega), fin, w1]
        simp only [tF, sRF, isK, shF hS, gI_sR, Int.toNat_natCast]
        simp [gq, g3, rq, cmp]
  · rw [gI_sR, if_pos rfl, ins_s, hI]
    by_cases a : j < I
    · rw [if_neg (by omega), if_neg (by omega), if_pos a]; exact hr j (by omega)
    · rw [if_neg a]
      by_cases b : j = I
      · rw [if_pos b, if_pos b]
      · rw [if_neg b, if_neg b, if_pos (by omega)]; exact hr (j - 1) (by omega)
theorem m_frees (hM : MW T t s) (hN : NOK T N) (hx : RXf (fun j => gI s 78 j) T N) : ∃ s1, X13_frees s 76 = some (0, s1) ∧ Fr (fun a => a = 82) s s1 ∧ ∀ j, j < tP T → gI s1 82 j = nHo N (ins (nHo N) (tP T) j) := by
  have t5 := hM.2.1.1.2.2.2.2.1
  unfold X13_frees X13_frees_b2
  refine iter_inv (Q := fun G => ∃ s1, G = some (0, s1) ∧ Fr (fun a => a = 82) s s1 ∧ ∀ j, j < tP T → gI s1 82 j = nHo N (ins (nHo N) (tP T) j))
    (fun (k : Nat) (a : St × Int × Int) => ∃ s2, a = (s2, 76, (k : Int)) ∧ Fr (fun a => a = 82) s s2 ∧ ∀ j, j < k → gI s2 82 j = nHo N (ins (nHo N) k j))
    (tP T) FU (s, 76, 0) (by unfold FU; omega) ⟨s, rfl, Fr.refl _ s, fun j hj => by omega⟩ (fun k hk a ha => ?_) (fun a ha rec => ?_)
  · obtain ⟨s2, rfl, hf2, h2⟩ := ha
    have hM2 : MW T t s2 := hM.fr hf2 (fun a ha q => by omega)
    have e78 : (fun j => gI s2 78 j) = fun j => gI s 78 j := by funext j; exact hf2.nu (by decide)
    obtain ⟨s3, e3, f3, l3⟩ := m_frees_in hM2 hN (by rw [e78]; exact hx) hk h2
    refine ⟨(s3, 76, ((k + 1 : Nat) : Int)), ⟨s3, rfl, hf2.trans f3, l3⟩, fun rec => ?_⟩
    have hS := hM2.1
    have hF := mF hM2
    have g1 : ¬ tP T ≤ k := by clear hF; omega
    simp only [X13_frees_b2_body]
    rw [e3]
    simp [tF, isK, shF hS, hF, g1]
  · obtain ⟨s2, rfl, hf2, h2⟩ := ha
    have hM2 : MW T t s2 := hM.fr hf2 (fun a ha q => by omega)
    have hS := hM2.1
    have hF := mF hM2
    refine ⟨s2, ?_, hf2, h2⟩
    simp [X13_frees_b2_body, tF, isK, shF hS, hF]
end FREES
