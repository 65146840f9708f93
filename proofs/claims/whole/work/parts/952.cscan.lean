/-! the class's tokens -/
theorem c_let (s : St) (x : Int) : X8_isLetter s x = some (if isLB x = true then 1 else 0, s) := by
  unfold X8_isLetter X8_isLetter_b16 X8_isLetter_b17 isLB
  by_cases h : x < 97
  · rw [if_pos h, if_neg (by simp; omega)]; rfl
  · rw [if_neg h]
    by_cases h2 : 122 < x
    · rw [if_pos h2, if_neg (by simp; omega)]; rfl
    · rw [if_neg h2, if_pos (by simp; omega)]; rfl
theorem c_dig (s : St) (x : Int) : X8_isDigit s x = some (if isDB x = true then 1 else 0, s) := by
  unfold X8_isDigit X8_isDigit_b16 X8_isDigit_b17 isDB
  by_cases h : x < 48
  · rw [if_pos h, if_neg (by simp; omega)]; rfl
  · rw [if_neg h]
    by_cases h2 : 57 < x
    · rw [if_pos h2, if_neg (by simp; omega)]; rfl
    · rw [if_neg h2, if_pos (by simp; omega)]; rfl
/-- the text as the class holds it -/
def CTx (n : Nat) (b : Nat → Int) (s : St) : Prop := Sh s ∧ gR s 15 4 = 1 ∧ gI s 15 5 = (n : Int) ∧ n ≤ 800 ∧ ∀ j, j < n → gI s 1 j = b j
def CTk (n : Nat) (b : Nat → Int) (s : St) (i : Nat) : Prop := CTx n b s ∧ i ≤ n ∧ gI s 15 0 = (tkK n b i : Int) ∧ gI s 15 1 = (tkP n b i : Int) ∧ gI s 15 6 = (tkX n b i : Int) ∧ (tkK n b i = 1 → gI s 15 2 = (cv 8 (tkY n b i) : Int)) ∧ (tkK n b i = 2 → gI s 15 3 = (tkH n b i : Int))
def cNm (b : Nat → Int) (p m : Nat) : Int := fo (fun k a => w64 ((w64 ((w64 ((w64 (a * 27)) + b (p + k))) - 97)) + 1)) 0 m
def cWh (b : Nat → Int) (p m : Nat) : Int := fo (fun k a => w32 ((w32 ((w32 (a * 10)) + b (p + k))) - 48)) 0 m
section CSCAN
variable {s s1 : St} {n : Nat} {b : Nat → Int}
theorem f15 (s : St) (k : Nat) (x : Int) : Fr (fun a => a = 15) s (pI s 15 k x) := Fr_pI rfl
theorem CTx.fr (h : CTx n b s) (hf : Fr (fun a => a = 15) s s1) (h5 : gI s1 15 5 = gI s 15 5) : CTx n b s1 := by
  obtain ⟨a1, a2, a3, a4, a5⟩ := h
  exact ⟨by rw [hf.sh]; exact a1, by rw [hf.refs]; exact a2, h5.trans a3, a4, fun j hj => (hf.nu (by decide)).trans (a5 j hj)⟩
theorem cNm_e {p : Nat} : ∀ m, m ≤ 8 → (∀ k, k < m → isLB (b (p + k)) = true) → cNm b p m = (cv 8 (wky b p m) : Int)
  | 0, _, _ => by show (0 : Int) = ((cv 8 0 : Nat) : Int); decide
  | m + 1, hm, h => by
    have ih := cNm_e m (by omega) (fun k hk => h k (by omega))
    have v1 := wky_vd (b := b) m (fun k hk => h k (by omega))
    have c1 := vdK_le m 8 _ (by omega) v1
    have cb := cv_b 8 _ c1.1
    have hl := h m (by omega)
    unfold isLB at hl
    simp at hl
    have e : cNm b p (m + 1) = w64 ((w64 ((w64 ((w64 (cNm b p m * 27)) + b (p + m))) - 97)) + 1) := rfl
    rw [e, ih, wky_cv h (by omega)]
    generalize cv 8 (wky b p m) = y at *
    have p8 : (27 : Nat) ^ 8 = 282429536481 := by decide
    rw [p8] at cb
    rw [w64e (x := (y : Int) * 27) (by omega), w64e (x := (y : Int) * 27 + b (p + m)) (by omega), w64e (x := (y : Int) * 27 + b (p + m) - 97) (by omega), w64e (by omega)]
    omega
theorem cWh_e {p : Nat} : ∀ m, m ≤ 3 → (∀ k, k < m → isDB (b (p + k)) = true) → cWh b p m = (wno b p m : Int)
  | 0, _, _ => rfl
  | m + 1, hm, h => by
    have ih := cWh_e m (by omega) (fun k hk => h k (by omega))
    have wb := wno_b (b := b) m (fun k hk => h k (by omega))
    have p3 : 10 ^ m ≤ 10 ^ 2 := Nat.pow_le_pow_right (by decide) (by omega)
    have hl := h m (by omega)
    unfold isDB at hl
    simp at hl
    have e : cWh b p (m + 1) = w32 ((w32 ((w32 (cWh b p m * 10)) + b (p + m))) - 48) := rfl
    rw [e, ih, wno_s]
    generalize wno b p m = y at *
    rw [w32e (x := (y : Int) * 10) (by omega), w32e (x := (y : Int) * 10 + b (p + m)) (by omega), w32e (by omega)]
    omega
theorem c_readWord {p : Nat} (h : CTx n b s) (hp : p ≤ n) (h6 : gI s 15 6 = (p : Int)) (h1 : gI s 15 1 = (p : Int)) : ∃ s1, X8_readWord s 15 = some (0, s1) ∧ Fr (fun a => a = 15) s s1 ∧ gI s1 15 5 = gI s 15 5 ∧ gI s1 15 1 = (p : Int) ∧ gI s1 15 6 = (tkW n b p : Int) ∧ gI s1 15 0 = (if tkW n b p - p ≤ 8 then 1 else 4) ∧ gI s1 15 2 = cNm b p (tkW n b p - p) := by
  obtain ⟨hS, h4, h5, h8, hb⟩ := h
  have ad := adv_ok (fun k => isLB (b k)) hp
  have e8 : tkW n b p = adv (fun k => isLB (b k)) n p := rfl
  rw [← e8] at ad
  obtain ⟨a1, a2, a3, a4⟩ := ad
  have loop : ∃ s1, X8_readWord_b5 FU (pI s 15 2 0) 15 = some (0, s1) ∧ Fr (fun a => a = 15) s s1 ∧ gI s1 15 5 = gI s 15 5 ∧ gI s1 15 1 = (p : Int) ∧ gI s1 15 6 = (tkW n b p : Int) ∧ gI s1 15 0 = (if tkW n b p - p ≤ 8 then 1 else 4) ∧ gI s1 15 2 = cNm b p (tkW n b p - p) := by
    unfold X8_readWord_b5
    refine iter_inv (Q := fun G => ∃ s1, G = some (0, s1) ∧ Fr (fun a => a = 15) s s1 ∧ gI s1 15 5 = gI s 15 5 ∧ gI s1 15 1 = (p : Int) ∧ gI s1 15 6 = (tkW n b p : Int) ∧ gI s1 15 0 = (if tkW n b p - p ≤ 8 then 1 else 4) ∧ gI s1 15 2 = cNm b p (tkW n b p - p))
      (fun (k : Nat) (a : St × Int) => ∃ s2, a = (s2, 15) ∧ Fr (fun a => a = 15) s s2 ∧ gI s2 15 5 = gI s 15 5 ∧ gI s2 15 1 = (p : Int) ∧ gI s2 15 6 = ((p + k : Nat) : Int) ∧ gI s2 15 2 = cNm b p k)
      (tkW n b p - p) FU (pI s 15 2 0, 15) (by unfold FU; omega) ⟨pI s 15 2 0, rfl, Fr_pI rfl, by simp [gI_pI], by simp [gI_pI, h1], by simp [gI_pI, h6], by simp [gI_pI]; rfl⟩ (fun k hk a ha => ?_) (fun a ha rec => ?_)
    · obtain ⟨s2, rfl, hf, e5, e1, e6, e2⟩ := ha
      have hS2 : Sh s2 := by rw [hf.sh]; exact hS
      have r4 : gR s2 15 4 = 1 := by rw [hf.refs]; exact h4
      have en : cNm b p (k + 1) = w64 ((w64 ((w64 ((w64 (cNm b p k * 27)) + b (p + k))) - 97)) + 1) := rfl
      obtain ⟨q, hq⟩ : ∃ q : Nat, p + k = q := ⟨_, rfl⟩
      have hq1 : p + (k + 1) = q + 1 := by omega
      rw [hq] at e6 en
      have eb : gI s2 1 q = b q := (hf.nu (by decide)).trans (hb _ (by omega))
      have hl := a1 q (by omega) (by omega)
      have g1 : ¬ n ≤ q := by omega
      have g2 : (q : Int) < 800 := by omega
      have hw := wk1 (k := q) (by omega)
      rw [hq1]
      refine ⟨(pI (pI s2 15 2 (cNm b p (k + 1))) 15 6 ((q + 1 : Nat) : Int), 15), ⟨_, rfl, hf.trans ((f15 _ _ _).trans (f15 _ _ _)), by simp [gI_pI, e5], by simp [gI_pI, e1], by simp [gI_pI], by simp [gI_pI]⟩, fun rec => ?_⟩
      simp only [X8_readWord_b5_body]
      rw [e5, h5, e6, r4, en]
      simp [tF, isK, shF hS2, g1, g2, gI_pI, e6, e2, r4, hw, eb, c_let, hl]
    · obtain ⟨s2, rfl, hf, e5, e1, e6, e2⟩ := ha
      have hS2 : Sh s2 := by rw [hf.sh]; exact hS
      have r4 : gR s2 15 4 = 1 := by rw [hf.refs]; exact h4
      have ew : p + (tkW n b p - p) = tkW n b p := by omega
      rw [ew] at e6
      have w1 : w32 ((tkW n b p : Int) - (p : Int)) = ((tkW n b p - p : Nat) : Int) := (w32e (by omega)).trans (by omega)
      have fin : X8_readWord_b73 s2 15 = some (0, pI s2 15 0 (if tkW n b p - p ≤ 8 then 1 else 4)) := by
        unfold X8_readWord_b73 X8_readWord_b93
        rw [e6, e1, w1]
        by_cases y : tkW n b p - p ≤ 8
        · rw [if_pos (by clear w1; omega), if_pos y]; simp [tF, isK, shF hS2]
        · rw [if_neg (by clear w1; omega), if_neg y]; simp [tF, isK, shF hS2]
      generalize (if tkW n b p - p ≤ 8 then (1 : Int) else 4) = kk at fin ⊢
      refine ⟨pI s2 15 0 kk, ?_, hf.trans (f15 _ _ _), by simp [gI_pI, e5], by simp [gI_pI, e1], by simp [gI_pI, e6], by simp [gI_pI], by simp [gI_pI, e2]⟩
      simp only [X8_readWord_b5_body]
      rw [e5, h5, e6, r4]
      by_cases y : n ≤ tkW n b p
      · rw [if_pos (by clear w1; omega)]; simp [tF, isK, shF hS2, fin]
      · have hl := a4 (by clear w1; omega)
        have eb : gI s2 1 (tkW n b p) = b (tkW n b p) := (hf.nu (by decide)).trans (hb _ (by clear w1; omega))
        have g2 : (tkW n b p : Int) < 800 := by clear w1; omega
        rw [if_neg (by clear w1; omega)]
        simp [tF, isK, shF hS2, g2, eb, c_let, hl, fin]
  obtain ⟨s1, l1, l2⟩ := loop
  refine ⟨s1, ?_, l2⟩
  unfold X8_readWord
  simp [tF, isK, shF hS, l1]
theorem c_readWhole {p : Nat} (h : CTx n b s) (hp : p ≤ n) (h6 : gI s 15 6 = (p : Int)) (h1 : gI s 15 1 = (p : Int)) : ∃ s1, X8_readWhole s 15 = some (0, s1) ∧ Fr (fun a => a = 15) s s1 ∧ gI s1 15 5 = gI s 15 5 ∧ gI s1 15 1 = (p : Int) ∧ gI s1 15 6 = (tkN n b p : Int) ∧ gI s1 15 0 = (if tkN n b p - p ≤ 3 then 2 else 4) ∧ gI s1 15 3 = cWh b p (tkN n b p - p) := by
  obtain ⟨hS, h4, h5, h8, hb⟩ := h
  have ad := adv_ok (fun k => isDB (b k)) hp
  have e8 : tkN n b p = adv (fun k => isDB (b k)) n p := rfl
  rw [← e8] at ad
  obtain ⟨a1, a2, a3, a4⟩ := ad
  have loop : ∃ s1, X8_readWhole_b5 FU (pI s 15 3 0) 15 = some (0, s1) ∧ Fr (fun a => a = 15) s s1 ∧ gI s1 15 5 = gI s 15 5 ∧ gI s1 15 1 = (p : Int) ∧ gI s1 15 6 = (tkN n b p : Int) ∧ gI s1 15 0 = (if tkN n b p - p ≤ 3 then 2 else 4) ∧ gI s1 15 3 = cWh b p (tkN n b p - p) := by
    unfold X8_readWhole_b5
    refine iter_inv (Q := fun G => ∃ s1, G = some (0, s1) ∧ Fr (fun a => a = 15) s s1 ∧ gI s1 15 5 = gI s 15 5 ∧ gI s1 15 1 = (p : Int) ∧ gI s1 15 6 = (tkN n b p : Int) ∧ gI s1 15 0 = (if tkN n b p - p ≤ 3 then 2 else 4) ∧ gI s1 15 3 = cWh b p (tkN n b p - p))
      (fun (k : Nat) (a : St × Int) => ∃ s2, a = (s2, 15) ∧ Fr (fun a => a = 15) s s2 ∧ gI s2 15 5 = gI s 15 5 ∧ gI s2 15 1 = (p : Int) ∧ gI s2 15 6 = ((p + k : Nat) : Int) ∧ gI s2 15 3 = cWh b p k)
      (tkN n b p - p) FU (pI s 15 3 0, 15) (by unfold FU; omega) ⟨pI s 15 3 0, rfl, Fr_pI rfl, by simp [gI_pI], by simp [gI_pI, h1], by simp [gI_pI, h6], by simp [gI_pI]; rfl⟩ (fun k hk a ha => ?_) (fun a ha rec => ?_)
    · obtain ⟨s2, rfl, hf, e5, e1, e6, e2⟩ := ha
      have hS2 : Sh s2 := by rw [hf.sh]; exact hS
      have r4 : gR s2 15 4 = 1 := by rw [hf.refs]; exact h4
      have en : cWh b p (k + 1) = w32 ((w32 ((w32 (cWh b p k * 10)) + b (p + k))) - 48) := rfl
      obtain ⟨q, hq⟩ : ∃ q : Nat, p + k = q := ⟨_, rfl⟩
      have hq1 : p + (k + 1) = q + 1 := by omega
      rw [hq] at e6 en
      have eb : gI s2 1 q = b q := (hf.nu (by decide)).trans (hb _ (by omega))
      have hl := a1 q (by omega) (by omega)
      have g1 : ¬ n ≤ q := by omega
      have g2 : (q : Int) < 800 := by omega
      have hw := wk1 (k := q) (by omega)
      rw [hq1]
      refine ⟨(pI (pI s2 15 3 (cWh b p (k + 1))) 15 6 ((q + 1 : Nat) : Int), 15), ⟨_, rfl, hf.trans ((f15 _ _ _).trans (f15 _ _ _)), by simp [gI_pI, e5], by simp [gI_pI, e1], by simp [gI_pI], by simp [gI_pI]⟩, fun rec => ?_⟩
      simp only [X8_readWhole_b5_body]
      rw [e5, h5, e6, r4, en]
      simp [tF, isK, shF hS2, g1, g2, gI_pI, e6, e2, r4, hw, eb, c_dig, hl]
    · obtain ⟨s2, rfl, hf, e5, e1, e6, e2⟩ := ha
      have hS2 : Sh s2 := by rw [hf.sh]; exact hS
      have r4 : gR s2 15 4 = 1 := by rw [hf.refs]; exact h4
      have ew : p + (tkN n b p - p) = tkN n b p := by omega
      rw [ew] at e6
      have w1 : w32 ((tkN n b p : Int) - (p : Int)) = ((tkN n b p - p : Nat) : Int) := (w32e (by omega)).trans (by omega)
      have fin : X8_readWhole_b68 s2 15 = some (0, pI s2 15 0 (if tkN n b p - p ≤ 3 then 2 else 4)) := by
        unfold X8_readWhole_b68 X8_readWhole_b87
        rw [e6, e1, w1]
        by_cases y : tkN n b p - p ≤ 3
        · rw [if_pos (by clear w1; omega), if_pos y]; simp [tF, isK, shF hS2]
        · rw [if_neg (by clear w1; omega), if_neg y]; simp [tF, isK, shF hS2]
      generalize (if tkN n b p - p ≤ 3 then (2 : Int) else 4) = kk at fin ⊢
      refine ⟨pI s2 15 0 kk, ?_, hf.trans (f15 _ _ _), by simp [gI_pI, e5], by simp [gI_pI, e1], by simp [gI_pI, e6], by simp [gI_pI], by simp [gI_pI, e2]⟩
      simp only [X8_readWhole_b5_body]
      rw [e5, h5, e6, r4]
      by_cases y : n ≤ tkN n b p
      · rw [if_pos (by clear w1; omega)]; simp [tF, isK, shF hS2, fin]
      · have hl := a4 (by clear w1; omega)
        have eb : gI s2 1 (tkN n b p) = b (tkN n b p) := (hf.nu (by decide)).trans (hb _ (by clear w1; omega))
        have g2 : (tkN n b p : Int) < 800 := by clear w1; omega
        rw [if_neg (by clear w1; omega)]
        simp [tF, isK, shF hS2, g2, eb, c_dig, hl, fin]
  obtain ⟨s1, l1, l2⟩ := loop
  refine ⟨s1, ?_, l2⟩
  unfold X8_readWhole
  simp [tF, isK, shF hS, l1]
theorem c_b38 {i : Nat} (h : CTx n b s) (hi : i ≤ n) (h6 : gI s 15 6 = (tkP n b i : Int)) : ∃ s1, X8_step_b38 s 15 = some (0, s1) ∧ Fr (fun a => a = 15) s s1 ∧ CTk n b s1 i := by
  have h0 := h
  obtain ⟨hS, h4, h5, h8, hb⟩ := h
  obtain ⟨p1, p2⟩ := tkP_ok (b := b) hi
  have hx1 : CTx n b (pI s 15 1 (tkP n b i : Int)) := h0.fr (f15 _ _ _) (by simp [gI_pI])
  have hS1 := hx1.1
  have kK : tkK n b i = if n ≤ tkP n b i then 0 else if isLB (b (tkP n b i)) = true then (if tkW n b (tkP n b i) - tkP n b i ≤ 8 then 1 else 4) else if isDB (b (tkP n b i)) = true then (if tkN n b (tkP n b i) - tkP n b i ≤ 3 then 2 else 4) else if b (tkP n b i) = 59 then 3 else 4 := rfl
  have kX : tkX n b i = if n ≤ tkP n b i then tkP n b i else if isLB (b (tkP n b i)) = true then tkW n b (tkP n b i) else if isDB (b (tkP n b i)) = true then tkN n b (tkP n b i) else tkP n b i + 1 := rfl
  have kY : tkY n b i = wky b (tkP n b i) (tkW n b (tkP n b i) - tkP n b i) := rfl
  have kH : tkH n b i = wno b (tkP n b i) (tkN n b (tkP n b i) - tkP n b i) := rfl
  unfold CTk
  rw [kK, kX, kY, kH]
  generalize tkP n b i = p at *
  have q6 : gI (pI s 15 1 (p : Int)) 15 6 = (p : Int) := by simp [gI_pI, h6]
  have q1 : gI (pI s 15 1 (p : Int)) 15 1 = (p : Int) := by simp [gI_pI]
  have q5 : gI (pI s 15 1 (p : Int)) 15 5 = (n : Int) := by simp [gI_pI, h5]
  have r4 : gR (pI s 15 1 (p : Int)) 15 4 = 1 := h4
  have fr1 := f15 s 1 (p : Int)
  by_cases y : n ≤ p
  · refine ⟨pI (pI s 15 1 (p : Int)) 15 0 0, ?_, fr1.trans (f15 _ _ _), ⟨hx1.fr (f15 _ _ _) (by simp [gI_pI]), hi, ?_⟩⟩
    · have g1 : ¬ (p : Int) < (n : Int) := by omega
      have g2 : ¬ p < n := by omega
      unfold X8_step_b38 X8_step_b142
      rw [h6]
      simp [tF, isK, shF hS, gI_pI, h6, h5, g2]
    · simp [gI_pI, y, h6]
  · have g1 : p < n := by omega
    have g8 : (p : Int) < 800 := by omega
    have eb : gI (pI s 15 1 (p : Int)) 1 p = b p := by rw [gI_pI, if_neg (by simp)]; exact hb p g1
    have eb0 : gI s 1 p = b p := hb p g1
    by_cases y1 : isLB (b p) = true
    · obtain ⟨s2, e2, f2, c5, c1, c6, c0, c2⟩ := c_readWord hx1 p2 q6 q1
      have adw := adv_ok (fun k => isLB (b k)) p2
      refine ⟨s2, ?_, fr1.trans f2, ⟨hx1.fr f2 c5, hi, ?_, c1, ?_, fun hk => ?_, fun hk => ?_⟩⟩
      · unfold X8_step_b38 X8_step_b142
        rw [h6]
        simp [tF, isK, shF hS, gI_pI, h6, h5, g1, g8, h4, eb0, c_let, y1, e2]
      · rw [c0, if_neg y, if_pos y1]; split <;> rfl
      · rw [c6, if_neg y, if_pos y1]
      · rw [if_neg y, if_pos y1] at hk
        by_cases z : tkW n b p - p ≤ 8
        · rw [c2]
          exact cNm_e _ z (fun k hk2 => adw.1 _ (by omega) (by unfold tkW at hk2; omega))
        · rw [if_neg z] at hk; omega
      · rw [if_neg y, if_pos y1] at hk
        split at hk <;> omega
    · by_cases y2 : isDB (b p) = true
      · obtain ⟨s2, e2, f2, c5, c1, c6, c0, c2⟩ := c_readWhole hx1 p2 q6 q1
        have adw := adv_ok (fun k => isDB (b k)) p2
        refine ⟨s2, ?_, fr1.trans f2, ⟨hx1.fr f2 c5, hi, ?_, c1, ?_, fun hk => ?_, fun hk => ?_⟩⟩
        · unfold X8_step_b38 X8_step_b142
          rw [h6]
          simp [tF, isK, shF hS, gI_pI, h6, h5, g1, g8, h4, eb0, c_let, c_dig, y1, y2, e2]
        · rw [c0, if_neg y, if_neg y1, if_pos y2]; split <;> rfl
        · rw [c6, if_neg y, if_neg y1, if_pos y2]
        · rw [if_neg y, if_neg y1, if_pos y2] at hk
          split at hk <;> omega
        · rw [if_neg y, if_neg y1, if_pos y2] at hk
          by_cases z : tkN n b p - p ≤ 3
          · rw [c2]
            exact cWh_e _ z (fun k hk2 => adw.1 _ (by omega) (by unfold tkN at hk2; omega))
          · rw [if_neg z] at hk; omega
      · have hw := wk1 (k := p) (by omega)
        refine ⟨pI (pI (pI s 15 1 (p : Int)) 15 0 (if b p = 59 then 3 else 4)) 15 6 ((p + 1 : Nat) : Int), ?_, fr1.trans ((f15 _ _ _).trans (f15 _ _ _)), ⟨(hx1.fr (f15 _ _ _) (by simp [gI_pI])).fr (f15 _ _ _) (by simp [gI_pI]), hi, ?_, by simp [gI_pI], ?_, fun hk => ?_, fun hk => ?_⟩⟩
        · unfold X8_step_b38 X8_step_b142
          rw [h6]
          by_cases y3 : b p = 59
          · simp [tF, isK, shF hS, gI_pI, h6, h5, g1, g8, h4, eb0, c_let, c_dig, y1, y2, y3, X8_step_b129, X8_step_b142, hw]
            simp [isLB, isDB, tF, isK, shF hS, gI_pI, h6, h5, g1, g8, h4, eb0, c_let, c_dig, X8_step_b129, X8_step_b142, hw]
          · simp [tF, isK, shF hS, gI_pI, h6, h5, g1, g8, h4, eb0, c_let, c_dig, y1, y2, y3, X8_step_b129, X8_step_b142, hw]
        · rw [if_neg y, if_neg y1, if_neg y2]
          simp [gI_pI]
          split <;> rfl
        · rw [if_neg y, if_neg y1, if_neg y2]
          simp [gI_pI]
        · rw [if_neg y, if_neg y1, if_neg y2] at hk
          split at hk <;> omega
        · rw [if_neg y, if_neg y1, if_neg y2] at hk
          split at hk <;> omega
theorem c_step {i : Nat} (h : CTx n b s) (hi : i ≤ n) (h6 : gI s 15 6 = (i : Int)) : ∃ s1, X8_step s 15 = some (0, s1) ∧ Fr (fun a => a = 15) s s1 ∧ CTk n b s1 i := by
  have h0 := h
  obtain ⟨hS, h4, h5, h8, hb⟩ := h
  have ad := adv_ok (fun k => decide (b k = 32)) hi
  have e8 : tkP n b i = adv (fun k => decide (b k = 32)) n i := rfl
  rw [← e8] at ad
  obtain ⟨a1, a2, a3, a4⟩ := ad
  unfold X8_step X8_step_b0
  refine iter_inv (Q := fun G => ∃ s1, G = some (0, s1) ∧ Fr (fun a => a = 15) s s1 ∧ CTk n b s1 i)
    (fun (k : Nat) (a : St × Int) => ∃ s2, a = (s2, 15) ∧ Fr (fun a => a = 15) s s2 ∧ gI s2 15 5 = gI s 15 5 ∧ gI s2 15 6 = ((i + k : Nat) : Int))
    (tkP n b i - i) FU (s, 15) (by unfold FU; omega) ⟨s, rfl, Fr.refl _ s, rfl, h6⟩ (fun k hk a ha => ?_) (fun a ha rec => ?_)
  · obtain ⟨s2, rfl, hf, e5, e6⟩ := ha
    have hS2 : Sh s2 := by rw [hf.sh]; exact hS
    have r4 : gR s2 15 4 = 1 := by rw [hf.refs]; exact h4
    obtain ⟨q, hq⟩ : ∃ q : Nat, i + k = q := ⟨_, rfl⟩
    have hq1 : i + (k + 1) = q + 1 := by omega
    rw [hq] at e6
    have eb : gI s2 1 q = b q := (hf.nu (by decide)).trans (hb _ (by omega))
    have hl := a1 q (by omega) (by omega)
    simp at hl
    have g1 : ¬ n ≤ q := by omega
    have g2 : (q : Int) < 800 := by omega
    have hw := wk1 (k := q) (by omega)
    rw [hq1]
    refine ⟨(pI s2 15 6 ((q + 1 : Nat) : Int), 15), ⟨_, rfl, hf.trans (f15 _ _ _), by simp [gI_pI, e5], by simp [gI_pI]⟩, fun rec => ?_⟩
    simp only [X8_step_b0_body]
    rw [e5, h5, e6, r4]
    simp [tF, isK, shF hS2, g1, g2, hw, eb, hl]
  · obtain ⟨s2, rfl, hf, e5, e6⟩ := ha
    have hS2 : Sh s2 := by rw [hf.sh]; exact hS
    have r4 : gR s2 15 4 = 1 := by rw [hf.refs]; exact h4
    rw [show i + (tkP n b i - i) = tkP n b i by omega] at e6
    obtain ⟨s3, e3, f3, c3⟩ := c_b38 (h0.fr hf e5) hi e6
    refine ⟨s3, ?_, hf.trans f3, c3⟩
    simp only [X8_step_b0_body]
    rw [e5, h5, e6, r4, e3]
    by_cases y : n ≤ tkP n b i
    · rw [if_pos (by omega)]; simp [tF, isK, shF hS2]
    · have hl := a4 (by omega)
      simp at hl
      have eb : gI s2 1 (tkP n b i) = b (tkP n b i) := (hf.nu (by decide)).trans (hb _ (by omega))
      have g2 : (tkP n b i : Int) < 800 := by omega
      rw [if_neg (by omega)]
      simp [tF, isK, shF hS2, g2, eb, hl]
end CSCAN
