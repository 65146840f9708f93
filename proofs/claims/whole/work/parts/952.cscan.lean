/-! the class's tokens -/
theorem c_s49 (s : St) (x : Int) : X8_sortAt_b49 s x = some (if x = 59 then 3 else if x = 32 then 5 else 4, s) := by
  unfold X8_sortAt_b49 X8_sortAt_b68
  by_cases h : x = 59
  · rw [if_neg (fun z => z h), if_pos h]
  · rw [if_pos h, if_neg h]
    by_cases h2 : x = 32
    · rw [if_neg (fun z => z h2), if_pos h2]
    · rw [if_pos h2, if_neg h2]
theorem c_s35 (s : St) (x : Int) : X8_sortAt_b35 s x = some (if isDB x = true then 2 else if x = 59 then 3 else if x = 32 then 5 else 4, s) := by
  unfold X8_sortAt_b35
  rw [c_s49]
  unfold isDB
  by_cases h : x < 48
  · rw [if_pos h, if_neg (c := decide (48 ≤ x ∧ x ≤ 57) = true) (by simp; omega)]
  · rw [if_neg h]
    by_cases h2 : 57 < x
    · rw [if_pos h2, if_neg (c := decide (48 ≤ x ∧ x ≤ 57) = true) (by simp; omega)]
    · rw [if_neg h2, if_pos (c := decide (48 ≤ x ∧ x ≤ 57) = true) (by simp; omega)]
/-- the sort of token that a byte begins -/
def sorF (n : Nat) (b : Nat → Int) (j : Nat) : Int := if n ≤ j then 0 else if isLB (b j) = true then 1 else if isDB (b j) = true then 2 else if b j = 59 then 3 else if b j = 32 then 5 else 4
theorem lb_db {x : Int} (h : isLB x = true) : isDB x = false := by
  unfold isLB at h
  unfold isDB
  simp at h ⊢
  omega
theorem lb_32 {x : Int} (h : isLB x = true) : ¬ x = 32 := by
  unfold isLB at h
  simp at h
  omega
theorem db_32 {x : Int} (h : isDB x = true) : ¬ x = 32 := by
  unfold isDB at h
  simp at h
  omega
theorem sor_1 {n : Nat} {b : Nat → Int} {j : Nat} (h1 : j < n) (h2 : isLB (b j) = true) : sorF n b j = 1 := by
  unfold sorF; rw [if_neg (by omega), if_pos h2]
theorem sor_n1 {n : Nat} {b : Nat → Int} {j : Nat} (h2 : isLB (b j) = false) : ¬ sorF n b j = 1 := by
  unfold sorF
  rw [if_neg (c := isLB (b j) = true) (by rw [h2]; decide)]
  repeat' split
  all_goals decide
theorem sor_2 {n : Nat} {b : Nat → Int} {j : Nat} (h1 : j < n) (h2 : isDB (b j) = true) : sorF n b j = 2 := by
  have h3 : ¬ isLB (b j) = true := fun z => by rw [lb_db z] at h2; cases h2
  unfold sorF; rw [if_neg (by omega), if_neg h3, if_pos h2]
theorem sor_n2 {n : Nat} {b : Nat → Int} {j : Nat} (h2 : isDB (b j) = false) : ¬ sorF n b j = 2 := by
  unfold sorF
  rw [if_neg (c := isDB (b j) = true) (by rw [h2]; decide)]
  repeat' split
  all_goals decide
theorem sor_5 {n : Nat} {b : Nat → Int} {j : Nat} (h1 : j < n) (h2 : b j = 32) : sorF n b j = 5 := by
  unfold sorF; rw [if_neg (by omega), h2, if_neg (by decide), if_neg (by decide), if_neg (by decide), if_pos rfl]
theorem sor_n5 {n : Nat} {b : Nat → Int} {j : Nat} (h2 : ¬ b j = 32) : ¬ sorF n b j = 5 := by
  unfold sorF
  rw [if_neg h2]
  repeat' split
  all_goals decide
/-- the text as the class holds it -/
def CTx (n : Nat) (b : Nat → Int) (s : St) : Prop := Sh s ∧ gR s 15 3 = 1 ∧ gI s 15 4 = (n : Int) ∧ n ≤ 800 ∧ ∀ j, j < n → gI s 1 j = b j
def CTk (n : Nat) (b : Nat → Int) (s : St) (i : Nat) : Prop := CTx n b s ∧ i ≤ n ∧ gI s 15 0 = (tkK n b i : Int) ∧ gI s 15 1 = (tkP n b i : Int) ∧ gI s 15 5 = (tkX n b i : Int) ∧ (tkK n b i = 1 → gI s 15 2 = (cv 8 (tkY n b i) : Int)) ∧ (tkK n b i = 2 → gI s 15 2 = (tkH n b i : Int))
def cNm (b : Nat → Int) (p m : Nat) : Int := fo (fun k a => w64 ((w64 ((w64 ((w64 (a * 27)) + b (p + k))) - 97)) + 1)) 0 m
def cWh (b : Nat → Int) (p m : Nat) : Int := fo (fun k a => w64 ((w64 ((w64 (a * 10)) + b (p + k))) - 48)) 0 m
section CSCAN
variable {s s1 : St} {n : Nat} {b : Nat → Int}
theorem f15 (s : St) (k : Nat) (x : Int) : Fr (fun a => a = 15) s (pI s 15 k x) := Fr_pI rfl
theorem CTx.fr (h : CTx n b s) (hf : Fr (fun a => a = 15) s s1) (h5 : gI s1 15 4 = gI s 15 4) : CTx n b s1 := by
  obtain ⟨a1, a2, a3, a4, a5⟩ := h
  exact ⟨by rw [hf.sh]; exact a1, by rw [hf.refs]; exact a2, h5.trans a3, a4, fun j hj => (hf.nu (by decide)).trans (a5 j hj)⟩
theorem c_sort (h : CTx n b s) (j : Nat) : X8_sortAt s 15 (j : Int) = some (sorF n b j, s) := by
  obtain ⟨hS, h4, h5, h8, hb⟩ := h
  have k15 : isK s 18 15 := ⟨by decide, kd_15 hS⟩
  have k1 : isK s 2 1 := ⟨by decide, kd_1 hS⟩
  unfold X8_sortAt X8_sortAt_b12
  rw [if_neg (by omega), grd_t k15, h5]
  by_cases y : n ≤ j
  · rw [if_neg (by omega)]
    unfold sorF
    rw [if_pos y]
  · rw [if_pos (by omega), grd_t k15, h4, grd_t ⟨k1, by omega, by rw [ln_1 hS]; omega⟩, letv_e, Int.toNat_natCast, hb j (by omega), c_s35]
    unfold sorF
    rw [if_neg y]
    unfold isLB
    by_cases h : b j < 97
    · rw [if_pos h, if_neg (c := decide (97 ≤ b j ∧ b j ≤ 122) = true) (by simp; omega)]
    · rw [if_neg h]
      by_cases h2 : 122 < b j
      · rw [if_pos h2, if_neg (c := decide (97 ≤ b j ∧ b j ≤ 122) = true) (by simp; omega)]
      · rw [if_neg h2, if_pos (c := decide (97 ≤ b j ∧ b j ≤ 122) = true) (by simp; omega)]
theorem cNm_e {p : Nat} : ∀ m, m ≤ 8 → (∀ k, k < m → isLB (b (p + k)) = true) → cNm b p m = (cv 8 (wky b p m) : Int)
  | 0, _, _ => by show (0 : Int) = ((cv 8 0 : Nat) : Int); decide
  | m + 1, hm, h => by
    have ih := cNm_e m (by omega) (fun k hk => h k (by omega))
    have v1 := wky_vd (b := b) m (fun k hk => h k (by omega))
    have c1 := vdK_le m 8 _ (by omega) v1
    have cb := cv_b 8 _ c1.1
    have hl := h m (by omega)
    unfold isLB at hl
    simp at hl
    have e : cNm b p (m + 1) = w64 ((w64 ((w64 ((w64 (cNm b p m * 27)) + b (p + m))) - 97)) + 1) := rfl
    rw [e, ih, wky_cv h (by omega)]
    generalize cv 8 (wky b p m) = y at *
    have p8 : (27 : Nat) ^ 8 = 282429536481 := by decide
    rw [p8] at cb
    rw [w64e (x := (y : Int) * 27) (by omega), w64e (x := (y : Int) * 27 + b (p + m)) (by omega), w64e (x := (y : Int) * 27 + b (p + m) - 97) (by omega), w64e (by omega)]
    omega
theorem cWh_e {p : Nat} : ∀ m, m ≤ 3 → (∀ k, k < m → isDB (b (p + k)) = true) → cWh b p m = (wno b p m : Int)
  | 0, _, _ => rfl
  | m + 1, hm, h => by
    have ih := cWh_e m (by omega) (fun k hk => h k (by omega))
    have wb := wno_b (b := b) m (fun k hk => h k (by omega))
    have p3 : 10 ^ m ≤ 10 ^ 2 := Nat.pow_le_pow_right (by decide) (by omega)
    have hl := h m (by omega)
    unfold isDB at hl
    simp at hl
    have e : cWh b p (m + 1) = w64 ((w64 ((w64 (cWh b p m * 10)) + b (p + m))) - 48) := rfl
    rw [e, ih, wno_s]
    generalize wno b p m = y at *
    rw [w64e (x := (y : Int) * 10) (by omega), w64e (x := (y : Int) * 10 + b (p + m)) (by omega), w64e (by omega)]
    omega
theorem c_readWord {p : Nat} (h : CTx n b s) (hp : p ≤ n) (h6 : gI s 15 5 = (p : Int)) (h1 : gI s 15 1 = (p : Int)) (h2 : gI s 15 2 = 0) : ∃ s1, X8_step_b69 FU s 15 = some (0, s1) ∧ Fr (fun a => a = 15) s s1 ∧ gI s1 15 4 = gI s 15 4 ∧ gI s1 15 1 = (p : Int) ∧ gI s1 15 5 = (tkW n b p : Int) ∧ gI s1 15 0 = (if tkW n b p - p ≤ 8 then 1 else 4) ∧ gI s1 15 2 = cNm b p (tkW n b p - p) := by
  have h0 := h
  obtain ⟨hS, h4, h5, h8, hb⟩ := h
  have ad := adv_ok (fun k => isLB (b k)) hp
  have e8 : tkW n b p = adv (fun k => isLB (b k)) n p := rfl
  rw [← e8] at ad
  obtain ⟨a1, a2, a3, a4⟩ := ad
  unfold X8_step_b69
  refine iter_inv (Q := fun G => ∃ s1, G = some (0, s1) ∧ Fr (fun a => a = 15) s s1 ∧ gI s1 15 4 = gI s 15 4 ∧ gI s1 15 1 = (p : Int) ∧ gI s1 15 5 = (tkW n b p : Int) ∧ gI s1 15 0 = (if tkW n b p - p ≤ 8 then 1 else 4) ∧ gI s1 15 2 = cNm b p (tkW n b p - p))
    (fun (k : Nat) (a : St × Int) => ∃ s2, a = (s2, 15) ∧ Fr (fun a => a = 15) s s2 ∧ gI s2 15 4 = gI s 15 4 ∧ gI s2 15 1 = (p : Int) ∧ gI s2 15 5 = ((p + k : Nat) : Int) ∧ gI s2 15 2 = cNm b p k)
    (tkW n b p - p) FU (s, 15) (by unfold FU; omega) ⟨s, rfl, Fr.refl _ s, rfl, h1, h6, h2⟩ (fun k hk a ha => ?_) (fun a ha rec => ?_)
  · obtain ⟨s2, rfl, hf, e5, e1, e6, e2⟩ := ha
    have hS2 : Sh s2 := by rw [hf.sh]; exact hS
    have r4 : gR s2 15 3 = 1 := by rw [hf.refs]; exact h4
    have en : cNm b p (k + 1) = w64 ((w64 ((w64 ((w64 (cNm b p k * 27)) + b (p + k))) - 97)) + 1) := rfl
    obtain ⟨q, hq⟩ : ∃ q : Nat, p + k = q := ⟨_, rfl⟩
    have hq1 : p + (k + 1) = q + 1 := by omega
    rw [hq] at e6 en
    have eb : gI s2 1 q = b q := (hf.nu (by decide)).trans (hb _ (by omega))
    have hl := a1 q (by omega) (by omega)
    have g1 : ¬ n ≤ q := by omega
    have g2 : (q : Int) < 800 := by omega
    have hw := wk1 (k := q) (by omega)
    rw [hq1]
    refine ⟨(pI (pI s2 15 2 (cNm b p (k + 1))) 15 5 ((q + 1 : Nat) : Int), 15), ⟨_, rfl, hf.trans ((f15 _ _ _).trans (f15 _ _ _)), by simp [gI_pI, e5], by simp [gI_pI, e1], by simp [gI_pI], by simp [gI_pI]⟩, fun rec => ?_⟩
    have es : X8_sortAt s2 15 (q : Int) = some (1, s2) := by rw [c_sort (h0.fr hf e5), sor_1 (Nat.lt_of_not_le g1) hl]
    simp only [X8_step_b69_body]
    rw [e5, h5, e6, en]
    simp [tF, isK, shF hS2, g1, g2, gI_pI, e6, e2, r4, hw, eb, es]
  · obtain ⟨s2, rfl, hf, e5, e1, e6, e2⟩ := ha
    have hS2 : Sh s2 := by rw [hf.sh]; exact hS
    have r4 : gR s2 15 3 = 1 := by rw [hf.refs]; exact h4
    have ew : p + (tkW n b p - p) = tkW n b p := by omega
    rw [ew] at e6
    have w1 : w32 ((tkW n b p : Int) - (p : Int)) = ((tkW n b p - p : Nat) : Int) := (w32e (by omega)).trans (by omega)
    have fin : X8_step_b134 s2 15 = some (0, pI s2 15 0 (if tkW n b p - p ≤ 8 then 1 else 4)) := by
      unfold X8_step_b134 X8_step_b154 X8_step_b273
      rw [e6, e1, w1]
      by_cases y : tkW n b p - p ≤ 8
      · rw [if_pos (by clear w1; omega), if_pos y]; simp [tF, isK, shF hS2]
      · rw [if_neg (by clear w1; omega), if_neg y]; simp [tF, isK, shF hS2]
    generalize (if tkW n b p - p ≤ 8 then (1 : Int) else 4) = kk at fin ⊢
    refine ⟨pI s2 15 0 kk, ?_, hf.trans (f15 _ _ _), by simp [gI_pI, e5], by simp [gI_pI, e1], by simp [gI_pI, e6], by simp [gI_pI], by simp [gI_pI, e2]⟩
    simp only [X8_step_b69_body]
    rw [e5, h5, e6]
    by_cases y : n ≤ tkW n b p
    · rw [if_pos (by clear w1; omega)]; simp [tF, isK, shF hS2, fin]
    · have hl := a4 (by clear w1; omega)
      have es := c_sort (h0.fr hf e5) (tkW n b p)
      have en := sor_n1 (n := n) (b := b) hl
      rw [if_neg (by clear w1; omega)]
      simp [tF, isK, shF hS2, es, en, fin]
theorem c_readWhole {p : Nat} (h : CTx n b s) (hp : p ≤ n) (h6 : gI s 15 5 = (p : Int)) (h1 : gI s 15 1 = (p : Int)) (h2 : gI s 15 2 = 0) : ∃ s1, X8_step_b168 FU s 15 = some (0, s1) ∧ Fr (fun a => a = 15) s s1 ∧ gI s1 15 4 = gI s 15 4 ∧ gI s1 15 1 = (p : Int) ∧ gI s1 15 5 = (tkN n b p : Int) ∧ gI s1 15 0 = (if tkN n b p - p ≤ 3 then 2 else 4) ∧ gI s1 15 2 = cWh b p (tkN n b p - p) := by
  have h0 := h
  obtain ⟨hS, h4, h5, h8, hb⟩ := h
  have ad := adv_ok (fun k => isDB (b k)) hp
  have e8 : tkN n b p = adv (fun k => isDB (b k)) n p := rfl
  rw [← e8] at ad
  obtain ⟨a1, a2, a3, a4⟩ := ad
  unfold X8_step_b168
  refine iter_inv (Q := fun G => ∃ s1, G = some (0, s1) ∧ Fr (fun a => a = 15) s s1 ∧ gI s1 15 4 = gI s 15 4 ∧ gI s1 15 1 = (p : Int) ∧ gI s1 15 5 = (tkN n b p : Int) ∧ gI s1 15 0 = (if tkN n b p - p ≤ 3 then 2 else 4) ∧ gI s1 15 2 = cWh b p (tkN n b p - p))
    (fun (k : Nat) (a : St × Int) => ∃ s2, a = (s2, 15) ∧ Fr (fun a => a = 15) s s2 ∧ gI s2 15 4 = gI s 15 4 ∧ gI s2 15 1 = (p : Int) ∧ gI s2 15 5 = ((p + k : Nat) : Int) ∧ gI s2 15 2 = cWh b p k)
    (tkN n b p - p) FU (s, 15) (by unfold FU; omega) ⟨s, rfl, Fr.refl _ s, rfl, h1, h6, h2⟩ (fun k hk a ha => ?_) (fun a ha rec => ?_)
  · obtain ⟨s2, rfl, hf, e5, e1, e6, e2⟩ := ha
    have hS2 : Sh s2 := by rw [hf.sh]; exact hS
    have r4 : gR s2 15 3 = 1 := by rw [hf.refs]; exact h4
    have en : cWh b p (k + 1) = w64 ((w64 ((w64 (cWh b p k * 10)) + b (p + k))) - 48) := rfl
    obtain ⟨q, hq⟩ : ∃ q : Nat, p + k = q := ⟨_, rfl⟩
    have hq1 : p + (k + 1) = q + 1 := by omega
    rw [hq] at e6 en
    have eb : gI s2 1 q = b q := (hf.nu (by decide)).trans (hb _ (by omega))
    have hl := a1 q (by omega) (by omega)
    have g1 : ¬ n ≤ q := by omega
    have g2 : (q : Int) < 800 := by omega
    have hw := wk1 (k := q) (by omega)
    rw [hq1]
    refine ⟨(pI (pI s2 15 2 (cWh b p (k + 1))) 15 5 ((q + 1 : Nat) : Int), 15), ⟨_, rfl, hf.trans ((f15 _ _ _).trans (f15 _ _ _)), by simp [gI_pI, e5], by simp [gI_pI, e1], by simp [gI_pI], by simp [gI_pI]⟩, fun rec => ?_⟩
    have es : X8_sortAt s2 15 (q : Int) = some (2, s2) := by rw [c_sort (h0.fr hf e5), sor_2 (Nat.lt_of_not_le g1) hl]
    simp only [X8_step_b168_body]
    rw [e5, h5, e6, en]
    simp [tF, isK, shF hS2, g1, g2, gI_pI, e6, e2, r4, hw, eb, es]
  · obtain ⟨s2, rfl, hf, e5, e1, e6, e2⟩ := ha
    have hS2 : Sh s2 := by rw [hf.sh]; exact hS
    have r4 : gR s2 15 3 = 1 := by rw [hf.refs]; exact h4
    have ew : p + (tkN n b p - p) = tkN n b p := by omega
    rw [ew] at e6
    have w1 : w32 ((tkN n b p : Int) - (p : Int)) = ((tkN n b p - p : Nat) : Int) := (w32e (by omega)).trans (by omega)
    have fin : X8_step_b231 s2 15 = some (0, pI s2 15 0 (if tkN n b p - p ≤ 3 then 2 else 4)) := by
      unfold X8_step_b231 X8_step_b250 X8_step_b273
      rw [e6, e1, w1]
      by_cases y : tkN n b p - p ≤ 3
      · rw [if_pos (by clear w1; omega), if_pos y]; simp [tF, isK, shF hS2]
      · rw [if_neg (by clear w1; omega), if_neg y]; simp [tF, isK, shF hS2]
    generalize (if tkN n b p - p ≤ 3 then (2 : Int) else 4) = kk at fin ⊢
    refine ⟨pI s2 15 0 kk, ?_, hf.trans (f15 _ _ _), by simp [gI_pI, e5], by simp [gI_pI, e1], by simp [gI_pI, e6], by simp [gI_pI], by simp [gI_pI, e2]⟩
    simp only [X8_step_b168_body]
    rw [e5, h5, e6]
    by_cases y : n ≤ tkN n b p
    · rw [if_pos (by clear w1; omega)]; simp [tF, isK, shF hS2, fin]
    · have hl := a4 (by clear w1; omega)
      have es := c_sort (h0.fr hf e5) (tkN n b p)
      have en := sor_n2 (n := n) (b := b) hl
      rw [if_neg (by clear w1; omega)]
      simp [tF, isK, shF hS2, es, en, fin]
theorem c_b36 {i : Nat} (h : CTx n b s) (hi : i ≤ n) (h6 : gI s 15 5 = (tkP n b i : Int)) : ∃ s1, X8_step_b36 s 15 = some (0, s1) ∧ Fr (fun a => a = 15) s s1 ∧ CTk n b s1 i := by
  have h0 := h
  obtain ⟨hS, h4, h5, h8, hb⟩ := h
  obtain ⟨p1, p2⟩ := tkP_ok (b := b) hi
  have hn : tkP n b i < n → ¬ b (tkP n b i) = 32 := fun z => by
    have := (adv_ok (fun k => decide (b k = 32)) hi).2.2.2 z
    simpa [tkP] using this
  have hx1 : CTx n b (pI s 15 1 (tkP n b i : Int)) := h0.fr (f15 _ _ _) (by simp [gI_pI])
  have kK : tkK n b i = if n ≤ tkP n b i then 0 else if isLB (b (tkP n b i)) = true then (if tkW n b (tkP n b i) - tkP n b i ≤ 8 then 1 else 4) else if isDB (b (tkP n b i)) = true then (if tkN n b (tkP n b i) - tkP n b i ≤ 3 then 2 else 4) else if b (tkP n b i) = 59 then 3 else 4 := rfl
  have kX : tkX n b i = if n ≤ tkP n b i then tkP n b i else if isLB (b (tkP n b i)) = true then tkW n b (tkP n b i) else if isDB (b (tkP n b i)) = true then tkN n b (tkP n b i) else tkP n b i + 1 := rfl
  have kY : tkY n b i = wky b (tkP n b i) (tkW n b (tkP n b i) - tkP n b i) := rfl
  have kH : tkH n b i = wno b (tkP n b i) (tkN n b (tkP n b i) - tkP n b i) := rfl
  unfold CTk
  rw [kK, kX, kY, kH]
  generalize tkP n b i = p at *
  have es := c_sort hx1 p
  generalize hv : sorF n b p = v at es
  generalize hs5 : pI (pI (pI s 15 1 (p : Int)) 15 0 v) 15 2 0 = s5
  have fr5 : Fr (fun a => a = 15) s s5 := by rw [← hs5]; exact ((f15 _ _ _).trans (f15 _ _ _)).trans (f15 _ _ _)
  have x5 : gI s5 15 4 = gI s 15 4 := by rw [← hs5]; simp [gI_pI]
  have x0 : gI s5 15 0 = v := by rw [← hs5]; simp [gI_pI]
  have x1 : gI s5 15 1 = (p : Int) := by rw [← hs5]; simp [gI_pI]
  have x2 : gI s5 15 2 = 0 := by rw [← hs5]; simp [gI_pI]
  have x6 : gI s5 15 5 = (p : Int) := by rw [← hs5]; simp [gI_pI, h6]
  have hx5 : CTx n b s5 := h0.fr fr5 x5
  have hS5 := hx5.1
  have k15 : ∀ s : St, Sh s → isK s 18 15 := fun s hs => ⟨by decide, kd_15 hs⟩
  have head : X8_step_b36 s 15 = if ¬ v = 1 then (if ¬ v = 2 then (if v = 0 then some (0, s5) else some (0, pI s5 15 5 (w32 ((p : Int) + 1)))) else X8_step_b168 FU s5 15) else X8_step_b69 FU s5 15 := by
    have e1 : gI (pI s 15 1 (p : Int)) 15 1 = (p : Int) := by simp [gI_pI]
    unfold X8_step_b36 X8_step_b273
    rw [grd_t (k15 s hS), grd_t (k15 s hS), h6, lets_e, grd_t (k15 _ hx1.1), grd_t (k15 _ hx1.1), e1, es, bnd_some, grd_t (k15 _ hx1.1), lets_e, grd_t (show isK (pI (pI s 15 1 (p : Int)) 15 0 v) 18 15 from k15 _ hx1.1), lets_e, hs5, grd_t (k15 _ hS5), x0, grd_t (k15 _ hS5), grd_t (k15 _ hS5), grd_t (k15 _ hS5), grd_t (k15 _ hS5), x6, lets_e]
  by_cases y : n ≤ p
  · have v0 : v = 0 := by rw [← hv]; unfold sorF; rw [if_pos y]
    refine ⟨s5, ?_, fr5, ⟨hx5, hi, ?_⟩⟩
    · rw [head, v0, if_pos (by decide), if_pos (by decide), if_pos rfl]
    · rw [x0, x1, x6, v0, if_pos y, if_pos y]
      exact ⟨rfl, rfl, rfl, (fun z => by cases z), (fun z => by cases z)⟩
  · have g1 : p < n := by omega
    by_cases y1 : isLB (b p) = true
    · have v1 : v = 1 := by rw [← hv]; exact sor_1 g1 y1
      obtain ⟨s2, e2, f2, c5, c1, c6, c0, c2⟩ := c_readWord hx5 p2 x6 x1 x2
      have adw := adv_ok (fun k => isLB (b k)) p2
      refine ⟨s2, ?_, fr5.trans f2, ⟨hx5.fr f2 c5, hi, ?_, c1, ?_, fun hk => ?_, fun hk => ?_⟩⟩
      · rw [head, v1, if_neg (fun z => z rfl)]; exact e2
      · rw [c0, if_neg y, if_pos y1]; split <;> rfl
      · rw [c6, if_neg y, if_pos y1]
      · rw [if_neg y, if_pos y1] at hk
        by_cases z : tkW n b p - p ≤ 8
        · rw [c2]
          exact cNm_e _ z (fun k hk2 => adw.1 _ (by omega) (by unfold tkW at hk2; omega))
        · rw [if_neg z] at hk; omega
      · rw [if_neg y, if_pos y1] at hk
        split at hk <;> omega
    · by_cases y2 : isDB (b p) = true
      · have v2 : v = 2 := by rw [← hv]; exact sor_2 g1 y2
        obtain ⟨s2, e2, f2, c5, c1, c6, c0, c2⟩ := c_readWhole hx5 p2 x6 x1 x2
        have adw := adv_ok (fun k => isDB (b k)) p2
        refine ⟨s2, ?_, fr5.trans f2, ⟨hx5.fr f2 c5, hi, ?_, c1, ?_, fun hk => ?_, fun hk => ?_⟩⟩
        · rw [head, v2, if_pos (by decide), if_neg (fun z => z rfl)]; exact e2
        · rw [c0, if_neg y, if_neg y1, if_pos y2]; split <;> rfl
        · rw [c6, if_neg y, if_neg y1, if_pos y2]
        · rw [if_neg y, if_neg y1, if_pos y2] at hk
          split at hk <;> omega
        · rw [if_neg y, if_neg y1, if_pos y2] at hk
          by_cases z : tkN n b p - p ≤ 3
          · rw [c2]
            exact cWh_e _ z (fun k hk2 => adw.1 _ (by omega) (by unfold tkN at hk2; omega))
          · rw [if_neg z] at hk; omega
      · have hw := wk1 (k := p) (by omega)
        have v3 : v = if b p = 59 then 3 else 4 := by
          rw [← hv]; unfold sorF; rw [if_neg y, if_neg y1, if_neg y2, if_neg (hn g1)]
        have vn : ¬ v = 1 ∧ ¬ v = 2 ∧ ¬ v = 0 := by
          rw [v3]
          split <;> decide
        refine ⟨pI s5 15 5 ((p + 1 : Nat) : Int), ?_, fr5.trans (f15 _ _ _), ⟨hx5.fr (f15 _ _ _) (by simp [gI_pI]), hi, ?_, by simp [gI_pI, x1], ?_, fun hk => ?_, fun hk => ?_⟩⟩
        · rw [head, if_pos vn.1, if_pos vn.2.1, if_neg vn.2.2, hw]
          rfl
        · rw [if_neg y, if_neg y1, if_neg y2]
          simp [gI_pI, x0]
          rw [v3]
          split <;> rfl
        · rw [if_neg y, if_neg y1, if_neg y2]
          simp [gI_pI]
        · rw [if_neg y, if_neg y1, if_neg y2] at hk
          split at hk <;> omega
        · rw [if_neg y, if_neg y1, if_neg y2] at hk
          split at hk <;> omega
theorem c_step {i : Nat} (h : CTx n b s) (hi : i ≤ n) (h6 : gI s 15 5 = (i : Int)) : ∃ s1, X8_step s 15 = some (0, s1) ∧ Fr (fun a => a = 15) s s1 ∧ CTk n b s1 i := by
  have h0 := h
  obtain ⟨hS, h4, h5, h8, hb⟩ := h
  have ad := adv_ok (fun k => decide (b k = 32)) hi
  have e8 : tkP n b i = adv (fun k => decide (b k = 32)) n i := rfl
  rw [← e8] at ad
  obtain ⟨a1, a2, a3, a4⟩ := ad
  unfold X8_step X8_step_b0
  refine iter_inv (Q := fun G => ∃ s1, G = some (0, s1) ∧ Fr (fun a => a = 15) s s1 ∧ CTk n b s1 i)
    (fun (k : Nat) (a : St × Int) => ∃ s2, a = (s2, 15) ∧ Fr (fun a => a = 15) s s2 ∧ gI s2 15 4 = gI s 15 4 ∧ gI s2 15 5 = ((i + k : Nat) : Int))
    (tkP n b i - i) FU (s, 15) (by unfold FU; omega) ⟨s, rfl, Fr.refl _ s, rfl, h6⟩ (fun k hk a ha => ?_) (fun a ha rec => ?_)
  · obtain ⟨s2, rfl, hf, e5, e6⟩ := ha
    have hS2 : Sh s2 := by rw [hf.sh]; exact hS
    obtain ⟨q, hq⟩ : ∃ q : Nat, i + k = q := ⟨_, rfl⟩
    have hq1 : i + (k + 1) = q + 1 := by omega
    rw [hq] at e6
    have hl := a1 q (by omega) (by omega)
    simp at hl
    have es : X8_sortAt s2 15 (q : Int) = some (5, s2) := by rw [c_sort (h0.fr hf e5), sor_5 (by omega) hl]
    have g1 : ¬ n ≤ q := by omega
    have g2 : (q : Int) < 800 := by omega
    have hw := wk1 (k := q) (by omega)
    rw [hq1]
    refine ⟨(pI s2 15 5 ((q + 1 : Nat) : Int), 15), ⟨_, rfl, hf.trans (f15 _ _ _), by simp [gI_pI, e5], by simp [gI_pI]⟩, fun rec => ?_⟩
    simp only [X8_step_b0_body]
    rw [e5, h5, e6]
    simp [tF, isK, shF hS2, g1, g2, hw, es, e6]
  · obtain ⟨s2, rfl, hf, e5, e6⟩ := ha
    have hS2 : Sh s2 := by rw [hf.sh]; exact hS
    rw [show i + (tkP n b i - i) = tkP n b i by omega] at e6
    obtain ⟨s3, e3, f3, c3⟩ := c_b36 (h0.fr hf e5) hi e6
    refine ⟨s3, ?_, hf.trans f3, c3⟩
    simp only [X8_step_b0_body]
    rw [e5, h5, e6, e3]
    by_cases y : n ≤ tkP n b i
    · rw [if_pos (by omega)]; simp [tF, isK, shF hS2]
    · have hl := a4 (by omega)
      simp at hl
      have es := c_sort (h0.fr hf e5) (tkP n b i)
      have en := sor_n5 (n := n) (b := b) hl
      rw [if_neg (by omega)]
      simp [tF, isK, shF hS2, es, en, e3]
end CSCAN
