/-! the reference's tokens -/
theorem m_let (s : St) (x : Int) : X13_isLetter s x = some (if isLB x = true then 1 else 0, s) := by
  unfold X13_isLetter X13_isLetter_b16 X13_isLetter_b17 isLB
  by_cases h : x < 97
  · rw [if_pos h, if_neg (by simp; omega)]; rfl
  · rw [if_neg h]
    by_cases h2 : 122 < x
    · rw [if_pos h2, if_neg (by simp; omega)]; rfl
    · rw [if_neg h2, if_pos (by simp; omega)]; rfl
theorem m_dig (s : St) (x : Int) : X13_isDigit s x = some (if isDB x = true then 1 else 0, s) := by
  unfold X13_isDigit X13_isDigit_b16 X13_isDigit_b17 isDB
  by_cases h : x < 48
  · rw [if_pos h, if_neg (by simp; omega)]; rfl
  · rw [if_neg h]
    by_cases h2 : 57 < x
    · rw [if_pos h2, if_neg (by simp; omega)]; rfl
    · rw [if_neg h2, if_pos (by simp; omega)]; rfl
def u8 (x : Int) : Int := if x < 0 then x + 256 else x
theorem u8_e {x : Int} (h : ok8 x) : and32 x 255 = u8 x := by
  have key : ∀ v : Nat, v < 256 → and32 ((v : Int) - 128) 255 = u8 ((v : Int) - 128) := by decide +kernel
  unfold ok8 at h
  have := key (x + 128).toNat (by omega)
  rw [show (((x + 128).toNat : Nat) : Int) - 128 = x by omega] at this
  exact this
theorem u8_f {x : Int} (h : ok8 x) : isLB (u8 x) = isLB x ∧ isDB (u8 x) = isDB x ∧ (u8 x = 32 ↔ x = 32) ∧ (u8 x = 59 ↔ x = 59) ∧ ¬ u8 x = -1 ∧ (isLB x = true → u8 x = x) ∧ (isDB x = true → u8 x = x) := by
  unfold ok8 at h
  unfold u8 isLB isDB
  by_cases y : x < 0
  · rw [if_pos y]
    refine ⟨?_, ?_, by omega, by omega, by omega, fun z => ?_, fun z => ?_⟩
    · rw [decide_eq_decide]; omega
    · rw [decide_eq_decide]; omega
    · simp at z; omega
    · simp at z; omega
  · rw [if_neg y]
    exact ⟨rfl, rfl, Iff.rfl, Iff.rfl, by omega, fun _ => rfl, fun _ => rfl⟩
def srt (k : Nat) : Int := if k = 0 then 1 else if k = 1 then 2 else if k = 2 then 3 else if k = 3 then 4 else 0
def MTx (n : Nat) (b : Nat → Int) (s : St) : Prop := Sh s ∧ gI s 76 7 = (n : Int) ∧ n ≤ 800 ∧ (∀ j, ok8 (b j)) ∧ ∀ j, j < n → gI s 77 j = b j
def MTk (n : Nat) (b : Nat → Int) (s : St) (i : Nat) : Prop := MTx n b s ∧ i ≤ n ∧ gI s 76 9 = srt (tkK n b i) ∧ gI s 76 10 = (tkP n b i : Int) ∧ (tkK n b i ≠ 4 → gI s 76 8 = (tkX n b i : Int)) ∧ (tkK n b i = 1 → gI s 76 14 = (tkY n b i : Int)) ∧ (tkK n b i = 2 → gI s 76 11 = (tkH n b i : Int))
/-- of the reference's own fields only those of the token change -/
def Ft (s s1 : St) : Prop := Fr (fun a => a = 76) s s1 ∧ ∀ k, k ≠ 8 → k ≠ 9 → k ≠ 10 → k ≠ 11 → k ≠ 14 → gI s1 76 k = gI s 76 k
theorem Ft.refl (s : St) : Ft s s := ⟨Fr.refl _ s, fun _ _ _ _ _ _ => rfl⟩
theorem Ft.trans {s s1 s2 : St} (h1 : Ft s s1) (h2 : Ft s1 s2) : Ft s s2 := ⟨h1.1.trans h2.1, fun k a b c d e => (h2.2 k a b c d e).trans (h1.2 k a b c d e)⟩
theorem ft76 (s : St) (k : Nat) (x : Int) (hk : k = 8 ∨ k = 9 ∨ k = 10 ∨ k = 11 ∨ k = 14) : Ft s (pI s 76 k x) := ⟨Fr_pI rfl, fun j a b c d e => by rw [gI_pI, if_neg (fun z => by omega)]⟩
def mNm (b : Nat → Int) (p m : Nat) : Int := fo (fun k a => if k < 8 then w64 ((w64 (32 * a)) + (w32 ((w32 (u8 (b (p + k)) - 97)) + 1))) else a) 0 m
def mWh (b : Nat → Int) (p m : Nat) : Int := fo (fun k a => if k < 3 then w32 ((w32 ((w32 (10 * a)) + u8 (b (p + k)))) - 48) else a) 0 m
section MSCAN
variable {s s1 : St} {n : Nat} {b : Nat → Int}
theorem MTx.ft (h : MTx n b s) (hf : Ft s s1) : MTx n b s1 := by
  obtain ⟨a1, a2, a3, a4, a5⟩ := h
  exact ⟨by rw [hf.1.sh]; exact a1, (hf.2 7 (by decide) (by decide) (by decide) (by decide) (by decide)).trans a2, a3, a4, fun j hj => (hf.1.nu (by decide)).trans (a5 j hj)⟩
theorem m_byte {k : Nat} (h : MTx n b s) : X13_byteAt s 76 k = some (if n ≤ k then -1 else u8 (b k), s) := by
  obtain ⟨a1, a2, a3, a4, a5⟩ := h
  unfold X13_byteAt X13_byteAt_b22
  by_cases y : n ≤ k
  · simp [tF, isK, shF a1, a2, y]
  · have g : (k : Int) < 800 := by omega
    have e := a5 k (by omega)
    have e2 := u8_e (a4 k)
    simp [tF, isK, shF a1, a2, y, g, e, e2]
theorem mNm_e {p : Nat} : ∀ m, m ≤ 8 → (∀ k, k < m → isLB (b (p + k)) = true) → (∀ j, ok8 (b j)) → mNm b p m = (wky b p m : Int) ∧ wky b p m < 32 ^ m
  | 0, _, _, _ => ⟨rfl, by show 0 < 1; decide⟩
  | m + 1, hm, h, ho => by
    obtain ⟨ih, ib⟩ := mNm_e m (by omega) (fun k hk => h k (by omega)) ho
    have hl := h m (by omega)
    have hu := (u8_f (ho (p + m))).2.2.2.2.2.1 hl
    unfold isLB at hl
    simp at hl
    have e : mNm b p (m + 1) = if m < 8 then w64 ((w64 (32 * mNm b p m)) + (w32 ((w32 (u8 (b (p + m)) - 97)) + 1))) else mNm b p m := rfl
    have p7 : 32 ^ m ≤ 32 ^ 7 := Nat.pow_le_pow_right (by decide) (by omega)
    have p8 : (32 : Nat) ^ 7 = 34359738368 := by decide
    rw [e, if_pos (by omega), ih, wky_s, hu, Nat.pow_succ]
    rw [p8] at p7
    generalize 32 ^ m = z at *
    generalize wky b p m = y at *
    rw [w32e (x := b (p + m) - 97) (by omega), w32e (x := b (p + m) - 97 + 1) (by omega), w64e (x := 32 * (y : Int)) (by omega), w64e (by omega)]
    omega
theorem mWh_e {p : Nat} : ∀ m, m ≤ 3 → (∀ k, k < m → isDB (b (p + k)) = true) → (∀ j, ok8 (b j)) → mWh b p m = (wno b p m : Int)
  | 0, _, _, _ => rfl
  | m + 1, hm, h, ho => by
    have ih := mWh_e m (by omega) (fun k hk => h k (by omega)) ho
    have wb := wno_b (b := b) m (fun k hk => h k (by omega))
    have p3 : 10 ^ m ≤ 10 ^ 2 := Nat.pow_le_pow_right (by decide) (by omega)
    have hl := h m (by omega)
    have hu := (u8_f (ho (p + m))).2.2.2.2.2.2 hl
    unfold isDB at hl
    simp at hl
    have e : mWh b p (m + 1) = if m < 3 then w32 ((w32 ((w32 (10 * mWh b p m)) + u8 (b (p + m)))) - 48) else mWh b p m := rfl
    rw [e, if_pos (by omega), ih, wno_s, hu]
    generalize wno b p m = y at *
    rw [w32e (x := 10 * (y : Int)) (by omega), w32e (x := 10 * (y : Int) + b (p + m)) (by omega), w32e (by omega)]
    omega
theorem m_word {p : Nat} (h : MTx n b s) (hp : p ≤ n) (h8 : gI s 76 8 = (p : Int)) (h14 : gI s 76 14 = 0) (h9 : gI s 76 9 = 0) : ∃ s1, X13_goesOn_b84 FU s 76 0 = some (0, s1) ∧ Ft s s1 ∧ gI s1 76 10 = gI s 76 10 ∧ gI s1 76 8 = (tkW n b p : Int) ∧ gI s1 76 9 = (if tkW n b p - p ≤ 8 then 2 else 0) ∧ gI s1 76 14 = mNm b p (tkW n b p - p) := by
  have n8 := h.2.2.1
  have ad := adv_ok (fun k => isLB (b k)) hp
  have e8 : tkW n b p = adv (fun k => isLB (b k)) n p := rfl
  rw [← e8] at ad
  obtain ⟨a1, a2, a3, a4⟩ := ad
  unfold X13_goesOn_b84
  refine iter_inv (Q := fun G => ∃ s1, G = some (0, s1) ∧ Ft s s1 ∧ gI s1 76 10 = gI s 76 10 ∧ gI s1 76 8 = (tkW n b p : Int) ∧ gI s1 76 9 = (if tkW n b p - p ≤ 8 then 2 else 0) ∧ gI s1 76 14 = mNm b p (tkW n b p - p))
    (fun (k : Nat) (a : St × Int × Int) => ∃ s2, a = (s2, 76, (k : Int)) ∧ Ft s s2 ∧ gI s2 76 10 = gI s 76 10 ∧ gI s2 76 9 = 0 ∧ gI s2 76 8 = ((p + k : Nat) : Int) ∧ gI s2 76 14 = mNm b p k)
    (tkW n b p - p) FU (s, 76, 0) (by unfold FU; omega) ⟨s, rfl, Ft.refl s, rfl, h9, h8, h14⟩ (fun k hk a ha => ?_) (fun a ha rec => ?_)
  · obtain ⟨s2, rfl, hf, e10, e9, e6, e2⟩ := ha
    have hx2 := h.ft hf
    have hS2 := hx2.1
    have en : mNm b p (k + 1) = if k < 8 then w64 ((w64 (32 * mNm b p k)) + (w32 ((w32 (u8 (b (p + k)) - 97)) + 1))) else mNm b p k := rfl
    obtain ⟨q, hq⟩ : ∃ q : Nat, p + k = q := ⟨_, rfl⟩
    have hq1 : p + (k + 1) = q + 1 := by omega
    rw [hq] at e6 en
    have eb := m_byte (k := q) hx2
    have g1 : ¬ n ≤ q := by omega
    rw [if_neg g1] at eb
    have hl := a1 q (by omega) (by omega)
    have hu := (u8_f (hx2.2.2.2.1 q)).1
    rw [hl] at hu
    have hw := wk1 (k := q) (by omega)
    have hwk := wk1 (k := k) (by clear hw; omega)
    rw [hq1]
    by_cases y : k < 8
    · have y2 : ¬ (8 : Int) ≤ (k : Int) := by clear hw hwk; omega
      rw [if_pos y] at en
      refine ⟨(pI (pI s2 76 14 (mNm b p (k + 1))) 76 8 ((q + 1 : Nat) : Int), 76, ((k + 1 : Nat) : Int)), ⟨_, rfl, hf.trans ((ft76 _ _ _ (by decide)).trans (ft76 _ _ _ (by decide))), by simp [gI_pI, e10], by simp [gI_pI, e9], by simp [gI_pI], by simp [gI_pI]⟩, fun rec => ?_⟩
      simp only [X13_goesOn_b84_body, X13_goesOn_b131]
      rw [e6, eb, bnd_some, m_let, hu, bnd_some, if_pos rfl, if_neg (by decide), if_neg y2, e6, eb, bnd_some, en, e2, hwk]
      simp [tF, isK, shF hS2, gI_pI, e6, hw]
    · have y2 : (8 : Int) ≤ (k : Int) := by clear hw hwk; omega
      rw [if_neg y] at en
      refine ⟨(pI s2 76 8 ((q + 1 : Nat) : Int), 76, ((k + 1 : Nat) : Int)), ⟨_, rfl, hf.trans (ft76 _ _ _ (by decide)), by simp [gI_pI, e10], by simp [gI_pI, e9], by simp [gI_pI], by rw [en]; simp [gI_pI, e2]⟩, fun rec => ?_⟩
      simp only [X13_goesOn_b84_body, X13_goesOn_b131]
      rw [e6, eb, bnd_some, m_let, hu, bnd_some, if_pos rfl, if_neg (by decide), if_pos y2, hwk]
      simp [tF, isK, shF hS2, gI_pI, e6, hw]
  · obtain ⟨s2, rfl, hf, e10, e9, e6, e2⟩ := ha
    have hx2 := h.ft hf
    have hS2 := hx2.1
    rw [show p + (tkW n b p - p) = tkW n b p by omega] at e6
    have eb := m_byte (k := tkW n b p) hx2
    have hl : isLB (if n ≤ tkW n b p then (-1 : Int) else u8 (b (tkW n b p))) = false := by
      by_cases y : n ≤ tkW n b p
      · rw [if_pos y]; decide
      · rw [if_neg y, (u8_f (hx2.2.2.2.1 _)).1]; exact a4 (by omega)
    by_cases y : tkW n b p - p ≤ 8
    · have y2 : ¬ (8 : Int) < ((tkW n b p - p : Nat) : Int) := by omega
      refine ⟨pI s2 76 9 2, ?_, hf.trans (ft76 _ _ _ (by decide)), by simp [gI_pI, e10], by simp [gI_pI, e6], by rw [if_pos y]; simp [gI_pI], by simp [gI_pI, e2]⟩
      simp only [X13_goesOn_b84_body, X13_goesOn_b265]
      rw [e6, eb, bnd_some, m_let, hl, bnd_some, if_pos (by decide), if_neg y2]
      simp [tF, isK, shF hS2]
    · have y2 : (8 : Int) < ((tkW n b p - p : Nat) : Int) := by omega
      refine ⟨s2, ?_, hf, e10, e6, by rw [if_neg y]; exact e9, e2⟩
      simp only [X13_goesOn_b84_body, X13_goesOn_b265]
      rw [e6, eb, bnd_some, m_let, hl, bnd_some, if_pos (by decide), if_pos y2]
      simp [tF, isK, shF hS2]
theorem m_whole {p : Nat} (h : MTx n b s) (hp : p ≤ n) (h8 : gI s 76 8 = (p : Int)) (h11 : gI s 76 11 = 0) (h9 : gI s 76 9 = 0) : ∃ s1, X13_goesOn_b173 FU s 76 0 = some (0, s1) ∧ Ft s s1 ∧ gI s1 76 10 = gI s 76 10 ∧ gI s1 76 8 = (tkN n b p : Int) ∧ gI s1 76 9 = (if tkN n b p - p ≤ 3 then 3 else 0) ∧ gI s1 76 11 = mWh b p (tkN n b p - p) := by
  have n8 := h.2.2.1
  have ad := adv_ok (fun k => isDB (b k)) hp
  have e8 : tkN n b p = adv (fun k => isDB (b k)) n p := rfl
  rw [← e8] at ad
  obtain ⟨a1, a2, a3, a4⟩ := ad
  unfold X13_goesOn_b173
  refine iter_inv (Q := fun G => ∃ s1, G = some (0, s1) ∧ Ft s s1 ∧ gI s1 76 10 = gI s 76 10 ∧ gI s1 76 8 = (tkN n b p : Int) ∧ gI s1 76 9 = (if tkN n b p - p ≤ 3 then 3 else 0) ∧ gI s1 76 11 = mWh b p (tkN n b p - p))
    (fun (k : Nat) (a : St × Int × Int) => ∃ s2, a = (s2, 76, (k : Int)) ∧ Ft s s2 ∧ gI s2 76 10 = gI s 76 10 ∧ gI s2 76 9 = 0 ∧ gI s2 76 8 = ((p + k : Nat) : Int) ∧ gI s2 76 11 = mWh b p k)
    (tkN n b p - p) FU (s, 76, 0) (by unfold FU; omega) ⟨s, rfl, Ft.refl s, rfl, h9, h8, h11⟩ (fun k hk a ha => ?_) (fun a ha rec => ?_)
  · obtain ⟨s2, rfl, hf, e10, e9, e6, e2⟩ := ha
    have hx2 := h.ft hf
    have hS2 := hx2.1
    have en : mWh b p (k + 1) = if k < 3 then w32 ((w32 ((w32 (10 * mWh b p k)) + u8 (b (p + k)))) - 48) else mWh b p k := rfl
    obtain ⟨q, hq⟩ : ∃ q : Nat, p + k = q := ⟨_, rfl⟩
    have hq1 : p + (k + 1) = q + 1 := by omega
    rw [hq] at e6 en
    have eb := m_byte (k := q) hx2
    have g1 : ¬ n ≤ q := by omega
    rw [if_neg g1] at eb
    have hl := a1 q (by omega) (by omega)
    have hu := (u8_f (hx2.2.2.2.1 q)).2.1
    rw [hl] at hu
    have hw := wk1 (k := q) (by omega)
    have hwk := wk1 (k := k) (by clear hw; omega)
    rw [hq1]
    by_cases y : k < 3
    · have y2 : ¬ (3 : Int) ≤ (k : Int) := by clear hw hwk; omega
      rw [if_pos y] at en
      refine ⟨(pI (pI s2 76 11 (mWh b p (k + 1))) 76 8 ((q + 1 : Nat) : Int), 76, ((k + 1 : Nat) : Int)), ⟨_, rfl, hf.trans ((ft76 _ _ _ (by decide)).trans (ft76 _ _ _ (by decide))), by simp [gI_pI, e10], by simp [gI_pI, e9], by simp [gI_pI], by simp [gI_pI]⟩, fun rec => ?_⟩
      simp only [X13_goesOn_b173_body, X13_goesOn_b215]
      rw [e6, eb, bnd_some, m_dig, hu, bnd_some, if_pos rfl, if_neg (by decide), if_neg y2, e6, eb, bnd_some, en, e2, hwk]
      simp [tF, isK, shF hS2, gI_pI, e6, hw]
    · have y2 : (3 : Int) ≤ (k : Int) := by clear hw hwk; omega
      rw [if_neg y] at en
      refine ⟨(pI s2 76 8 ((q + 1 : Nat) : Int), 76, ((k + 1 : Nat) : Int)), ⟨_, rfl, hf.trans (ft76 _ _ _ (by decide)), by simp [gI_pI, e10], by simp [gI_pI, e9], by simp [gI_pI], by rw [en]; simp [gI_pI, e2]⟩, fun rec => ?_⟩
      simp only [X13_goesOn_b173_body, X13_goesOn_b215]
      rw [e6, eb, bnd_some, m_dig, hu, bnd_some, if_pos rfl, if_neg (by decide), if_pos y2, hwk]
      simp [tF, isK, shF hS2, gI_pI, e6, hw]
  · obtain ⟨s2, rfl, hf, e10, e9, e6, e2⟩ := ha
    have hx2 := h.ft hf
    have hS2 := hx2.1
    rw [show p + (tkN n b p - p) = tkN n b p by omega] at e6
    have eb := m_byte (k := tkN n b p) hx2
    have hl : isDB (if n ≤ tkN n b p then (-1 : Int) else u8 (b (tkN n b p))) = false := by
      by_cases y : n ≤ tkN n b p
      · rw [if_pos y]; decide
      · rw [if_neg y, (u8_f (hx2.2.2.2.1 _)).2.1]; exact a4 (by omega)
    by_cases y : tkN n b p - p ≤ 3
    · have y2 : ¬ (3 : Int) < ((tkN n b p - p : Nat) : Int) := by omega
      refine ⟨pI s2 76 9 3, ?_, hf.trans (ft76 _ _ _ (by decide)), by simp [gI_pI, e10], by simp [gI_pI, e6], by rw [if_pos y]; simp [gI_pI], by simp [gI_pI, e2]⟩
      simp only [X13_goesOn_b173_body, X13_goesOn_b265]
      rw [e6, eb, bnd_some, m_dig, hl, bnd_some, if_pos (by decide), if_neg y2]
      simp [tF, isK, shF hS2]
    · have y2 : (3 : Int) < ((tkN n b p - p : Nat) : Int) := by omega
      refine ⟨s2, ?_, hf, e10, e6, by rw [if_neg y]; exact e9, e2⟩
      simp only [X13_goesOn_b173_body, X13_goesOn_b265]
      rw [e6, eb, bnd_some, m_dig, hl, bnd_some, if_pos (by decide), if_pos y2]
      simp [tF, isK, shF hS2]
theorem m_goes {i : Nat} (h : MTx n b s) (hi : i ≤ n) (h8 : gI s 76 8 = (i : Int)) (h9 : ¬ gI s 76 9 = 5) : ∃ s1, X13_goesOn s 76 = some (0, s1) ∧ Ft s s1 ∧ MTk n b s1 i := by
  have n8 := h.2.2.1
  have hS := h.1
  have ad := adv_ok (fun k => decide (b k = 32)) hi
  have e8 : tkP n b i = adv (fun k => decide (b k = 32)) n i := rfl
  rw [← e8] at ad
  obtain ⟨a1, a2, a3, a4⟩ := ad
  have loop : ∃ s1, X13_goesOn_b9 FU s 76 = some (0, s1) ∧ Ft s s1 ∧ MTk n b s1 i := by
    unfold X13_goesOn_b9
    refine iter_inv (Q := fun G => ∃ s1, G = some (0, s1) ∧ Ft s s1 ∧ MTk n b s1 i)
      (fun (k : Nat) (a : St × Int) => ∃ s2, a = (s2, 76) ∧ Ft s s2 ∧ gI s2 76 8 = ((i + k : Nat) : Int))
      (tkP n b i - i) FU (s, 76) (by unfold FU; omega) ⟨s, rfl, Ft.refl s, h8⟩ (fun k hk a ha => ?_) (fun a ha rec => ?_)
    · obtain ⟨s2, rfl, hf, e6⟩ := ha
      have hx2 := h.ft hf
      have hS2 := hx2.1
      obtain ⟨q, hq⟩ : ∃ q : Nat, i + k = q := ⟨_, rfl⟩
      have hq1 : i + (k + 1) = q + 1 := by omega
      rw [hq] at e6
      have eb := m_byte (k := q) hx2
      have g1 : ¬ n ≤ q := by omega
      rw [if_neg g1] at eb
      have hl := a1 q (by omega) (by omega)
      simp at hl
      have hu := (u8_f (hx2.2.2.2.1 q)).2.2.1.2 hl
      rw [hu] at eb
      have hw := wk1 (k := q) (by omega)
      rw [hq1]
      refine ⟨(pI s2 76 8 ((q + 1 : Nat) : Int), 76), ⟨_, rfl, hf.trans (ft76 _ _ _ (by decide)), by simp [gI_pI]⟩, fun rec => ?_⟩
      simp only [X13_goesOn_b9_body]
      rw [e6, eb, bnd_some, if_neg (by decide), e6, hw]
      simp [tF, isK, shF hS2]
    · obtain ⟨s2, rfl, hf, e6⟩ := ha
      have hx2 := h.ft hf
      have hS2 := hx2.1
      rw [show i + (tkP n b i - i) = tkP n b i by omega] at e6
      have kK : tkK n b i = if n ≤ tkP n b i then 0 else if isLB (b (tkP n b i)) = true then (if tkW n b (tkP n b i) - tkP n b i ≤ 8 then 1 else 4) else if isDB (b (tkP n b i)) = true then (if tkN n b (tkP n b i) - tkP n b i ≤ 3 then 2 else 4) else if b (tkP n b i) = 59 then 3 else 4 := rfl
      have kX : tkX n b i = if n ≤ tkP n b i then tkP n b i else if isLB (b (tkP n b i)) = true then tkW n b (tkP n b i) else if isDB (b (tkP n b i)) = true then tkN n b (tkP n b i) else tkP n b i + 1 := rfl
      have kY : tkY n b i = wky b (tkP n b i) (tkW n b (tkP n b i) - tkP n b i) := rfl
      have kH : tkH n b i = wno b (tkP n b i) (tkN n b (tkP n b i) - tkP n b i) := rfl
      have hns : tkP n b i < n → ¬ b (tkP n b i) = 32 := fun z => by have := a4 z; simpa using this
      unfold MTk
      rw [kK, kX, kY, kH]
      generalize tkP n b i = p at *
      have hfa : Ft s2 (pI (pI s2 76 10 (p : Int)) 76 9 0) := (ft76 _ _ _ (by decide)).trans (ft76 _ _ _ (by decide))
      have hx4 := hx2.ft hfa
      have hS4 := hx4.1
      have eb := m_byte (k := p) hx2
      have eb4 := m_byte (k := p) hx4
      have hn32 : ¬ (if n ≤ p then (-1 : Int) else u8 (b p)) = 32 := by
        by_cases y : n ≤ p
        · rw [if_pos y]; decide
        · rw [if_neg y]; exact fun z => hns (by omega) ((u8_f (hx2.2.2.2.1 p)).2.2.1.1 z)
      have hd : ∀ R : Rs, (∃ s1, R = some (0, s1) ∧ Ft (pI (pI s2 76 10 (p : Int)) 76 9 0) s1 ∧ MTx n b s1 ∧ i ≤ n ∧ gI s1 76 9 = srt (if n ≤ p then 0 else if isLB (b p) = true then (if tkW n b p - p ≤ 8 then 1 else 4) else if isDB (b p) = true then (if tkN n b p - p ≤ 3 then 2 else 4) else if b p = 59 then 3 else 4) ∧ gI s1 76 10 = (p : Int) ∧ ((if n ≤ p then 0 else if isLB (b p) = true then (if tkW n b p - p ≤ 8 then 1 else 4) else if isDB (b p) = true then (if tkN n b p - p ≤ 3 then 2 else 4) else if b p = 59 then 3 else 4) ≠ 4 → gI s1 76 8 = ((if n ≤ p then p else if isLB (b p) = true then tkW n b p else if isDB (b p) = true then tkN n b p else p + 1 : Nat) : Int)) ∧ ((if n ≤ p then 0 else if isLB (b p) = true then (if tkW n b p - p ≤ 8 then 1 else 4) else if isDB (b p) = true then (if tkN n b p - p ≤ 3 then 2 else 4) else if b p = 59 then 3 else 4) = 1 → gI s1 76 14 = (wky b p (tkW n b p - p) : Int)) ∧ ((if n ≤ p then 0 else if isLB (b p) = true then (if tkW n b p - p ≤ 8 then 1 else 4) else if isDB (b p) = true then (if tkN n b p - p ≤ 3 then 2 else 4) else if b p = 59 then 3 else 4) = 2 → gI s1 76 11 = (wno b p (tkN n b p - p) : Int))) → ∃ s1, R = some (0, s1) ∧ Ft s s1 ∧ MTx n b s1 ∧ i ≤ n ∧ gI s1 76 9 = srt (if n ≤ p then 0 else if isLB (b p) = true then (if tkW n b p - p ≤ 8 then 1 else 4) else if isDB (b p) = true then (if tkN n b p - p ≤ 3 then 2 else 4) else if b p = 59 then 3 else 4) ∧ gI s1 76 10 = (p : Int) ∧ ((if n ≤ p then 0 else if isLB (b p) = true then (if tkW n b p - p ≤ 8 then 1 else 4) else if isDB (b p) = true then (if tkN n b p - p ≤ 3 then 2 else 4) else if b p = 59 then 3 else 4) ≠ 4 → gI s1 76 8 = ((if n ≤ p then p else if isLB (b p) = true then tkW n b p else if isDB (b p) = true then tkN n b p else p + 1 : Nat) : Int)) ∧ ((if n ≤ p then 0 else if isLB (b p) = true then (if tkW n b p - p ≤ 8 then 1 else 4) else if isDB (b p) = true then (if tkN n b p - p ≤ 3 then 2 else 4) else if b p = 59 then 3 else 4) = 1 → gI s1 76 14 = (wky b p (tkW n b p - p) : Int)) ∧ ((if n ≤ p then 0 else if isLB (b p) = true then (if tkW n b p - p ≤ 8 then 1 else 4) else if isDB (b p) = true then (if tkN n b p - p ≤ 3 then 2 else 4) else if b p = 59 then 3 else 4) = 2 → gI s1 76 11 = (wno b p (tkN n b p - p) : Int)) := by
        rintro R ⟨s1, r1, r2, r3⟩
        exact ⟨s1, r1, (hf.trans hfa).trans r2, r3⟩
      apply hd
      clear hd
      have q8 : gI (pI (pI s2 76 10 (p : Int)) 76 9 0) 76 8 = (p : Int) := by simp [gI_pI, e6]
      have q9 : gI (pI (pI s2 76 10 (p : Int)) 76 9 0) 76 9 = 0 := by simp [gI_pI]
      have q10 : gI (pI (pI s2 76 10 (p : Int)) 76 9 0) 76 10 = (p : Int) := by simp [gI_pI]
      simp only [X13_goesOn_b9_body]
      rw [e6, eb, bnd_some, if_pos hn32, e6, lets_e, lets_e, q8, eb4, bnd_some]
      generalize pI (pI s2 76 10 (p : Int)) 76 9 0 = s4 at *
      by_cases y : n ≤ p
      · rw [if_pos y, if_pos y, if_pos y]
        refine ⟨pI s4 76 9 1, ?_, ft76 _ _ _ (by decide), hx4.ft (ft76 _ _ _ (by decide)), hi, by simp [gI_pI]; rfl, by simp [gI_pI, q10], fun _ => by simp [gI_pI, q8], (fun z => absurd z (by decide)), (fun z => absurd z (by decide))⟩
        simp [tF, isK, shF hS2, shF hS4, X13_goesOn_b265]
      · rw [if_neg y, if_neg y, if_neg y]
        obtain ⟨u1, u2, u3, u4, u5, u6, u7⟩ := u8_f (hx4.2.2.2.1 p)
        rw [if_pos u5, m_let, bnd_some, u1, m_dig, u2, bnd_some]
        by_cases y1 : isLB (b p) = true
        · rw [if_pos y1, if_pos y1, if_pos y1]
          have adw := adv_ok (fun k => isLB (b k)) a3
          have hf5 : Ft s4 (pI s4 76 14 0) := ft76 _ _ _ (by decide)
          obtain ⟨s5, g1, g2, g3, g4, g5, g6⟩ := m_word (hx4.ft hf5) a3 (by simp [gI_pI, q8]) (by simp [gI_pI]) (by simp [gI_pI, q9])
          refine ⟨s5, ?_, hf5.trans g2, (hx4.ft hf5).ft g2, hi, ?_, ?_, fun _ => g4, fun z => ?_, fun z => ?_⟩
          · simp [tF, isK, shF hS2, shF hS4, g1]
          · rw [g5]; split <;> rfl
          · rw [g3]; simp [gI_pI, q10]
          · by_cases w : tkW n b p - p ≤ 8
            · rw [g6]
              exact (mNm_e _ w (fun k hk2 => adw.1 _ (by omega) (by unfold tkW at hk2; omega)) hx4.2.2.2.1).1
            · rw [if_neg w] at z; omega
          · split at z <;> omega
        · rw [if_neg y1, if_neg y1, if_neg y1]
          by_cases y2 : isDB (b p) = true
          · rw [if_pos y2, if_pos y2, if_pos y2]
            have adw := adv_ok (fun k => isDB (b k)) a3
            have hf5 : Ft s4 (pI s4 76 11 0) := ft76 _ _ _ (by decide)
            obtain ⟨s5, g1, g2, g3, g4, g5, g6⟩ := m_whole (hx4.ft hf5) a3 (by simp [gI_pI, q8]) (by simp [gI_pI]) (by simp [gI_pI, q9])
            refine ⟨s5, ?_, hf5.trans g2, (hx4.ft hf5).ft g2, hi, ?_, ?_, fun _ => g4, fun z => ?_, fun z => ?_⟩
            · simp [tF, isK, shF hS2, shF hS4, g1]
            · rw [g5]; split <;> rfl
            · rw [g3]; simp [gI_pI, q10]
            · split at z <;> omega
            · by_cases w : tkN n b p - p ≤ 3
              · rw [g6]
                exact mWh_e _ w (fun k hk2 => adw.1 _ (by omega) (by unfold tkN at hk2; omega)) hx4.2.2.2.1
              · rw [if_neg w] at z; omega
          · rw [if_neg y2, if_neg y2, if_neg y2]
            by_cases y3 : b p = 59
            · have hw := wk1 (k := p) (by omega)
              rw [if_pos y3]
              refine ⟨pI (pI s4 76 9 4) 76 8 ((p + 1 : Nat) : Int), ?_, (ft76 _ _ _ (by decide)).trans (ft76 _ _ _ (by decide)), (hx4.ft (ft76 _ _ _ (by decide))).ft (ft76 _ _ _ (by decide)), hi, by simp [gI_pI]; rfl, by simp [gI_pI, q10], fun _ => by simp [gI_pI], (fun z => absurd z (by decide)), (fun z => absurd z (by decide))⟩
              simp [tF, isK, shF hS2, shF hS4, u4.2 y3, gI_pI, q8, hw, X13_goesOn_b265]
            · rw [if_neg y3]
              refine ⟨s4, ?_, Ft.refl _, hx4, hi, by rw [q9]; rfl, q10, fun z => absurd rfl z, (fun z => absurd z (by decide)), (fun z => absurd z (by decide))⟩
              have y4 : ¬ u8 (b p) = 59 := fun z => y3 (u4.1 z)
              simp [tF, isK, shF hS2, shF hS4, y4, X13_goesOn_b265]
  obtain ⟨s1, l1, l2⟩ := loop
  refine ⟨s1, ?_, l2⟩
  unfold X13_goesOn
  simp [tF, isK, shF hS, h9, l1]
end MSCAN
