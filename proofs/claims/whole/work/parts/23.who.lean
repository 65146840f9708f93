/-- the first of the numbers below n that P likes, from k on -/
def fndF (P : Nat → Bool) (n : Nat) : Nat → Option Nat
  | 0 => none
  | f + 1 => if P (n - (f + 1)) then some (n - (f + 1)) else fndF P n f
def fnd (P : Nat → Bool) (n : Nat) : Option Nat := fndF P n n
theorem iter_fndF {α : Type} {body : (α → Rs) → α → Rs} (S : Nat → α) (n : Nat) (P : Nat → Bool) (Rf : Nat → Rs) (Re : Rs)
    (hs : ∀ k, k < n → ∀ rec, body rec (S k) = if P k = true then Rf k else rec (S (k + 1))) (he : ∀ rec, body rec (S n) = Re) :
    ∀ (f fuel : Nat), f ≤ n → f < fuel → iter body fuel (S (n - f)) = (match fndF P n f with | some k => Rf k | none => Re)
  | 0, 0, _, h => absurd h (Nat.lt_irrefl 0)
  | 0, g + 1, _, _ => he _
  | f + 1, 0, _, h => absurd h (Nat.not_lt_zero _)
  | f + 1, g + 1, hn, h => by
    show body (iter body g) (S (n - (f + 1))) = _
    rw [hs _ (by omega)]
    unfold fndF
    by_cases hp : P (n - (f + 1)) = true
    · rw [if_pos hp, if_pos hp]
    · rw [if_neg hp, if_neg hp, show n - (f + 1) + 1 = n - f by omega]
      exact iter_fndF S n P Rf Re hs he f g (by omega) (by omega)
theorem iter_fnd {α : Type} {body : (α → Rs) → α → Rs} (S : Nat → α) (n : Nat) (P : Nat → Bool) (Rf : Nat → Rs) (Re : Rs) (fuel : Nat) (hf : n < fuel)
    (hs : ∀ k, k < n → ∀ rec, body rec (S k) = if P k = true then Rf k else rec (S (k + 1))) (he : ∀ rec, body rec (S n) = Re) :
    iter body fuel (S 0) = (match fnd P n with | some k => Rf k | none => Re) := by
  have h := iter_fndF S n P Rf Re hs he n fuel (Nat.le_refl _) hf
  rw [Nat.sub_self] at h
  exact h
/-- who lives at h: the first of np people -/
def whoF (np : Nat) (ho : Nat → Int) (h : Int) : Int := match fnd (fun p => decide (ho p = h)) np with | some p => (p : Int) | none => -2
/-- the reference's town at t -/
def MT (s : St) (t : Int) : Prop := (0 ≤ t ∧ t < 900000) ∧ gR s 76 3 = t ∧ kd s t = 22 ∧ (gR s t 8 = t + 1 ∧ gR s t 9 = t + 2 ∧ gR s t 10 = t + 3 ∧ gR s t 11 = t + 4 ∧ gR s t 12 = t + 5 ∧ gR s t 13 = t + 6 ∧ gR s t 14 = t + 7 ∧ gR s t 15 = t + 8 ∧ gR s t 16 = t + 9 ∧ gR s t 17 = t + 10) ∧
  (kd s (t + 1) = 1 ∧ kd s (t + 2) = 1 ∧ kd s (t + 3) = 1 ∧ kd s (t + 4) = 1 ∧ kd s (t + 5) = 1 ∧ kd s (t + 6) = 1 ∧ kd s (t + 7) = 1 ∧ kd s (t + 8) = 1 ∧ kd s (t + 9) = 1 ∧ kd s (t + 10) = 1) ∧
  (ln s (t + 1) = 6 ∧ ln s (t + 2) = 6 ∧ ln s (t + 3) = 6 ∧ ln s (t + 4) = 6 ∧ ln s (t + 5) = 6 ∧ ln s (t + 6) = 4 ∧ ln s (t + 7) = 4 ∧ ln s (t + 8) = 8 ∧ ln s (t + 9) = 8 ∧ ln s (t + 10) = 8) ∧ t + 14 ≤ (s.1.1 : Int)
theorem m_whoIn {s : St} {t h : Int} {np : Nat} (hS : Sh s) (hT : MT s t) (hp : gI s t 2 = np) (hp2 : np ≤ 6) : X13_whoIn s 76 h = some (whoF np (fun p => gI s 79 p) h, s) := by
  obtain ⟨⟨t1, t2⟩, t3, t4, t5, t6, t7⟩ := hT
  unfold X13_whoIn X13_whoIn_b2
  refine (iter_fnd (fun k => (s, 76, h, (k : Int))) np (fun p => decide (gI s 79 p = h)) (fun k => some ((k : Int), s)) (some (-2, s)) FU (by unfold FU; omega) (fun k hk rec => ?_) (fun rec => ?_)).trans ?_
  · simp [X13_whoIn_b2_body, tF, isK, shF hS, t3, t4, t1, show t < 1000000 by omega, hp, show ¬ np ≤ k by omega, show (k : Int) < 19 by omega]
    by_cases e : gI s 79 k = h <;> simp [e]
    rw [w32e (by omega)]
  · simp [X13_whoIn_b2_body, tF, isK, shF hS, t3, t4, t1, show t < 1000000 by omega, hp]
  · unfold whoF
    split <;> simp_all
theorem m_outOf {s : St} {t d aim night : Int} (hS : Sh s) (hT : MT s t) (hH : 2 ≤ gI s t 0 ∧ gI s t 0 ≤ 40) (hd : 0 ≤ d ∧ d < 6) (hl : 0 ≤ gI s (t + 2) d.toNat ∧ gI s (t + 2) d.toNat ≤ 3) (ha : 0 ≤ aim ∧ aim ≤ 100)
    (hs : 0 ≤ gI s 79 (6 + d).toNat ∧ gI s 79 (6 + d).toNat ≤ 39) (hm : gI s 79 (12 + d).toNat = -2 ∨ (0 ≤ gI s 79 (12 + d).toNat ∧ gI s 79 (12 + d).toNat ≤ 100)) (hn : 0 ≤ night ∧ night ≤ 99) :
    X13_outOf s 76 d aim night = some (outF (gI s t 0) (gI s (t + 2) d.toNat) (gI s 79 (6 + d).toNat) (gI s 79 (12 + d).toNat) aim night, s) := by
  have hT0 := hT
  obtain ⟨⟨t1, t2⟩, t3, t4, t5, t6, t7⟩ := hT
  have hb := shiftF_b hl hs hn
  have ar : ∀ x : Int, ok32 x → X13_around s 76 x = some (x % gI s t 0, s) := fun x hx => m_around hS t3 ⟨⟨t1, by omega⟩, t4⟩ hx (by omega) (by omega)
  have b71 : ∀ on : Int, -4000 ≤ on → on ≤ 4000 → X13_outOf_b71 s 76 d aim on = some (if gI s 79 (12 + d).toNat < 0 then (aim + on) % gI s t 0 else (2 * gI s 79 (12 + d).toNat - (aim + on)) % gI s t 0, s) := by
    intro on o1 o2
    have m1 := Int.emod_nonneg (aim + on) (b := gI s t 0) (by omega)
    have m2 := Int.emod_lt_of_pos (aim + on) (b := gI s t 0) (by omega)
    unfold X13_outOf_b71 X13_outOf_b119
    rw [w32e (x := aim + on) (by omega), ar _ ⟨by omega, by omega⟩, w32e (x := 12 + d) (by omega)]
    simp [tF, isK, shF hS, show 0 ≤ 12 + d by omega, show 12 + d < 19 by omega]
    rcases hm with hm | hm
    · simp [hm]
    · rw [if_neg (by omega), w32e (x := 2 * _) (by omega), w32e (by omega), ar _ ⟨by omega, by omega⟩]
      simp [tF, show ¬ gI s 79 (12 + d).toNat < 0 by omega]
  unfold X13_outOf outF
  have hmul : 0 ≤ gI s 79 (6 + d).toNat * night ∧ gI s 79 (6 + d).toNat * night ≤ 3861 := by
    constructor
    · exact Int.mul_nonneg hs.1 hn.1
    · have := Int.mul_le_mul hs.2 hn.2 hn.1 (by omega); omega
  have hev : Int.tmod night 2 = night % 2 := Int.tmod_eq_emod_of_nonneg hn.1
  rw [w32e (x := 6 + d) (by omega)]
  simp [tF, isK, shF hS, t3, t4, t1, t5, t6, t7, show t < 1000000 by omega, show 0 ≤ 6 + d by omega, show 6 + d < 19 by omega, show 0 ≤ t + 2 by omega, show t + 2 < 1000000 by omega, hd.1, hd.2, hev]
  unfold shiftF at hb ⊢
  have hl4 : gI s (t + 2) d.toNat = 0 ∨ gI s (t + 2) d.toNat = 1 ∨ gI s (t + 2) d.toNat = 2 ∨ gI s (t + 2) d.toNat = 3 := by omega
  rcases hl4 with e | e | e | e <;> simp [e, w32e (x := -gI s 79 (6 + d).toNat) (by omega), w32e (x := gI s 79 (6 + d).toNat * night) (by omega)]
  · rw [b71 _ (by omega) (by omega)]
  · rw [b71 _ (by omega) (by omega)]
  · rw [b71 _ (by omega) (by omega)]
  · by_cases h2 : night % 2 = 0 <;> simp [h2]
    · rw [b71 _ (by omega) (by omega)]
    · rw [b71 _ (by omega) (by omega)]
theorem fndF_spec (P : Nat → Bool) (n : Nat) : ∀ f, f ≤ n → (∀ k, fndF P n f = some k → n - f ≤ k ∧ k < n ∧ P k = true ∧ ∀ j, n - f ≤ j → j < k → P j = false) ∧ (fndF P n f = none → ∀ j, n - f ≤ j → j < n → P j = false)
  | 0, _ => ⟨fun k h => (by cases h), fun _ j h1 h2 => by omega⟩
  | f + 1, hf => by
    obtain ⟨i1, i2⟩ := fndF_spec P n f (by omega)
    unfold fndF
    by_cases hp : P (n - (f + 1)) = true
    · rw [if_pos hp]
      refine ⟨fun k h => ?_, fun h => by cases h⟩
      cases h
      exact ⟨Nat.le_refl _, by omega, hp, fun j h1 h2 => by omega⟩
    · rw [if_neg hp]
      have hp' : P (n - (f + 1)) = false := by simpa using hp
      refine ⟨fun k h => ?_, fun h j h1 h2 => ?_⟩
      · obtain ⟨a1, a2, a3, a4⟩ := i1 k h
        refine ⟨by omega, a2, a3, fun j h1 h2 => ?_⟩
        by_cases hj : j = n - (f + 1)
        · rw [hj]; exact hp'
        · exact a4 j (by omega) h2
      · by_cases hj : j = n - (f + 1)
        · rw [hj]; exact hp'
        · exact i2 h j (by omega) h2
theorem fnd_some {P : Nat → Bool} {n k : Nat} (h : fnd P n = some k) : k < n ∧ P k = true ∧ ∀ j, j < k → P j = false := by
  obtain ⟨a1, a2, a3, a4⟩ := (fndF_spec P n n (Nat.le_refl _)).1 k h
  exact ⟨a2, a3, fun j hj => a4 j (by omega) hj⟩
theorem fnd_none {P : Nat → Bool} {n : Nat} (h : fnd P n = none) : ∀ j, j < n → P j = false := fun j hj => (fndF_spec P n n (Nat.le_refl _)).2 h j (by omega) hj
theorem fnd_is {P : Nat → Bool} {n k : Nat} (h1 : k < n) (h2 : P k = true) (h3 : ∀ j, j < k → P j = false) : fnd P n = some k := by
  cases h : fnd P n with
  | none => rw [fnd_none h k h1] at h2; cases h2
  | some q =>
    obtain ⟨a1, a2, a3⟩ := fnd_some h
    rcases Nat.lt_trichotomy q k with g | g | g
    · rw [h3 q g] at a2; cases a2
    · rw [g]
    · rw [a3 k g] at h2; cases h2
theorem fnd_no {P : Nat → Bool} {n : Nat} (h : ∀ j, j < n → P j = false) : fnd P n = none := by
  cases e : fnd P n with
  | none => rfl
  | some q =>
    obtain ⟨a1, a2, -⟩ := fnd_some e
    rw [h q a1] at a2; cases a2
theorem fnd_cg {P Q : Nat → Bool} {n : Nat} (h : ∀ j, j < n → P j = Q j) : fnd P n = fnd Q n := by
  cases e : fnd Q n with
  | none => exact fnd_no fun j hj => (h j hj).trans (fnd_none e j hj)
  | some q =>
    obtain ⟨a1, a2, a3⟩ := fnd_some e
    exact fnd_is a1 ((h q a1).trans a2) fun j hj => (h j (by omega)).trans (a3 j hj)
/-- who hears what comes out at h: the first one from there on, round H houses -/
def hfF (H : Int) (np : Nat) (ho : Nat → Int) (h : Int) : Int := match fnd (fun k => decide (whoF np ho ((h + (k : Int)) % H) ≠ -2)) H.toNat with | some k => whoF np ho ((h + (k : Int)) % H) | none => -2
theorem who_in {np : Nat} {ho : Nat → Int} {p : Nat} (hp : p < np) : whoF np ho (ho p) ≠ -2 := by
  unfold whoF
  cases e : fnd (fun q => decide (ho q = ho p)) np with
  | none => have := fnd_none e p hp; simp at this
  | some q => simp
theorem hf_ex {H : Int} {np : Nat} {ho : Nat → Int} {h : Int} (hH : 0 < H) (hp : 0 < np) (h0 : 0 ≤ ho 0 ∧ ho 0 < H) : ∃ k, fnd (fun k => decide (whoF np ho ((h + (k : Int)) % H) ≠ -2)) H.toNat = some k := by
  cases e : fnd (fun k => decide (whoF np ho ((h + (k : Int)) % H) ≠ -2)) H.toNat with
  | some k => exact ⟨k, rfl⟩
  | none =>
    exfalso
    have m1 := Int.emod_nonneg (ho 0 - h) (b := H) (by omega)
    have m2 := Int.emod_lt_of_pos (ho 0 - h) (b := H) (by omega)
    have := fnd_none e ((ho 0 - h) % H).toNat (by omega)
    rw [Int.toNat_of_nonneg m1] at this
    have e2 : (h + (ho 0 - h) % H) % H = ho 0 := by
      rw [Int.add_emod, Int.emod_emod, ← Int.add_emod, show h + (ho 0 - h) = ho 0 by omega]
      exact Int.emod_eq_of_lt h0.1 h0.2
    rw [e2] at this
    simp at this
    exact who_in hp this
theorem m_heardFrom {s : St} {t h : Int} {np : Nat} (hS : Sh s) (hT : MT s t) (hH : 2 ≤ gI s t 0 ∧ gI s t 0 ≤ 40) (hp : gI s t 2 = np) (hp1 : 0 < np) (hp2 : np ≤ 6) (h0 : 0 ≤ gI s 79 0 ∧ gI s 79 0 < gI s t 0) (hh : 0 ≤ h ∧ h < gI s t 0) : X13_heardFrom s 76 h = some (hfF (gI s t 0) np (fun p => gI s 79 p) h, s) := by
  have hw : ∀ x, X13_whoIn s 76 x = some (whoF np (fun p => gI s 79 p) x, s) := fun x => m_whoIn hS hT hp hp2
  obtain ⟨k, hk⟩ := hf_ex (H := gI s t 0) (h := h) (ho := fun p => gI s 79 p) (by omega) hp1 h0
  obtain ⟨k1, k2, k3⟩ := fnd_some hk
  have hT0 := hT
  obtain ⟨⟨t1, t2⟩, t3, t4, t5, t6, t7⟩ := hT
  have ar : ∀ x : Int, ok32 x → X13_around s 76 x = some (x % gI s t 0, s) := fun x hx => m_around hS t3 ⟨⟨t1, by omega⟩, t4⟩ hx (by omega) (by omega)
  unfold X13_heardFrom X13_heardFrom_b2 hfF
  rw [hk]
  have e0 : (s, (76 : Int), h) = (fun k : Nat => (s, (76 : Int), (h + (k : Int)) % gI s t 0)) 0 := by
    show _ = (s, (76 : Int), (h + 0) % gI s t 0)
    rw [Int.add_zero, Int.emod_eq_of_lt hh.1 hh.2]
  rw [e0]
  refine iter_run k FU (fun k : Nat => (s, (76 : Int), (h + (k : Int)) % gI s t 0)) (by unfold FU; omega) (fun j hj rec => ?_) (fun rec => ?_)
  · have h3 := k3 j hj
    simp at h3
    have m1 := Int.emod_nonneg (h + (j : Int)) (b := gI s t 0) (by omega)
    have m2 := Int.emod_lt_of_pos (h + (j : Int)) (b := gI s t 0) (by omega)
    simp [X13_heardFrom_b2_body, tF, isK, shF hS, hw, h3]
    rw [w32e (by omega), ar _ ⟨by omega, by omega⟩]
    simp [tF]
    rw [Int.add_assoc]
  · simp at k2
    simp [X13_heardFrom_b2_body, tF, isK, shF hS, hw, k2]
