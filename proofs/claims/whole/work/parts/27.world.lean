/-! the town as told, and as it is now -/
abbrev Nw : Type := Int × (Nat → Int) × (Nat → Int) × (Nat → Int)
def nN (N : Nw) : Int := N.1
def nHo (N : Nw) : Nat → Int := N.2.1
def nSl (N : Nw) : Nat → Int := N.2.2.1
def nMi (N : Nw) : Nat → Int := N.2.2.2
/-- houses, lips, people, dead, unsure, heard; laws, for whom; as told first; who is unsure, the other slip; heard by whom, whom, which night -/
abbrev Tw : Type := (Nat × Nat × Nat × Nat × Nat × Nat) × (Nat → Int) × (Nat → Nat) × Nw × (Nat → Nat) × (Nat → Int) × (Nat → Int) × (Nat → Nat) × (Nat → Int)
def tH (T : Tw) : Nat := T.1.1
def tL (T : Tw) : Nat := T.1.2.1
def tP (T : Tw) : Nat := T.1.2.2.1
def tD (T : Tw) : Nat := T.1.2.2.2.1
def tU (T : Tw) : Nat := T.1.2.2.2.2.1
def tQ (T : Tw) : Nat := T.1.2.2.2.2.2
def tLaw (T : Tw) : Nat → Int := T.2.1
def tFo (T : Tw) : Nat → Nat := T.2.2.1
def tN (T : Tw) : Nw := T.2.2.2.1
def tUd (T : Tw) : Nat → Nat := T.2.2.2.2.1
def tUs (T : Tw) : Nat → Int := T.2.2.2.2.2.1
def tQp (T : Tw) : Nat → Int := T.2.2.2.2.2.2.1
def tQd (T : Tw) : Nat → Nat := T.2.2.2.2.2.2.2.1
def tQn (T : Tw) : Nat → Int := T.2.2.2.2.2.2.2.2
def TOK (T : Tw) : Prop := (2 ≤ tH T ∧ tH T ≤ 40 ∧ tL T ≤ 100 ∧ 1 ≤ tP T ∧ tP T ≤ 6 ∧ tD T ≤ 6 ∧ tU T ≤ 4 ∧ tQ T ≤ 8) ∧ (∀ d, d < tD T → 0 ≤ tLaw T d ∧ tLaw T d ≤ 3 ∧ tFo T d < tP T) ∧ (∀ k, k < tU T → tUd T k < tD T ∧ 0 ≤ tUs T k ∧ tUs T k ≤ 39) ∧ ∀ k, k < tQ T → tQd T k < tD T ∧ 0 ≤ tQn T k ∧ tQn T k ≤ 60
def NOK (T : Tw) (N : Nw) : Prop := (0 ≤ nN N ∧ nN N ≤ 99) ∧ (∀ p, p < tP T → 0 ≤ nHo N p ∧ nHo N p < tH T) ∧ (∀ p q, p < tP T → q < p → nHo N q ≠ nHo N p) ∧ ∀ d, d < tD T → (0 ≤ nSl N d ∧ nSl N d ≤ 39) ∧ (nMi N d = -2 ∨ (0 ≤ nMi N d ∧ nMi N d < tH T))
/-- where, who, right -/
def outT (T : Tw) (N : Nw) (d : Nat) (aim night : Int) : Int := outF (tH T) (tLaw T d) (nSl N d) (nMi N d) aim night
def aimT (T : Tw) (N : Nw) (d : Nat) : Int := nHo N (tFo T d)
def lisT (T : Tw) (N : Nw) (h : Int) : Int := hfF (tH T) (tP T) (nHo N) h
def heaT (T : Tw) (N : Nw) (d : Nat) (night : Int) : Int := lisT T N (outT T N d (aimT T N d) night)
def rigT (T : Tw) (N : Nw) (d : Nat) (night : Int) : Bool := decide (heaT T N d night = (tFo T d : Int))
theorem outF_b {H law slip mir aim night : Int} (hH : 0 < H) : 0 ≤ outF H law slip mir aim night ∧ outF H law slip mir aim night < H := by
  unfold outF
  split
  · exact ⟨Int.emod_nonneg _ (by omega), Int.emod_lt_of_pos _ hH⟩
  · exact ⟨Int.emod_nonneg _ (by omega), Int.emod_lt_of_pos _ hH⟩
theorem whoF_b (np : Nat) (ho : Nat → Int) (h : Int) : whoF np ho h = -2 ∨ (0 ≤ whoF np ho h ∧ whoF np ho h < np) := by
  unfold whoF
  cases e : fnd (fun p => decide (ho p = h)) np with
  | none => exact Or.inl rfl
  | some p => exact Or.inr ⟨by simp, by have := (fnd_some e).1; simp; omega⟩
theorem hfF_b {H : Int} {np : Nat} {ho : Nat → Int} {h : Int} (hH : 0 < H) (hp : 0 < np) (h0 : 0 ≤ ho 0 ∧ ho 0 < H) : 0 ≤ hfF H np ho h ∧ hfF H np ho h < np := by
  obtain ⟨k, hk⟩ := hf_ex (h := h) hH hp h0
  unfold hfF
  rw [hk]
  have h2 := (fnd_some hk).2.1
  simp at h2
  rcases whoF_b np ho ((h + (k : Int)) % H) with e | e
  · exact absurd e h2
  · exact e
theorem outT_b {T : Tw} (hT : TOK T) (N : Nw) (d : Nat) (aim night : Int) : 0 ≤ outT T N d aim night ∧ outT T N d aim night < tH T := outF_b (by have := hT.1.1; omega)
theorem lisT_b {T : Tw} {N : Nw} (hT : TOK T) (hN : NOK T N) (h : Int) : 0 ≤ lisT T N h ∧ lisT T N h < tP T := hfF_b (by have := hT.1.1; omega) hT.1.2.2.2.1 (hN.2.1 0 hT.1.2.2.2.1)
/-- the class's town in cell 19 -/
def CT (s : St) (T : Tw) : Prop := (gI s 19 0 = tH T ∧ gI s 19 1 = tL T ∧ gI s 19 2 = tP T ∧ gI s 19 3 = tD T ∧ gI s 19 4 = tU T ∧ gI s 19 5 = tQ T) ∧ (∀ d, d < tD T → gI s 24 d = tLaw T d ∧ gI s 25 d = tFo T d) ∧ (∀ k, k < tU T → gI s 26 k = tUd T k ∧ gI s 27 k = tUs T k) ∧ (∀ k, k < tQ T → gI s 28 k = tQp T k ∧ gI s 29 k = tQd T k ∧ gI s 30 k = tQn T k) ∧
  (∀ p, p < tP T → gI s 21 p = nHo (tN T) p) ∧ ∀ d, d < tD T → gI s 22 d = nSl (tN T) d ∧ gI s 23 d = nMi (tN T) d
/-- voices: object, state, its rows, street, its rows -/
def vcOK (v st r sl mi x o l : Int) : Prop := (v = 31 ∧ st = 32 ∧ r = 33 ∧ sl = 34 ∧ mi = 35 ∧ x = 36 ∧ o = 37 ∧ l = 38) ∨ (v = 39 ∧ st = 40 ∧ r = 41 ∧ sl = 42 ∧ mi = 43 ∧ x = 44 ∧ o = 45 ∧ l = 46)
theorem vcOK.st {v st r sl mi x o l : Int} (h : vcOK v st r sl mi x o l) : stOK x o l r := by
  rcases h with ⟨rfl, rfl, rfl, rfl, rfl, rfl, rfl, rfl⟩ | ⟨rfl, rfl, rfl, rfl, rfl, rfl, rfl, rfl⟩
  · exact Or.inl ⟨rfl, rfl, rfl, rfl⟩
  · exact Or.inr ⟨rfl, rfl, rfl, rfl⟩
/-- the rows of voices hold N -/
def CV (s : St) (T : Tw) (N : Nw) (r sl mi x o l : Int) : Prop := (∀ p, p < tP T → gI s r p = nHo N p) ∧ (∀ d, d < tD T → gI s sl d = nSl N d ∧ gI s mi d = nMi N d) ∧ StrOK s x o l (tH T) (tP T) (nHo N)
section VOICES
variable {s : St} {T : Tw} {N : Nw} {v st r sl mi x o l : Int} {d : Nat} {night aim : Int}
theorem landingAimed_e (hv : vcOK v st r sl mi x o l) (hS : Sh s) (hT : TOK T) (hN : NOK T N) (hC : CT s T) (hV : CV s T N r sl mi x o l) (hd : d < tD T) (ha : 0 ≤ aim ∧ aim ≤ 100) (hn : 0 ≤ night ∧ night ≤ 99) : X10_landingAimed s v d aim night = some (outT T N d aim night, s) := by
  obtain ⟨⟨t1, t2, t3, t4, t5, t6, t7, t8⟩, t9, -⟩ := hT
  obtain ⟨l1, l2, l3⟩ := t9 d hd
  obtain ⟨n1, n2⟩ := hN.2.2.2 d hd
  obtain ⟨v1, v2⟩ := hV.2.1 d hd
  obtain ⟨c1, c2⟩ := hC.2.1 d hd
  have e := landingWith_e (s := s) (v := v) (d := (d : Int)) (aim := aim) (slip := nSl N d) (mir := nMi N d) (night := night) hS (by rcases hv with ⟨rfl, -⟩ | ⟨rfl, -⟩ <;> simp) (by rw [hC.1.1]; omega) (by omega) (by rw [Int.toNat_natCast, c1]; exact ⟨l1, l2⟩) ha n1 (by omega) hn
  rw [Int.toNat_natCast, c1, hC.1.1] at e
  unfold X10_landingAimed
  rcases hv with ⟨rfl, rfl, rfl, rfl, rfl, rfl, rfl, rfl⟩ | ⟨rfl, rfl, rfl, rfl, rfl, rfl, rfl, rfl⟩ <;>
  (simp [tF, isK, shF hS, show (d : Int) < 6 by omega, v1, v2, e]; rfl)
theorem aimOf_e (hv : vcOK v st r sl mi x o l) (hS : Sh s) (hT : TOK T) (hC : CT s T) (hV : CV s T N r sl mi x o l) (hd : d < tD T) : X10_aimOf s v d = some (aimT T N d, s) := by
  obtain ⟨⟨t1, t2, t3, t4, t5, t6, t7, t8⟩, t9, -⟩ := hT
  obtain ⟨l1, l2, l3⟩ := t9 d hd
  obtain ⟨c1, c2⟩ := hC.2.1 d hd
  have h2 := hV.1 _ l3
  unfold X10_aimOf aimT
  rcases hv with ⟨rfl, rfl, rfl, rfl, rfl, rfl, rfl, rfl⟩ | ⟨rfl, rfl, rfl, rfl, rfl, rfl, rfl, rfl⟩ <;>
  simp [tF, isK, shF hS, show (d : Int) < 6 by omega, show ((tFo T d : Nat) : Int) < 6 by omega, c2, h2]
theorem aimed_e (hv : vcOK v st r sl mi x o l) (hS : Sh s) (hT : TOK T) (hN : NOK T N) (hC : CT s T) (hV : CV s T N r sl mi x o l) (hd : d < tD T) (hn : 0 ≤ night ∧ night ≤ 99) : X10_landingAimed s v d (aimT T N d) night = some (outT T N d (aimT T N d) night, s) := by
  have h1 := hN.2.1 _ (hT.2.1 d hd).2.2
  have t2 := hT.1.2.1
  exact landingAimed_e (aim := aimT T N d) hv hS hT hN hC hV hd (by unfold aimT; omega) hn
theorem landing_e (hv : vcOK v st r sl mi x o l) (hS : Sh s) (hT : TOK T) (hN : NOK T N) (hC : CT s T) (hV : CV s T N r sl mi x o l) (hd : d < tD T) (hn : 0 ≤ night ∧ night ≤ 99) : X10_landing s v d night = some (outT T N d (aimT T N d) night, s) := by
  have ea := aimOf_e hv hS hT hC hV hd
  have e := aimed_e hv hS hT hN hC hV hd hn
  unfold X10_landing
  rcases hv with ⟨rfl, rfl, rfl, rfl, rfl, rfl, rfl, rfl⟩ | ⟨rfl, rfl, rfl, rfl, rfl, rfl, rfl, rfl⟩ <;>
  simp [tF, isK, shF hS, ea, e]
theorem listener_e (hv : vcOK v st r sl mi x o l) (hS : Sh s) (hT : TOK T) (hN : NOK T N) (hC : CT s T) (hV : CV s T N r sl mi x o l) (hd : d < tD T) (hn : 0 ≤ night ∧ night ≤ 99) : X10_listener s v d night = some (heaT T N d night, s) := by
  have ea := aimOf_e hv hS hT hC hV hd
  have e := aimed_e hv hS hT hN hC hV hd hn
  have e2 := listenerAt_e hv.st hS hV.2.2 hT.1.2.1 (outT_b hT N d (aimT T N d) night)
  unfold X10_listener heaT lisT
  rcases hv with ⟨rfl, rfl, rfl, rfl, rfl, rfl, rfl, rfl⟩ | ⟨rfl, rfl, rfl, rfl, rfl, rfl, rfl, rfl⟩ <;>
  simp [tF, isK, shF hS, ea, e, e2]
theorem isRight_e (hv : vcOK v st r sl mi x o l) (hS : Sh s) (hT : TOK T) (hN : NOK T N) (hC : CT s T) (hV : CV s T N r sl mi x o l) (hd : d < tD T) (hn : 0 ≤ night ∧ night ≤ 99) : X10_isRight s v d night = some (if rigT T N d night = true then 1 else 0, s) := by
  have e := listener_e hv hS hT hN hC hV hd hn
  obtain ⟨c1, c2⟩ := hC.2.1 d hd
  have t6 := hT.1.2.2.2.2.2.1
  unfold X10_isRight rigT
  by_cases h : heaT T N d night = (tFo T d : Int) <;>
  rcases hv with ⟨rfl, rfl, rfl, rfl, rfl, rfl, rfl, rfl⟩ | ⟨rfl, rfl, rfl, rfl, rfl, rfl, rfl, rfl⟩ <;>
  simp [tF, isK, shF hS, e, show (d : Int) < 6 by omega, c2, h, X10_isRight_b23]
end VOICES
