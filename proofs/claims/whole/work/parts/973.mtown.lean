/-! a new town's cells on the reference -/
def mkc (s : St) (t : Int) (f K n : Nat) : St := pR (nw s K n) t f (s.1.1 : Int)
def shp : Nat → Nat × Nat
  | 1 => (1, 6) | 2 => (1, 6) | 3 => (1, 6) | 4 => (1, 6) | 5 => (1, 6) | 6 => (1, 4) | 7 => (1, 4) | 8 => (1, 8) | 9 => (1, 8) | 10 => (1, 8) | 11 => (3, 12) | 12 => (1, 12) | 13 => (1, 12) | _ => (0, 0)
def IT (t c : Nat) (s0 s : St) : Prop := (s.1.1 = t + c ∧ s.1.2 ≤ s0.1.2 + 9 + 12 * c) ∧ (∀ a, a < t → s.2.1 a = s0.2.1 a ∧ s.2.2.1 a = s0.2.2.1 a ∧ s.2.2.2 a = s0.2.2.2 a) ∧ s.2.1 t = (22, 21) ∧ (∀ j, 1 ≤ j → j < c → s.2.1 (t + j) = shp j ∧ s.2.2.1 t (7 + j) = ((t + j : Nat) : Int)) ∧ ∀ j, j < c → ∀ k, s.2.2.2 (t + j) k = 0
section NEWT
variable {s s0 : St} {t c : Nat}
theorem it_new (s0 : St) : IT s0.1.1 1 s0 (nw s0 22 21) := by
  refine ⟨⟨rfl, by show s0.1.2 + 21 ≤ _; omega⟩, fun a ha => ⟨?_, ?_, ?_⟩, ?_, fun j h1 h2 => by omega, fun j hj k => ?_⟩
  · show (if a = s0.1.1 then (22, 21) else s0.2.1 a) = _; exact if_neg (by omega)
  · funext k; show (if a = s0.1.1 then (-1 : Int) else s0.2.2.1 a k) = _; exact if_neg (by omega)
  · funext k; show (if a = s0.1.1 then (0 : Int) else s0.2.2.2 a k) = _; exact if_neg (by omega)
  · show (if s0.1.1 = s0.1.1 then (22, 21) else s0.2.1 s0.1.1) = _; exact if_pos rfl
  · have : j = 0 := by omega
    subst this
    show (if s0.1.1 + 0 = s0.1.1 then (0 : Int) else s0.2.2.2 (s0.1.1 + 0) k) = 0
    exact if_pos rfl
theorem it_step {K n : Nat} (h : IT t c s0 s) (hc : 1 ≤ c) (hs : shp c = (K, n)) (hn : n ≤ 12) : IT t (c + 1) s0 (mkc s (t : Int) (7 + c) K n) := by
  obtain ⟨⟨h1, h1'⟩, h2, h3, h4, h5⟩ := h
  have tt : ((t : Nat) : Int).toNat = t := Int.toNat_natCast t
  refine ⟨⟨?_, ?_⟩, fun a ha => ⟨?_, ?_, ?_⟩, ?_, fun j j1 j2 => ⟨?_, ?_⟩, fun j hj k => ?_⟩
  · show s.1.1 + 1 = _; omega
  · show s.1.2 + n ≤ _; omega
  · show (if a = s.1.1 then (K, n) else s.2.1 a) = _
    rw [if_neg (by omega)]; exact (h2 a ha).1
  · funext k
    show (if a = ((t : Nat) : Int).toNat ∧ k = 7 + c then (s.1.1 : Int) else if a = s.1.1 then (-1 : Int) else s.2.2.1 a k) = _
    rw [tt, if_neg (by omega), if_neg (by omega), (h2 a ha).2.1]
  · funext k
    show (if a = s.1.1 then (0 : Int) else s.2.2.2 a k) = _
    rw [if_neg (by omega), (h2 a ha).2.2]
  · show (if t = s.1.1 then (K, n) else s.2.1 t) = _
    rw [if_neg (by omega)]; exact h3
  · show (if t + j = s.1.1 then (K, n) else s.2.1 (t + j)) = _
    by_cases z : j = c
    · rw [if_pos (by omega), z, hs]
    · rw [if_neg (by omega)]; exact (h4 j j1 (by omega)).1
  · show (if t = ((t : Nat) : Int).toNat ∧ 7 + j = 7 + c then (s.1.1 : Int) else if t = s.1.1 then (-1 : Int) else s.2.2.1 t (7 + j)) = _
    by_cases z : j = c
    · rw [tt, if_pos ⟨rfl, by omega⟩, h1, z]
    · rw [tt, if_neg (by omega), if_neg (by omega)]; exact (h4 j j1 (by omega)).2
  · show (if t + j = s.1.1 then (0 : Int) else s.2.2.2 (t + j) k) = 0
    by_cases z : j = c
    · rw [if_pos (by omega)]
    · rw [if_neg (by omega)]; exact h5 j (by omega) k
theorem it_ev {f K : Nat} {n : Int} {k : St → Rs} (h : IT t c s0 s) (hc : 1 ≤ c ∧ c ≤ 13) (ht : t < 900000) (hn : 0 ≤ n ∧ n ≤ 100000) : grd (s.1.1 < 1000000 ∧ 0 ≤ n ∧ n ≤ 100000) (lets (nw s K n.toNat) (fun s1 => grd (isK s1 22 (t : Int)) (lets (pR s1 (t : Int) f (s.1.1 : Int)) k))) = k (mkc s (t : Int) f K n.toNat) := by
  have h1 := h.1.1
  have tt : ((t : Nat) : Int).toNat = t := Int.toNat_natCast t
  rw [grd_t ⟨by omega, hn⟩, lets_e, grd_t, lets_e]
  · rfl
  · refine ⟨⟨by omega, by omega⟩, ?_⟩
    show (if ((t : Nat) : Int).toNat = s.1.1 then (K, n.toNat) else s.2.1 ((t : Nat) : Int).toNat).1 = 22
    rw [tt, if_neg (by omega), h.2.2.1]
theorem m_init (ht : s0.1.1 < 900000) : ∃ s1, X12_init (nw s0 22 21) (s0.1.1 : Int) = some (0, s1) ∧ IT s0.1.1 14 s0 s1 := by
  have h1 := it_new s0
  have h2 := it_step (K := 1) (n := 6) h1 (by decide) rfl (by decide)
  have h3 := it_step (K := 1) (n := 6) h2 (by decide) rfl (by decide)
  have h4 := it_step (K := 1) (n := 6) h3 (by decide) rfl (by decide)
  have h5 := it_step (K := 1) (n := 6) h4 (by decide) rfl (by decide)
  have h6 := it_step (K := 1) (n := 6) h5 (by decide) rfl (by decide)
  have h7 := it_step (K := 1) (n := 4) h6 (by decide) rfl (by decide)
  have h8 := it_step (K := 1) (n := 4) h7 (by decide) rfl (by decide)
  have h9 := it_step (K := 1) (n := 8) h8 (by decide) rfl (by decide)
  have h10 := it_step (K := 1) (n := 8) h9 (by decide) rfl (by decide)
  have h11 := it_step (K := 1) (n := 8) h10 (by decide) rfl (by decide)
  have h12 := it_step (K := 3) (n := 12) h11 (by decide) rfl (by decide)
  have h13 := it_step (K := 1) (n := 12) h12 (by decide) rfl (by decide)
  have h14 := it_step (K := 1) (n := 12) h13 (by decide) rfl (by decide)
  refine ⟨_, ?_, h14⟩
  have k0 : isK (nw s0 22 21) 22 (s0.1.1 : Int) := by
    refine ⟨⟨by omega, by omega⟩, ?_⟩
    show (if ((s0.1.1 : Nat) : Int).toNat = s0.1.1 then (22, 21) else s0.2.1 ((s0.1.1 : Nat) : Int).toNat).1 = 22
    rw [Int.toNat_natCast, if_pos rfl]
  unfold X12_init
  rw [grd_t k0]
  refine (it_ev h1 (by decide) ht (by decide)).trans ?_
  refine (it_ev h2 (by decide) ht (by decide)).trans ?_
  refine (it_ev h3 (by decide) ht (by decide)).trans ?_
  refine (it_ev h4 (by decide) ht (by decide)).trans ?_
  refine (it_ev h5 (by decide) ht (by decide)).trans ?_
  refine (it_ev h6 (by decide) ht (by decide)).trans ?_
  refine (it_ev h7 (by decide) ht (by decide)).trans ?_
  refine (it_ev h8 (by decide) ht (by decide)).trans ?_
  refine (it_ev h9 (by decide) ht (by decide)).trans ?_
  refine (it_ev h10 (by decide) ht (by decide)).trans ?_
  refine (it_ev h11 (by decide) ht (by decide)).trans ?_
  refine (it_ev h12 (by decide) ht (by decide)).trans ?_
  exact it_ev h13 (by decide) ht (by decide)
theorem rf764 : ∀ q ∈ rfT, ¬ (q.1 = 76 ∧ (q.2.1 = 4 ∨ q.2.1 = 3)) ∧ q.1 < 89 := by decide +kernel
/-- what was there before stays: shapes, references, numbers below t -/
def OT (t : Nat) (s s1 : St) : Prop := t ≤ s1.1.1 ∧ (∀ a, a < t → s1.2.1 a = s.2.1 a) ∧ (∀ a, a < t → ∀ k, ¬ (a = 76 ∧ k = 4) → s1.2.2.1 a k = s.2.2.1 a k) ∧ ∀ a, a < t → a ≠ 76 → s1.2.2.2 a = s.2.2.2 a
theorem OT.sh {s1 : St} (h : OT t s s1) (ht : 89 ≤ t) (hS : Sh s) : Sh s1 := by
  refine ⟨fun a ha => (h.2.1 a (by omega)).trans (hS.1 a ha), fun q hq => ?_⟩
  obtain ⟨r1, r2⟩ := rf764 q hq
  exact (h.2.2.1 q.1 (by omega) q.2.1 (fun z => r1 ⟨z.1, Or.inl z.2⟩)).trans (hS.2 q hq)
theorem OT.fr {s1 s2 : St} (h : OT t s s1) (hf : Fr (fun a => a = 76 ∨ t ≤ a) s1 s2) : OT t s s2 := by
  refine ⟨by rw [hf.1]; exact h.1, fun a ha => by rw [hf.2.1]; exact h.2.1 a ha, fun a ha k hk => by rw [hf.2.2.1]; exact h.2.2.1 a ha k hk, fun a ha h76 => ?_⟩
  rw [hf.2.2.2 a (fun z => by omega)]
  exact h.2.2.2 a ha h76
theorem OT.mw {s1 : St} {T : Tw} {u : Int} (h : OT t s s1) (ht : 89 ≤ t) (hM : MW T u s) (hu : u + 14 ≤ (t : Int)) : MW T u s1 := by
  obtain ⟨w1, w2, ⟨⟨m1, m2⟩, m3, m4, m5, m6, m7, m8⟩, w4, w5⟩ := hM
  have ek : ∀ j : Int, 0 ≤ j → j ≤ 10 → kd s1 (u + j) = kd s (u + j) := fun j h1 h2 => by unfold kd; rw [h.2.1 _ (by omega)]
  have el : ∀ j : Int, 0 ≤ j → j ≤ 10 → ln s1 (u + j) = ln s (u + j) := fun j h1 h2 => by unfold ln; rw [h.2.1 _ (by omega)]
  have er : ∀ k, gR s1 u k = gR s u k := fun k => h.2.2.1 _ (by omega) k (fun z => by omega)
  have e3 : gR s1 76 3 = gR s 76 3 := h.2.2.1 76 (by omega) 3 (fun z => by omega)
  have eg : ∀ (j : Int) (k : Nat), 0 ≤ j → j ≤ 10 → gI s1 (u + j) k = gI s (u + j) k := fun j k h1 h2 => congrFun (h.2.2.2 _ (by omega) (by omega)) k
  have ek0 : kd s1 u = kd s u := by have := ek 0 (by decide) (by decide); rwa [Int.add_zero] at this
  have eg0 : ∀ k, gI s1 u k = gI s u k := fun k => by have := eg 0 k (by decide) (by decide); rwa [Int.add_zero] at this
  refine ⟨h.sh ht w1, w2, ⟨⟨m1, m2⟩, ?_, ?_, ?_, ?_, ?_, ?_⟩, w4, ?_⟩
  · rw [e3]; exact m3
  · rw [ek0]; exact m4
  · simp only [er]; exact m5
  · simp only [ek 1 (by decide) (by decide), ek 2 (by decide) (by decide), ek 3 (by decide) (by decide), ek 4 (by decide) (by decide), ek 5 (by decide) (by decide), ek 6 (by decide) (by decide), ek 7 (by decide) (by decide), ek 8 (by decide) (by decide), ek 9 (by decide) (by decide), ek 10 (by decide) (by decide)]; exact m6
  · simp only [el 1 (by decide) (by decide), el 2 (by decide) (by decide), el 3 (by decide) (by decide), el 4 (by decide) (by decide), el 5 (by decide) (by decide), el 6 (by decide) (by decide), el 7 (by decide) (by decide), el 8 (by decide) (by decide), el 9 (by decide) (by decide), el 10 (by decide) (by decide)]; exact m7
  · have := h.1; omega
  · simp only [eg0, eg 1 _ (by decide) (by decide), eg 2 _ (by decide) (by decide), eg 3 _ (by decide) (by decide), eg 4 _ (by decide) (by decide), eg 5 _ (by decide) (by decide), eg 6 _ (by decide) (by decide), eg 7 _ (by decide) (by decide), eg 8 _ (by decide) (by decide), eg 9 _ (by decide) (by decide), eg 10 _ (by decide) (by decide)]
    exact w5
/-- the town read is a town -/
theorem RT_mw {s1 : St} {D : DR} (hS : Sh s1) (hR : RTs s1 t) (hD : MDr s1 t D) (hT : TOK (dT D)) (h3 : gR s1 76 3 = (t : Int)) (hc : t + 14 ≤ s1.1.1) : MW (dT D) (t : Int) s1 := by
  obtain ⟨⟨r1, r2⟩, r3, r4, r5, r6, r7⟩ := hR
  have ea : ∀ c : Nat, ad t c = (t : Int) + (c : Int) := fun c => by unfold ad; omega
  have e0 : ad t 0 = (t : Int) := by rw [ea]; simp
  have e1 : ad t 1 = (t : Int) + 1 := ea 1
  have e2 : ad t 2 = (t : Int) + 2 := ea 2
  have e3 : ad t 3 = (t : Int) + 3 := ea 3
  have e4 : ad t 4 = (t : Int) + 4 := ea 4
  have e5 : ad t 5 = (t : Int) + 5 := ea 5
  have e6 : ad t 6 = (t : Int) + 6 := ea 6
  have e7 : ad t 7 = (t : Int) + 7 := ea 7
  have e8 : ad t 8 = (t : Int) + 8 := ea 8
  have e9 : ad t 9 = (t : Int) + 9 := ea 9
  have e10 : ad t 10 = (t : Int) + 10 := ea 10
  unfold MDr at hD
  rw [e0, e1, e2, e3, e4, e5, e6, e7, e8, e9, e10] at *
  obtain ⟨⟨d0, d1, d2, d3, d5, d6, d7⟩, b1, b2, b3, b4, b5⟩ := hD
  exact ⟨hS, hT, ⟨⟨by omega, by omega⟩, h3, r4, ⟨r5.1, r5.2.1, r5.2.2.1, r5.2.2.2.1, r5.2.2.2.2.1, r5.2.2.2.2.2.1, r5.2.2.2.2.2.2.1, r5.2.2.2.2.2.2.2.1, r5.2.2.2.2.2.2.2.2.1, r5.2.2.2.2.2.2.2.2.2.1⟩, ⟨r6.1, r6.2.1, r6.2.2.1, r6.2.2.2.1, r6.2.2.2.2.1, r6.2.2.2.2.2.1, r6.2.2.2.2.2.2.1, r6.2.2.2.2.2.2.2.1, r6.2.2.2.2.2.2.2.2.1, r6.2.2.2.2.2.2.2.2.2.1⟩, ⟨r7.1, r7.2.1, r7.2.2.1, r7.2.2.2.1, r7.2.2.2.2.1, r7.2.2.2.2.2.1, r7.2.2.2.2.2.2.1, r7.2.2.2.2.2.2.2.1, r7.2.2.2.2.2.2.2.2.1, r7.2.2.2.2.2.2.2.2.2.1⟩, by omega⟩, by omega, ⟨d0, d1, d2, d3, d5, d6⟩, fun d hd => (b2 d hd).1, b3, b4, b1, fun d hd => (b2 d hd).2⟩
end NEWT
