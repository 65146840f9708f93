/-! the invariant of both sides -/
abbrev Im : Type := Nat × (Nat → Nw)
def th3 (x : Nat) : Nat := x % 2 + 3 * (x / 2 % 2) + 9 * (x / 4 % 2) + 27 * (x / 8 % 2) + 81 * (x / 16 % 2) + 243 * (x / 32 % 2)
def OKS (W : Wd) (L : Lg) (I : Im) : Prop := (W = none → L.1 = 0 ∧ I.1 = 0) ∧ L.1 ≤ 16 ∧ I.1 ≤ 3 ∧ ∀ T N, W = some (T, N) → TFK T ∧ NOK T N ∧ LOK T L N ∧ ∀ i, i < I.1 → NOK T (I.2 i)
def CI (W : Wd) (L : Lg) (I : Im) (tr fl fp : Int) (tp : Nat × (Nat → Int)) (s : St) : Prop := CW W s ∧ (gI s 0 1 = tp.1 ∧ gI s 0 2 = tr ∧ gI s 0 3 = fl ∧ gI s 0 4 = fp ∧ gI s 0 15 = I.1) ∧ (∀ j, j < tp.1 → gI s 1 j = tp.2 j) ∧ ((∀ x, x < 64 → gI s 51 x = (th3 x : Int)) ∧ gI s 4 0 = 0) ∧ LGc s L ∧ (W = none → gI s 19 1 = 0 ∧ gI s 19 4 = 0 ∧ gI s 19 5 = 0 ∧ gI s 32 0 = 0) ∧ ∀ T N, W = some (T, N) → FTc T s ∧ ∀ i, i < I.1 → SR s (64 + 4 * (i : Int)) T (I.2 i)
def MI_ (W : Wd) (L : Lg) (I : Im) (tr fl fp : Int) (tp : Nat × (Nat → Int)) (s : St) : Prop := MWd W s ∧ (gI s 76 1 = tr ∧ gI s 76 2 = (if tr = 4 then fp else -1) ∧ gI s 76 6 = tp.1 ∧ gI s 76 12 = fl ∧ gI s 76 19 = L.1 ∧ gI s 76 20 = I.1) ∧ (∀ j, j < tp.1 → gI s 77 j = tp.2 j) ∧ ∀ T N, W = some (T, N) → LGm s T L ∧ ∀ i, i < I.1 → RXf (fun j => gI s 81 (19 * i + j)) T (I.2 i)
section INV
variable {W : Wd} {L : Lg} {I : Im} {tr fl fp w : Int} {tp : Nat × (Nat → Int)} {s s1 s2 : St}
theorem SR.eq {a : Int} {T : Tw} {N : Nw} (h : SR s a T N) (e : ∀ i : Int, 0 ≤ i → i ≤ 3 → ∀ k, gI s1 (a + i) k = gI s (a + i) k) : SR s1 a T N := by
  have e0 : gI s1 a 0 = gI s a 0 := by have := e 0 (by decide) (by decide) 0; rwa [Int.add_zero] at this
  refine ⟨e0.trans h.1, fun p hp => (e 1 (by decide) (by decide) p).trans (h.2.1 p hp), fun d hd => ⟨(e 2 (by decide) (by decide) d).trans (h.2.2 d hd).1, (e 3 (by decide) (by decide) d).trans (h.2.2 d hd).2⟩⟩
theorem CI.mfr (h : CI W L I tr fl fp tp s) (hI : I.1 ≤ 3) (hf : Fr (fun a => 76 ≤ a) s s1) : CI W L I tr fl fp tp s1 := by
  obtain ⟨⟨h1, h2, h3⟩, h4, h5, h6, h7, h8, h9⟩ := h
  have e : ∀ (a : Int) (k : Nat), a.toNat < 76 → gI s1 a k = gI s a k := fun a k ha => hf.nu (by omega)
  have e0 : ∀ k, gI s1 0 k = gI s 0 k := fun k => e 0 k (by decide)
  have e1 : ∀ k, gI s1 1 k = gI s 1 k := fun k => e 1 k (by decide)
  have e19 : ∀ k, gI s1 19 k = gI s 19 k := fun k => e 19 k (by decide)
  have e32 : ∀ k, gI s1 32 k = gI s 32 k := fun k => e 32 k (by decide)
  have e51 : ∀ k, gI s1 51 k = gI s 51 k := fun k => e 51 k (by decide)
  have e4 : gI s1 4 0 = gI s 4 0 := e 4 0 (by decide)
  have e55 : ∀ k, gI s1 55 k = gI s 55 k := fun k => e 55 k (by decide)
  have e56 : ∀ k, gI s1 56 k = gI s 56 k := fun k => e 56 k (by decide)
  have e59 : ∀ k, gI s1 59 k = gI s 59 k := fun k => e 59 k (by decide)
  have e60 : ∀ k, gI s1 60 k = gI s 60 k := fun k => e 60 k (by decide)
  have e61 : ∀ k, gI s1 61 k = gI s 61 k := fun k => e 61 k (by decide)
  have e62 : ∀ k, gI s1 62 k = gI s 62 k := fun k => e 62 k (by decide)
  unfold CI CW LGc FTc at *
  simp only [e0, e1, e19, e32, e51, e4, e55, e56, e59, e60, e61, e62]
  refine ⟨⟨by rw [hf.sh]; exact h1, h2, fun T N q => (h3 T N q).fr hf (fun a a1 a2 z => by omega)⟩, h4, h5, h6, h7, h8, fun T N q => ⟨(h9 T N q).1, fun i hi => ((h9 T N q).2 i hi).eq (fun j j1 j2 k => e _ k (by omega))⟩⟩
theorem MI_.cfr (h : MI_ W L I tr fl fp tp s) (hf : Fr (fun a => a < 76) s s1) : MI_ W L I tr fl fp tp s1 := by
  obtain ⟨⟨h1, h2, h3⟩, h4, h5, h6⟩ := h
  have e : ∀ (a : Int) (k : Nat), 76 ≤ a.toNat → gI s1 a k = gI s a k := fun a k ha => hf.nu (by omega)
  have e76 : ∀ k, gI s1 76 k = gI s 76 k := fun k => e 76 k (by decide)
  have e77 : ∀ k, gI s1 77 k = gI s 77 k := fun k => e 77 k (by decide)
  have e78 : ∀ k, gI s1 78 k = gI s 78 k := fun k => e 78 k (by decide)
  have e80 : ∀ k, gI s1 80 k = gI s 80 k := fun k => e 80 k (by decide)
  have e81 : ∀ k, gI s1 81 k = gI s 81 k := fun k => e 81 k (by decide)
  unfold MI_ MWd LGm at *
  simp only [e76, e77, e78, e80, e81]
  refine ⟨⟨by rw [hf.sh]; exact h1, fun q => by rw [hf.refs]; exact h2 q, fun T N q => ?_⟩, h4, h5, h6⟩
  obtain ⟨t, t1, t2, t3⟩ := h3 T N q
  exact ⟨t, t1.fr hf (fun a ha z => by omega), t2, t3⟩
theorem CI.mread (h : CI W L I tr fl fp tp s) (hI : I.1 ≤ 3) (hv : Mv s s2) : CI W L I tr fl fp tp s2 := h.mfr hI (hv.1.mono (fun a ha => by unfold mS at ha; omega))
theorem Fr.crd (hf : Fr cS (pI s 0 2 w) s1) : Fr (fun a => a < 76) s s1 := (Fr_pI (L := fun a => a < 76) (by decide)).trans (hf.mono (fun a ha => by unfold cS at ha; omega))
theorem MI_.cread (h : MI_ W L I tr fl fp tp s) (hf : Fr cS (pI s 0 2 w) s1) : MI_ W L I tr fl fp tp s1 := h.cfr hf.crd
theorem CI.cread (h : CI W L I tr fl fp tp s) (hI : I.1 ≤ 3) (hf : Fr cS (pI s 0 2 w) s1) : CI W L I w fl fp tp s1 := by
  obtain ⟨h1, h4, h5, h6, h7, h8, h9⟩ := h
  have e : ∀ (a : Int) (k : Nat), ¬ cS a.toNat → a.toNat ≠ 0 → gI s1 a k = gI s a k := fun a k ha hb => (hf.nu ha).trans (by rw [gI_pI, if_neg (fun z => hb z.1)])
  have n0 : ¬ cS 0 := by unfold cS; omega
  have e0 : ∀ k, k ≠ 2 → gI s1 0 k = gI s 0 k := fun k hk => (hf.nu (a := 0) n0).trans (by rw [gI_pI, if_neg (fun z => hk z.2)])
  have e02 : gI s1 0 2 = w := (hf.nu (a := 0) n0).trans (by rw [gI_pI]; simp)
  have c : ∀ a : Nat, a = 1 ∨ (19 ≤ a ∧ a ≤ 38) ∨ a = 51 ∨ a = 55 ∨ a = 56 ∨ (59 ≤ a ∧ a ≤ 75) → ¬ cS a := fun a ha => by unfold cS; omega
  have e1 : ∀ k, gI s1 1 k = gI s 1 k := fun k => e 1 k (c 1 (by omega)) (by decide)
  have e19 : ∀ k, gI s1 19 k = gI s 19 k := fun k => e 19 k (c 19 (by omega)) (by decide)
  have e32 : ∀ k, gI s1 32 k = gI s 32 k := fun k => e 32 k (c 32 (by omega)) (by decide)
  have e51 : ∀ k, gI s1 51 k = gI s 51 k := fun k => e 51 k (c 51 (by omega)) (by decide)
  have e4 : gI s1 4 0 = gI s 4 0 := e 4 0 (by show ¬ cS 4; unfold cS; omega) (by decide)
  have e55 : ∀ k, gI s1 55 k = gI s 55 k := fun k => e 55 k (c 55 (by omega)) (by decide)
  have e56 : ∀ k, gI s1 56 k = gI s 56 k := fun k => e 56 k (c 56 (by omega)) (by decide)
  have e59 : ∀ k, gI s1 59 k = gI s 59 k := fun k => e 59 k (c 59 (by omega)) (by decide)
  have e60 : ∀ k, gI s1 60 k = gI s 60 k := fun k => e 60 k (c 60 (by omega)) (by decide)
  have e61 : ∀ k, gI s1 61 k = gI s 61 k := fun k => e 61 k (c 61 (by omega)) (by decide)
  have e62 : ∀ k, gI s1 62 k = gI s 62 k := fun k => e 62 k (c 62 (by omega)) (by decide)
  obtain ⟨d1, d2, d3⟩ := h1.tr 2 w
  refine ⟨⟨by rw [hf.sh]; exact d1, ?_, fun T N q => (d3 T N q).cs hf⟩, ⟨(e0 1 (by decide)).trans h4.1, e02, (e0 3 (by decide)).trans h4.2.2.1, (e0 4 (by decide)).trans h4.2.2.2.1, (e0 15 (by decide)).trans h4.2.2.2.2⟩, ?_, ?_, ?_, ?_, fun T N q => ⟨?_, fun i hi => ((h9 T N q).2 i hi).eq (fun j j1 j2 k => e _ k (c _ (by omega)) (by omega))⟩⟩
  · simp only [e19]; exact h1.2.1
  · simp only [e1]; exact h5
  · simp only [e51, e4]; exact h6
  · unfold LGc at h7 ⊢; simp only [e59, e60, e61, e62]; exact h7
  · simp only [e19, e32]; exact h8
  · have := (h9 T N q).1
    unfold FTc at this ⊢
    simp only [e55, e56]
    exact this
theorem MI_.mread (h : MI_ W L I tr fl fp tp s) (hv : Mv s s2) (h1 : gI s2 76 1 = w) (h2 : gI s2 76 2 = -1) (hw : w ≠ 4) : MI_ W L I w fl fp tp s2 := by
  obtain ⟨⟨m1, m2, m3⟩, m4, m5, m6⟩ := h
  obtain ⟨v1, v6, v12, v19, v20⟩ := hv
  have c : ∀ a : Nat, a = 77 ∨ a = 78 ∨ a = 80 ∨ a = 81 → ¬ mS a := fun a ha => by unfold mS; omega
  have e77 : ∀ k, gI s2 77 k = gI s 77 k := fun k => v1.nu (c 77 (by omega))
  have e78 : ∀ k, gI s2 78 k = gI s 78 k := fun k => v1.nu (c 78 (by omega))
  have e80 : ∀ k, gI s2 80 k = gI s 80 k := fun k => v1.nu (c 80 (by omega))
  have e81 : ∀ k, gI s2 81 k = gI s 81 k := fun k => v1.nu (c 81 (by omega))
  refine ⟨⟨by rw [v1.sh]; exact m1, fun q => by rw [v1.refs]; exact m2 q, fun T N q => ?_⟩, ⟨h1, by rw [h2, if_neg hw], v6.trans m4.2.2.1, v12.trans m4.2.2.2.1, v19.trans m4.2.2.2.2.1, v20.trans m4.2.2.2.2.2⟩, ?_, ?_⟩
  · obtain ⟨t, t1, t2, t3⟩ := m3 T N q
    refine ⟨t, t1.mv ⟨v1, v6, v12, v19, v20⟩, t2, ?_⟩
    simp only [e78]; exact t3
  · simp only [e77]; exact m5
  · unfold LGm at m6 ⊢
    simp only [v19, e80, e81]
    exact m6
end INV
/-- all that holds between two calls -/
def INV (s : St) : Prop := ∃ (W : Wd) (L : Lg) (I : Im) (tr fl fp : Int) (tp : Nat × (Nat → Int)), OKS W L I ∧ (tp.1 ≤ 800 ∧ ∀ j, ok8 (tp.2 j)) ∧ CI W L I tr fl fp tp s ∧ MI_ W L I tr fl fp tp s
/-- a call on both sides: alike answers, the invariant, few new cells -/
def STP (s : St) (F G : St → Rs) : Prop := ∃ r s1 s2, F s = some (r, s1) ∧ G s1 = some (r, s2) ∧ Sh s1 ∧ INV s2 ∧ s.1.1 ≤ s2.1.1 ∧ s2.1.1 ≤ s.1.1 + 20 ∧ s2.1.2 ≤ s.1.2 + 400
theorem step_read {W : Wd} {L : Lg} {I : Im} {tr fl fp : Int} {tp : Nat × (Nat → Int)} {s : St} {F G : St → Rs} (hO : OKS W L I) (ht : tp.1 ≤ 800 ∧ ∀ j, ok8 (tp.2 j)) (hC : CI W L I tr fl fp tp s) (hM : MI_ W L I tr fl fp tp s) (q : Int × Int) (hq : q.1 ≠ 4) (hF : CR s q.1 q.2 (F s)) (hG : ∀ s1, MWd W s1 → MR s1 q.1 q.2 (G s1)) : STP s F G := by
  obtain ⟨s1, f1, f2⟩ := hF
  have hM1 := hM.cread f2
  have hC1 := hC.cread hO.2.2.1 f2
  obtain ⟨s2, g1, g2, g3, g4⟩ := hG s1 hM1.1
  have e1 : s1.1 = s.1 := f2.1
  have e2 : s2.1 = s.1 := g2.1.1.trans e1
  refine ⟨q.2, s1, s2, f1, g1, hC1.1.1, ⟨W, L, I, q.1, fl, fp, tp, hO, ht, hC1.mread hO.2.2.1 g2, hM1.mread g2 g3 g4 hq⟩, ?_, ?_, ?_⟩ <;> rw [e2] <;> omega
theorem rd_ne {W : Wd} {c : Tw → Nat} {v : Tw → Nw → Int} (h : ∀ T, c T ≤ 2) : (rd W c v).1 ≠ 4 := by
  unfold rd
  rcases W with _ | ⟨T, N⟩
  · show (1 : Int) ≠ 4
    decide
  · show (if c T = 0 then ((0 : Int), v T N) else ((c T : Int), -1)).1 ≠ 4
    have := h T
    split
    · show (0 : Int) ≠ 4
      decide
    · show (c T : Int) ≠ 4
      omega
theorem g2_le (c1 c2 : Prop) [Decidable c1] [Decidable c2] : g2 c1 c2 ≤ 2 := by
  unfold g2
  split
  · split <;> omega
  · omega
