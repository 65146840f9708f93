/-! led -/
def asB (T : Tw) (N : Nw) (d : Nat) : Bool := !rigT T N d (nN N)
def ledP (T : Tw) (N : Nw) (i : Int) (d : Nat) : Bool := asB T N d && decide (((cnt (asB T N) d : Nat) : Int) = i)
section LED
variable {s : St} {T : Tw} {N : Nw} {t i : Int}
theorem c_led (hW : WC T N s) (hs : s.1.1 < 1000000) : X11_led s 0 i = (match fnd (ledP T N i) (tD T) with | some d => some ((d : Int), s) | none => some (-5, thr s)) := by
  have hS := hW.1
  have t6 := hW.2.1.1.2.2.2.2.2.1
  have c3 := hW.2.2.2.1.1.2.2.2.1
  have n32 := hW.2.2.2.2.2
  unfold X11_led X11_led_b4
  refine iter_fnd (fun k : Nat => (s, (0 : Int), i, ((cnt (asB T N) k : Nat) : Int), (k : Int))) (tD T) (ledP T N i) (fun k => some ((k : Int), s)) (some (-5, thr s)) FU (by unfold FU; omega) (fun k hk rec => ?_) (fun rec => ?_)
  · have e := w_right hW hk hW.2.2.1.1
    have hg : ¬ tD T ≤ k := by omega
    have g5 : ¬ (k : Int) = -5 := by omega
    have cl := cnt_le (asB T N) k
    have hk6 : k ≤ 6000 := by omega
    have hc6 : cnt (asB T N) k ≤ 6000 := by omega
    have hw := wk1 hk6
    have hw1 := wk1 hc6
    by_cases y : rigT T N k (nN N) = true
    · have ya : asB T N k = false := by unfold asB; rw [y]; rfl
      have hb := cnt_s0 (P := asB T N) (d := k) (by rw [ya]; decide)
      simp [X11_led_b4_body, X11_led_b46, tF, isK, shF hS, c3, n32, hg, e, y, ledP, ya, hb, hw]
    · have ya : asB T N k = true := by unfold asB; simp [y]
      have hb := cnt_s1 (P := asB T N) (d := k) ya
      by_cases z : ((cnt (asB T N) k : Nat) : Int) = i
      · simp [X11_led_b4_body, X11_led_b46, tF, isK, shF hS, c3, n32, hg, e, y, ledP, ya, z, g5]
      · simp [X11_led_b4_body, X11_led_b46, tF, isK, shF hS, c3, n32, hg, e, y, ledP, ya, z, hb, hw, hw1]
  · simp [X11_led_b4_body, tF, isK, shF hS, c3, hs]
theorem n_led (hS : Sh s) (h3 : gI s 19 3 = 0) (hs : s.1.1 < 1000000) : X11_led s 0 i = some (-5, thr s) := by
  unfold X11_led X11_led_b4
  refine iter_run 0 FU (fun k : Nat => (s, (0 : Int), i, (0 : Int), (0 : Int))) (by unfold FU; omega) (fun k hk rec => by omega) (fun rec => ?_)
  simp [X11_led_b4_body, tF, isK, shF hS, h3, hs]
theorem m_led (hW : WM T N t s) (hx : RXf (fun j => gI s 78 j) T N) : X13_led_b18 s 76 i 0 = (match fnd (ledP T N i) (tD T) with | some d => some ((d : Int), s) | none => some (0, pI s 76 0 1)) := by
  have hS := hW.1.1
  have hF := mF hW.1
  have t6 := hW.1.2.1.1.2.2.2.2.2.1
  have x18 : gI s 78 18 = nN N := hx.2.2
  unfold X13_led_b18 X13_led_b20
  refine iter_fnd (fun k : Nat => (s, (76 : Int), i, ((cnt (asB T N) k : Nat) : Int), (k : Int))) (tD T) (ledP T N i) (fun k => some ((k : Int), s)) (some (0, pI s 76 0 1)) FU (by clear hF; unfold FU; omega) (fun k hk rec => ?_) (fun rec => ?_)
  · have e := m_right hW hk hW.2.1.1
    have hg : ¬ tD T ≤ k := by clear hF; omega
    have cl := cnt_le (asB T N) k
    have hk6 : k ≤ 6000 := by clear hF; omega
    have hc6 : cnt (asB T N) k ≤ 6000 := by clear hF; omega
    have hw := wk1 hk6
    have hw1 := wk1 hc6
    by_cases y : rigT T N k (nN N) = true
    · have ya : asB T N k = false := by unfold asB; rw [y]; rfl
      have hb := cnt_s0 (P := asB T N) (d := k) (by rw [ya]; decide)
      simp [X13_led_b20_body, X13_led_b66, tF, isK, shF hS, hF, x18, hg, e, y, ledP, ya, hb, hw]
    · have ya : asB T N k = true := by unfold asB; simp [y]
      have hb := cnt_s1 (P := asB T N) (d := k) ya
      by_cases z : ((cnt (asB T N) k : Nat) : Int) = i
      · simp [X13_led_b20_body, X13_led_b66, tF, isK, shF hS, hF, x18, hg, e, y, ledP, ya, z]
      · simp [X13_led_b20_body, X13_led_b66, tF, isK, shF hS, hF, x18, hg, e, y, ledP, ya, z, hb, hw, hw1]
  · simp [X13_led_b20_body, X13_led_b72, tF, isK, shF hS, hF]
theorem mn_led (hS : Sh s) (h : gR s 76 3 < 0) : X13_led_b18 s 76 i 0 = some (0, pI s 76 0 1) := by
  unfold X13_led_b18 X13_led_b20
  refine iter_run 0 FU (fun k : Nat => (s, (76 : Int), i, (0 : Int), (0 : Int))) (by unfold FU; omega) (fun k hk rec => by omega) (fun rec => ?_)
  simp [X13_led_b20_body, X13_led_b72, tF, isK, shF hS, h]
end LED
section LEDL
variable {W : Wd} {L : Lg} {I : Im} {tr fl fp : Int} {tp : Nat × (Nat → Int)} {s s1 : St}
theorem CI.thr (h : CI W L I tr fl fp tp s) : CI W L I tr fl fp tp (thr s) := h
theorem MT.thr {t : Int} (h : MT s t) : MT (thr s) t := by
  obtain ⟨a1, a2, a3, a4, a5, a6, a7⟩ := h
  refine ⟨a1, a2, a3, a4, a5, a6, ?_⟩
  show t + 14 ≤ ((s.1.1 + 1 : Nat) : Int)
  omega
theorem MI_.thr (h : MI_ W L I tr fl fp tp s) : MI_ W L I tr fl fp tp (thr s) := by
  obtain ⟨⟨m1, m2, m3⟩, m4⟩ := h
  refine ⟨⟨m1, m2, fun T N q => ?_⟩, m4⟩
  obtain ⟨t, t1, t2, t3⟩ := m3 T N q
  exact ⟨t, ⟨t1.1, t1.2.1, t1.2.2.1.thr, t1.2.2.2⟩, t2, t3⟩
theorem MI_.o88 (h : MI_ W L I tr fl fp tp s) (hf : Fr (fun a => a = 88) s s1) : MI_ W L I tr fl fp tp s1 := by
  obtain ⟨⟨m1, m2, m3⟩, m4, m5, m6⟩ := h
  have e : ∀ (a : Int) (k : Nat), a.toNat ≠ 88 → gI s1 a k = gI s a k := fun a k ha => hf.nu ha
  have e76 : ∀ k, gI s1 76 k = gI s 76 k := fun k => e 76 k (by decide)
  have e77 : ∀ k, gI s1 77 k = gI s 77 k := fun k => e 77 k (by decide)
  have e78 : ∀ k, gI s1 78 k = gI s 78 k := fun k => e 78 k (by decide)
  have e80 : ∀ k, gI s1 80 k = gI s 80 k := fun k => e 80 k (by decide)
  have e81 : ∀ k, gI s1 81 k = gI s 81 k := fun k => e 81 k (by decide)
  unfold MI_ MWd LGm at *
  simp only [e76, e77, e78, e80, e81]
  refine ⟨⟨by rw [hf.sh]; exact m1, fun q => by rw [hf.refs]; exact m2 q, fun T N q => ?_⟩, m4, m5, m6⟩
  obtain ⟨t, t1, t2, t3⟩ := m3 T N q
  exact ⟨t, t1.fr hf (fun a ha z => by omega), t2, t3⟩
/-- reading with trouble as it was: thrown alone is written, and x -/
theorem MI_.x79 (h : MI_ W L I tr fl fp tp s) (hv : Fr (fun a => a = 79) s s1) : MI_ W L I tr fl fp tp s1 := by
  obtain ⟨⟨m1, m2, m3⟩, m4, m5, m6⟩ := h
  have e : ∀ (a : Int) (k : Nat), a.toNat ≠ 79 → gI s1 a k = gI s a k := fun a k ha => hv.nu ha
  have e76 : ∀ k, gI s1 76 k = gI s 76 k := fun k => e 76 k (by decide)
  have e77 : ∀ k, gI s1 77 k = gI s 77 k := fun k => e 77 k (by decide)
  have e78 : ∀ k, gI s1 78 k = gI s 78 k := fun k => e 78 k (by decide)
  have e80 : ∀ k, gI s1 80 k = gI s 80 k := fun k => e 80 k (by decide)
  have e81 : ∀ k, gI s1 81 k = gI s 81 k := fun k => e 81 k (by decide)
  unfold MI_ MWd LGm at *
  simp only [e76, e77, e78, e80, e81]
  refine ⟨⟨by rw [hv.sh]; exact m1, fun q => by rw [hv.refs]; exact m2 q, fun T N q => ?_⟩, m4, m5, m6⟩
  obtain ⟨t, t1, t2, t3⟩ := m3 T N q
  exact ⟨t, t1.fr hv (fun a ha z => by omega), t2, t3⟩
/-- led, as the law asks it: thrown or not alike, the same dead, the invariant -/
theorem s_led (i : Int) (h : INV s) (hs : s.1.1 < 900000) : ∃ k r s1 s2, L_led s 0 i 88 = some (k, s1) ∧ X13_led s1 76 i = some (r, s2) ∧ Sh s1 ∧ Sh s2 ∧ gI s2 76 0 = k ∧ (k = 0 ∨ k = 1) ∧ (k = 0 → gI s2 88 0 = r) ∧ INV s2 ∧ s.1.1 ≤ s2.1.1 ∧ s2.1.1 ≤ s.1.1 + 20 ∧ s2.1.2 ≤ s.1.2 + 400 := by
  obtain ⟨W, L, I, tr, fl, fp, tp, hO, ht, hC, hM⟩ := h
  have hS := hC.1.1
  obtain ⟨-, ⟨c0, c2, c3⟩, hW⟩ := hC.1
  have thrown : X11_led s 0 i = some (-5, thr s) → (∀ s1, MI_ W L I tr fl fp tp s1 → ∃ s2, X13_led s1 76 i = some (0, pI s2 76 0 1) ∧ Fr (fun a => a = 76 ∨ a = 79) s1 s2 ∧ MI_ W L I tr fl fp tp s2) → ∃ k r s1 s2, L_led s 0 i 88 = some (k, s1) ∧ X13_led s1 76 i = some (r, s2) ∧ Sh s1 ∧ Sh s2 ∧ gI s2 76 0 = k ∧ (k = 0 ∨ k = 1) ∧ (k = 0 → gI s2 88 0 = r) ∧ INV s2 ∧ s.1.1 ≤ s2.1.1 ∧ s2.1.1 ≤ s.1.1 + 20 ∧ s2.1.2 ≤ s.1.2 + 400 := by
    intro e1 e2
    obtain ⟨s2, f1, f2, f3⟩ := e2 (thr s) hM.thr
    have hS2 : Sh s2 := by rw [f2.sh]; exact hS
    refine ⟨1, 0, thr s, pI s2 76 0 1, ?_, f1, hS, hS2, (by rw [gI_pI]; simp), Or.inr rfl, (fun q => absurd q (by decide)), ⟨W, L, I, tr, fl, fp, tp, hO, ht, ?_, f3.f0 (Or.inl rfl)⟩, ?_, ?_, ?_⟩
    · unfold L_led
      simp [tF, isK, shF hS, e1]
    · exact (hC.thr.mfr hO.2.2.1 (f2.mono (fun a ha => by omega))).mfr hO.2.2.1 (Fr_pI (by decide))
    · show s.1.1 ≤ s2.1.1; rw [f2.1]; show s.1.1 ≤ s.1.1 + 1; omega
    · show s2.1.1 ≤ _; rw [f2.1]; show s.1.1 + 1 ≤ _; omega
    · show s2.1.2 ≤ _; rw [f2.1]; show s.1.2 + 6 ≤ _; omega
  rcases W with _ | ⟨T, N⟩
  · refine thrown (n_led hS c3 (by omega)) (fun s1 h1 => ?_)
    have hno : gR (pI s1 76 0 0) 76 3 < 0 := h1.1.2.1 rfl
    have hS1 := h1.1.1
    have hS2 : Sh (pI s1 76 0 0) := hS1
    refine ⟨pI s1 76 0 0, ?_, Fr_pI (by simp), h1.f0 (Or.inl rfl)⟩
    unfold X13_led
    have hno' : gR s1 76 3 < 0 := hno
    simp [tF, isK, shF hS1, hno', mn_led hS2 hno]
  · have hW0 := hW T N rfl
    have cl := c_led (i := i) hW0 (by omega)
    have ml : ∀ s1, MI_ (some (T, N)) L I tr fl fp tp s1 → X13_led s1 76 i = (match fnd (ledP T N i) (tD T) with | some d => some ((d : Int), wk (pI s1 76 0 0)) | none => some (0, pI (wk (pI s1 76 0 0)) 76 0 1)) := by
      intro s1 h1
      obtain ⟨m1, m2, m3⟩ := h1.1
      obtain ⟨t, t1, t2, t3⟩ := m3 T N rfl
      have hF := mF t1
      have hX := wk_world t1 t2 t3 0 0
      have hS1 : Sh (pI s1 76 0 0) := m1
      have e := m_led (i := i) hX t3
      rw [← e]
      unfold X13_led
      simp [tF, isK, shF m1, hF.1, m_works hS1]
    have fw : ∀ s1 : St, Fr (fun a => a = 76 ∨ a = 79) s1 (wk (pI s1 76 0 0)) := fun s1 => (Fr_pI (by simp)).trans (Fr_sR (by simp))
    have mw : ∀ s1, MI_ (some (T, N)) L I tr fl fp tp s1 → MI_ (some (T, N)) L I tr fl fp tp (wk (pI s1 76 0 0)) := fun s1 h1 => (h1.f0 (k := 0) (x := 0) (Or.inl rfl)).x79 (Fr_sR rfl)
    cases hf : fnd (ledP T N i) (tD T) with
    | none =>
      rw [hf] at cl
      refine thrown cl (fun s1 h1 => ⟨wk (pI s1 76 0 0), ?_, fw s1, mw s1 h1⟩)
      rw [ml s1 h1, hf]
    | some d =>
      rw [hf] at cl
      have g5 : ¬ (d : Int) = -5 := by omega
      have hM8 : MI_ (some (T, N)) L I tr fl fp tp (pI s 88 0 (d : Int)) := hM.o88 (Fr_pI rfl)
      have hC8 : CI (some (T, N)) L I tr fl fp tp (pI s 88 0 (d : Int)) := hC.mfr hO.2.2.1 (Fr_pI (by decide))
      refine ⟨0, (d : Int), pI s 88 0 (d : Int), wk (pI (pI s 88 0 (d : Int)) 76 0 0), ?_, ?_, hS, hS, ?_, Or.inl rfl, fun _ => ?_, ⟨some (T, N), L, I, tr, fl, fp, tp, hO, ht, hC8.mfr hO.2.2.1 ((fw _).mono (fun a ha => by omega)), mw _ hM8⟩, ?_, ?_, ?_⟩
      · unfold L_led
        simp [tF, isK, shF hS, cl, g5]
      · rw [ml _ hM8, hf]
      · unfold wk; rw [gI_sR, if_neg (by decide), gI_pI]; simp
      · unfold wk; rw [gI_sR, if_neg (by decide), gI_pI, if_neg (by simp), gI_pI]; simp
      · show s.1.1 ≤ s.1.1; omega
      · show s.1.1 ≤ s.1.1 + 20; omega
      · show s.1.2 ≤ s.1.2 + 400; omega
end LEDL
