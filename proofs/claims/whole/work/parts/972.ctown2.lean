/-! town on the class -/
def L00 : Lg := (0, (fun _ => (0, 0, 0)), fun _ => (0, (fun _ => 0), (fun _ => 0), fun _ => 0))
def I00 : Im := (0, fun _ => (0, (fun _ => 0), (fun _ => 0), fun _ => 0))
def twN (s7 : St) : Rs := bnd (X9_copy s7 19 3) (fun r8 s9 => grd (isK s9 21 0) (grd (isK s9 21 0) (grd (isK s9 19 (gR s9 0 6)) (grd (isK s9 20 (gR s9 0 7)) (bnd (X10_settle s9 (gR s9 0 7) (gR s9 (gR s9 0 6) 6)) (fun r10 s11 => grd (isK s11 21 0) (grd (isK s11 21 0) (grd (isK s11 21 0) (grd (isK s11 11 (gR s11 0 11)) (bnd (X1_list s11 (gR s11 0 11) (gR s11 0 6) (gR s11 0 8)) (fun r12 s13 => grd (isK s13 21 0) (grd (isK s13 13 (gR s13 0 13)) (lets (pI s13 (gR s13 0 13) 0 0) (fun s14 => grd (isK s14 21 0) (lets (pI s14 0 15 0) (fun s15 => grd (isK s15 21 0) (grd (isK s15 19 (gR s15 0 6)) (some ((gI s15 (gR s15 0 6) 2), s15)))))))))))))))))))
section CTOWN2
variable {W : Wd} {L : Lg} {I : Im} {tr fl fp w v u : Int} {tp : Nat × (Nat → Int)} {s s1 : St} {n : Nat} {b : Nat → Int}
theorem rdl_ok : ∀ (m : Nat) (x : PQ × DR), DOK x.2 → (x.1.1 = 0 → x.1.2.2.1 ≤ n) → DOK (rdl n b m x).2
  | 0, x, h, _ => h
  | m + 1, x, h, hi => by
    show DOK (if x.1.1 ≠ 0 ∨ tkK n b x.1.2.2.1 = 0 then x else rdl n b m (lnAny n b x.2 (qS n b (decide (tkK n b x.1.2.2.1 = 3)) x.1))).2
    by_cases z : x.1.1 ≠ 0 ∨ tkK n b x.1.2.2.1 = 0
    · rw [if_pos z]; exact h
    · rw [if_neg z]
      have hg := g_lnAny (n := n) (b := b) (q := qS n b (decide (tkK n b x.1.2.2.1 = 3)) x.1) h (fun w => by
        obtain ⟨a1, a2, a3⟩ := qS_l w
        rw [a3]; exact (tkX_ok (hi a1)).2.1)
      exact rdl_ok m _ hg.1 (fun w => (hg.2 w).2.2)
theorem rdA_ok (l : Int) : DOK (rdA n b l).2 ∧ ((rdA n b l).1.1 = 0 → tP (dT (rdA n b l).2) ≠ 0) := by
  have hg := g_lnAny (n := n) (b := b) (q := (0, -1, 0, l)) DOK0 (fun _ => Nat.zero_le _)
  refine ⟨rdl_ok n _ hg.1 (fun w => (hg.2 w).2.2), fun z => ?_⟩
  exact of_decide_eq_false (qP_l (by decide) z).2.1
def fRd (a : Nat) : Prop := a = 0 ∨ (2 ≤ a ∧ a ≤ 18 ∧ a ≠ 4)
theorem CI.rd (h : CI W L I tr fl fp tp s) (hI : I.1 ≤ 3) (hf : Fr fRd (pR s 15 3 1) s1) (h1 : gI s1 0 1 = 0) (h2 : gI s1 0 2 = w) (h3 : gI s1 0 3 = u) (h4 : gI s1 0 4 = v) (h15 : gI s1 0 15 = gI s 0 15) : CI W L I w u v (0, tp.2) s1 := by
  obtain ⟨⟨a1, a2, a3⟩, a4, a5, a6, a7, a8, a9⟩ := h
  have hS1 : Sh s1 := by rw [hf.sh]; exact Sh_pR a1 1
  have e : ∀ (a : Int) (k : Nat), ¬ fRd a.toNat → gI s1 a k = gI s a k := fun a k ha => hf.nu ha
  have c : ∀ a : Nat, a = 1 ∨ a = 4 ∨ 19 ≤ a → ¬ fRd a := fun a ha z => by unfold fRd at z; omega
  have e4 : gI s1 4 0 = gI s 4 0 := e 4 0 (c 4 (by omega))
  have e19 : ∀ k, gI s1 19 k = gI s 19 k := fun k => e 19 k (c 19 (by omega))
  have e32 : ∀ k, gI s1 32 k = gI s 32 k := fun k => e 32 k (c 32 (by omega))
  have e51 : ∀ k, gI s1 51 k = gI s 51 k := fun k => e 51 k (c 51 (by omega))
  have e55 : ∀ k, gI s1 55 k = gI s 55 k := fun k => e 55 k (c 55 (by omega))
  have e56 : ∀ k, gI s1 56 k = gI s 56 k := fun k => e 56 k (c 56 (by omega))
  have e59 : ∀ k, gI s1 59 k = gI s 59 k := fun k => e 59 k (c 59 (by omega))
  have e60 : ∀ k, gI s1 60 k = gI s 60 k := fun k => e 60 k (c 60 (by omega))
  have e61 : ∀ k, gI s1 61 k = gI s 61 k := fun k => e 61 k (c 61 (by omega))
  have e62 : ∀ k, gI s1 62 k = gI s 62 k := fun k => e 62 k (c 62 (by omega))
  have sm : Sm s s1 19 75 := fun a x y => hf.2.2.2 a (c a (by omega))
  refine ⟨⟨hS1, ?_, fun T N q => ?_⟩, ⟨h1, h2, h3, h4, h15.trans a4.2.2.2.2⟩, fun j hj => absurd hj (Nat.not_lt_zero _), ?_, ?_, ?_, fun T N q => ⟨?_, fun i hi => ((a9 T N q).2 i hi).eq (fun j j1 j2 k => e _ k (c _ (by omega)))⟩⟩
  · simp only [e19]; exact a2
  · obtain ⟨w1, w2, w3, w4, w5, w6⟩ := a3 T N q
    refine ⟨hS1, w2, w3, w4.sm (fun a x y => sm a x (by omega)), w5.sm vc1 (fun a x y => sm a (Nat.le_trans (by decide) x) (Nat.le_trans y (by decide))), ?_⟩
    rw [e32]; exact w6
  · simp only [e51, e4]; exact a6
  · unfold LGc at a7 ⊢; simp only [e59, e60, e61, e62]; exact a7
  · simp only [e19, e32]; exact a8
  · have := (a9 T N q).1
    unfold FTc at this ⊢
    simp only [e55, e56]
    exact this
theorem c_townX (hC : CI W L I tr fl fp tp s) (hI : I.1 ≤ 3) (hn : n ≤ tp.1) (h8 : tp.1 ≤ 800) :
    ((rdA n tp.2 (gI s 2 6)).1.1 ≠ 0 → ∃ s1, X11_town s 0 n = some (-1, s1) ∧ Fr (fun a => a < 76) (pR s 15 3 1) s1 ∧ CI W L I 4 (rdA n tp.2 (gI s 2 6)).1.1 (rdA n tp.2 (gI s 2 6)).1.2.1 (0, tp.2) s1) ∧
    ((rdA n tp.2 (gI s 2 6)).1.1 = 0 → ∃ s1, X11_town s 0 n = some ((tP (dT (rdA n tp.2 (gI s 2 6)).2) : Int), s1) ∧ Fr (fun a => a < 76) (pR s 15 3 1) s1 ∧ CI (some (dT (rdA n tp.2 (gI s 2 6)).2, tN (dT (rdA n tp.2 (gI s 2 6)).2))) L00 I00 0 0 (-1) (0, tp.2) s1 ∧ TFK (dT (rdA n tp.2 (gI s 2 6)).2)) := by
  have hS := hC.1.1
  have t1 := hC.2.1.1
  have hb := hC.2.2.1
  have h40 := hC.2.2.2.1.2
  have h51 := hC.2.2.2.1.1
  obtain ⟨hO, hP⟩ := rdA_ok (n := n) (b := tp.2) (gI s 2 6)
  generalize hs3 : pI (pI s 0 2 0) 0 1 0 = s3
  have hS3 : Sh s3 := by rw [← hs3]; exact hS
  have e26 : gI s3 2 6 = gI s 2 6 := by rw [← hs3]; simp [gI_pI]
  obtain ⟨s5, e5, f5, c5, d5⟩ := c_read (s := s3) (n := n) (b := tp.2) hS3 (by omega) (fun j hj => by
    rw [← hs3]; simp [gI_pI]; exact hb j (by omega))
  rw [e26] at e5 c5 d5
  generalize hRd : rdA n tp.2 (gI s 2 6) = R at *
  have hS5 := c5.1
  have fA : Fr fRd (pR s 15 3 1) s5 := by
    have g0 : Fr fRd (pR s 15 3 1) (pR s3 15 3 1) := by
      rw [← hs3]
      exact (show Fr fRd (pR s 15 3 1) (pI (pI (pR s 15 3 1) 0 2 0) 0 1 0) from (Fr_pI (Or.inl rfl)).trans (Fr_pI (Or.inl rfl)))
    exact g0.trans (f5.mono (fun a ha => Or.inr ha))
  have e0 : ∀ k, gI s5 0 k = gI s3 0 k := fun k => f5.nu (a := 0) (fun z => by unfold cR at z; have := z.1; have e : (0 : Int).toNat = 0 := rfl; omega)
  have k01 : gI s5 0 1 = 0 := (e0 1).trans (by rw [← hs3]; simp [gI_pI])
  have k02 : gI s5 0 2 = 0 := (e0 2).trans (by rw [← hs3]; simp [gI_pI])
  have k015 : gI s5 0 15 = gI s 0 15 := (e0 15).trans (by rw [← hs3]; simp [gI_pI])
  have q1 := c5.2.1.1
  have q2 := c5.2.1.2
  generalize hs7 : pI (pI s5 0 3 R.1.1) 0 4 R.1.2.1 = s7
  have hS7 : Sh s7 := by rw [← hs7]; exact hS5
  have f7 : Fr fRd (pR s 15 3 1) s7 := by
    rw [← hs7]
    exact (fA.trans (Fr_pI (Or.inl rfl))).trans (Fr_pI (Or.inl rfl))
  have first : X11_town s 0 n = (if ¬ (if R.1.1 = 0 then (1 : Int) else 0) = 0 then twN s7 else some ((-1 : Int), pI s7 0 2 4)) := by
    have g0 : ¬ (n : Int) < 0 := by omega
    have g1 : (n : Int) ≤ gI s 0 1 := by rw [t1]; omega
    unfold X11_town X11_town_b19
    rw [if_neg g0, grd_t (show isK s 21 0 from ⟨by decide, kd_0 hS⟩), if_pos g1, grd_t (show isK s 21 0 from ⟨by decide, kd_0 hS⟩), c_ref hS, bnd_some]
    have hSa : Sh (pI s 0 2 0) := hS
    have r5 : gR s3 0 5 = 2 := gR_0_5 hS3
    have r0 : gR s3 0 0 = 1 := gR_0_0 hS3
    simp only [and_self, if_true]
    rw [grd_t (show isK (pI s 0 2 0) 21 0 from ⟨by decide, kd_0 hS⟩), lets_e, hs3, grd_t (show isK s3 21 0 from ⟨by decide, kd_0 hS3⟩), grd_t (show isK s3 21 0 from ⟨by decide, kd_0 hS3⟩), r5, r0, grd_t (show isK s3 14 2 from ⟨by decide, kd_2 hS3⟩), e5, bnd_some]
    have r55 : gR s5 0 5 = 2 := gR_0_5 hS5
    have hS6 : Sh (pI s5 0 3 R.1.1) := hS5
    have r65 : gR (pI s5 0 3 R.1.1) 0 5 = 2 := gR_0_5 hS6
    have e62 : gI (pI s5 0 3 R.1.1) 2 2 = R.1.2.1 := by simp [gI_pI, q2]
    rw [grd_t (show isK s5 21 0 from ⟨by decide, kd_0 hS5⟩), r55, grd_t (show isK s5 14 2 from ⟨by decide, kd_2 hS5⟩), grd_t (show isK s5 21 0 from ⟨by decide, kd_0 hS5⟩), q1, lets_e, grd_t (show isK (pI s5 0 3 R.1.1) 21 0 from ⟨by decide, kd_0 hS6⟩), r65, grd_t (show isK (pI s5 0 3 R.1.1) 14 2 from ⟨by decide, kd_2 hS6⟩), grd_t (show isK (pI s5 0 3 R.1.1) 21 0 from ⟨by decide, kd_0 hS6⟩), e62, lets_e, hs7]
    have r75 : gR s7 0 5 = 2 := gR_0_5 hS7
    have r76 : gR s7 0 6 = 19 := gR_0_6 hS7
    have r20 : gR s7 2 0 = 3 := gR_2_0 hS7
    rw [grd_t (show isK s7 21 0 from ⟨by decide, kd_0 hS7⟩), grd_t (show isK s7 21 0 from ⟨by decide, kd_0 hS7⟩), r75, grd_t (show isK s7 14 2 from ⟨by decide, kd_2 hS7⟩), r76, grd_t (show isK s7 19 19 from ⟨by decide, kd_19 hS7⟩), r20, grd_t (show isK s7 21 0 from ⟨by decide, kd_0 hS7⟩)]
    have rf : X11_refuse s7 0 4 = some (-1, pI s7 0 2 4) := by
      unfold X11_refuse
      simp [tF, isK, shF hS7]
    rw [rf, bnd_some]
    rfl
  constructor
  · intro z
    refine ⟨pI s7 0 2 4, ?_, (f7.trans (Fr_pI (Or.inl rfl))).mono (fun a ha => by unfold fRd at ha; omega), ?_⟩
    · rw [first, if_neg z, if_neg (fun w => w rfl)]
    · refine hC.rd hI (f7.trans (Fr_pI (Or.inl rfl))) ?_ ?_ ?_ ?_ ?_
      · rw [← hs7]; simp [gI_pI, k01]
      · simp [gI_pI]
      · rw [← hs7]; simp [gI_pI]
      · rw [← hs7]; simp [gI_pI]
      · rw [← hs7]; simp [gI_pI, k015]
  · intro z
    have hT := dok_tfk hO (hP z)
    have pm : R.1.2.1 = -1 := (c5.2.2 z).1
    have d7 : CDr s7 R.2 := by
      rw [← hs7]
      exact (d5.fr (L := fun a => a = 0) (Fr_pI rfl) (fun a h1 _ _ w => by omega)).fr (L := fun a => a = 0) (Fr_pI rfl) (fun a h1 _ _ w => by omega)
    have h407 : gI s7 4 0 = 0 := (f7.nu (a := 4) (fun w => by unfold fRd at w; have e : (4 : Int).toNat = 4 := rfl; omega)).trans h40
    obtain ⟨s9, e9, f9, c9, n9⟩ := c_copy hS7 d7 hO h407
    have hS9 : Sh s9 := by rw [f9.sh]; exact hS7
    have hR : SR s9 20 (dT R.2) (tN (dT R.2)) := ⟨n9.trans hT.2.2.symm, fun p hp => c9.2.2.2.2.1 p hp, fun d hd => c9.2.2.2.2.2 d hd⟩
    obtain ⟨s11, e11, f11, c11, n11⟩ := settle_e (y := 20) vc1 hS9 hT.1 hT.2.1 c9 (by simp [stC]) (by decide) hR
    have hS11 : Sh s11 := by rw [f11.sh]; exact hS9
    have f11' : Fr (fun a => 32 ≤ a ∧ a ≤ 38) s9 s11 := f11.mono (fun a ha => ha)
    have ct11 := c9.ft f11' (fun a h1 h2 w => by omega)
    have n2011 : gI s11 20 0 = 0 := (f11'.nu (a := 20) (fun w => by have e : (20 : Int).toNat = 20 := rfl; omega)).trans n9
    obtain ⟨s13, e13, f13, ft13⟩ := c_list hS11 hT ct11 n2011
    have hS13 : Sh s13 := by rw [f13.sh]; exact hS11
    have ct13 := ct11.ft f13 (fun a h1 h2 w => by unfold fL5 fT at w; omega)
    have sm13 : Sm s11 s13 32 38 := f13.sm (fun a h1 h2 w => by unfold fL5 fT at w; omega)
    have cv13 : CV s13 (dT R.2) (tN (dT R.2)) 33 34 35 36 37 38 := c11.sm vc1 sm13
    have n13 : gI s13 32 0 = nN (tN (dT R.2)) := (sm13.nu 0 (by decide) (by decide)).trans n11
    generalize hs15 : pI (pI s13 59 0 0) 0 15 0 = s15
    have hS15 : Sh s15 := by rw [← hs15]; exact hS13
    have f15 : Fr (fun a => a = 59 ∨ a = 0) s13 s15 := by
      rw [← hs15]; exact (Fr_pI (Or.inl rfl)).trans (Fr_pI (Or.inr rfl))
    have all : Fr (fun a => a = 0 ∨ a = 59 ∨ fTw a ∨ (32 ≤ a ∧ a ≤ 38) ∨ fL5 a) s7 s15 := (((f9.mono (fun a ha => Or.inr (Or.inr (Or.inl ha)))).trans (f11'.mono (fun a ha => Or.inr (Or.inr (Or.inr (Or.inl ha)))))).trans (f13.mono (fun a ha => Or.inr (Or.inr (Or.inr (Or.inr ha)))))).trans (f15.mono (fun a ha => ha.elim (fun h => Or.inr (Or.inl h)) Or.inl))
    have e0k : ∀ k, k ≠ 15 → gI s15 0 k = gI s7 0 k := fun k hk => by
      have a1 : gI s15 0 k = gI s13 0 k := by rw [← hs15]; simp [gI_pI, hk]
      have a2 : gI s13 0 k = gI s11 0 k := f13.nu (a := 0) (fun w => by unfold fL5 fT at w; have e : (0 : Int).toNat = 0 := rfl; omega)
      have a3 : gI s11 0 k = gI s9 0 k := f11'.nu (a := 0) (fun w => by have e : (0 : Int).toNat = 0 := rfl; omega)
      have a4 : gI s9 0 k = gI s7 0 k := f9.nu (a := 0) (fun w => by unfold fTw at w; have e : (0 : Int).toNat = 0 := rfl; omega)
      exact a1.trans (a2.trans (a3.trans a4))
    have ct15 := ct13.ft f15 (fun a h1 h2 w => by omega)
    have cv15 : CV s15 (dT R.2) (tN (dT R.2)) 33 34 35 36 37 38 := cv13.sm vc1 (f15.sm (fun a h1 h2 w => by have e : (32 : Int).toNat = 32 := rfl; have e2 : (38 : Int).toNat = 38 := rfl; omega))
    have n15 : gI s15 32 0 = nN (tN (dT R.2)) := (f15.nu (a := 32) (by decide)).trans n13
    have n10 : ¬ (1 : Int) = 0 := by decide
    refine ⟨s15, ?_, (f7.mono (fun a ha => by unfold fRd at ha; omega)).trans (all.mono (fun a ha => by unfold fTw fL5 fT at ha; omega)), ?_, hT⟩
    · rw [first, if_pos z, if_pos n10]
      have p15 : gI s15 19 2 = (tP (dT R.2) : Int) := ct15.1.2.2.1
      unfold twN
      rw [e9, bnd_some]
      simp only [shF hS9, e11, bnd_some, shF hS11, e13, shF hS13, lets_e]
      rw [hs15]
      simp only [isK, shF hS9, shF hS11, shF hS13, p15, grd_if, gR_pI, kd_pI, shF hS15]
      simp
    · refine ⟨⟨hS15, ⟨ct15.1.1, ct15.1.2.2.1, ct15.1.2.2.2.1⟩, fun T N q => ?_⟩, ⟨?_, ?_, ?_, ?_, ?_⟩, fun j hj => absurd hj (Nat.not_lt_zero _), ⟨fun x hx => ?_, ?_⟩, ⟨?_, fun j hj => absurd hj (Nat.not_lt_zero _)⟩, (fun q => by cases q), fun T N q => ⟨?_, fun i hi => absurd hi (Nat.not_lt_zero _)⟩⟩
      · cases q
        exact ⟨hS15, hT.1, hT.2.1, ct15, cv15, n15⟩
      · rw [e0k 1 (by decide), ← hs7]; simp [gI_pI, k01]
      · rw [e0k 2 (by decide), ← hs7]; simp [gI_pI, k02]
      · rw [e0k 3 (by decide), ← hs7]; simp [gI_pI, z]
      · rw [e0k 4 (by decide), ← hs7]; simp [gI_pI, pm]
      · rw [← hs15]; simp [gI_pI]; rfl
      · exact (all.nu (a := 51) (fun w => by unfold fTw fL5 fT at w; have e : (51 : Int).toNat = 51 := rfl; omega)).trans ((f7.nu (a := 51) (fun w => by unfold fRd at w; have e : (51 : Int).toNat = 51 := rfl; omega)).trans (h51 x hx))
      · exact (all.nu (a := 4) (fun w => by unfold fTw fL5 fT at w; have e : (4 : Int).toNat = 4 := rfl; omega)).trans h407
      · rw [← hs15]; simp [gI_pI]; rfl
      · cases q
        unfold FTc at ft13 ⊢
        have e55 : ∀ k, gI s15 55 k = gI s13 55 k := fun k => f15.nu (a := 55) (by decide)
        have e56 : ∀ k, gI s15 56 k = gI s13 56 k := fun k => f15.nu (a := 56) (by decide)
        simp only [e55, e56]
        exact ft13
end CTOWN2
