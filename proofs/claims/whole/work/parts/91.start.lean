/-! the start -/
def X11_initR (s : St) (a0 : Int) : Rs :=
  grd (isK s 21 a0) (grd (s.1.1 < 1000000 ∧ 0 ≤ (800 : Int) ∧ (800 : Int) ≤ 100000) (lets (nw s 2 (800 : Int).toNat) (fun s1 => grd (isK s1 21 a0) (lets (pR s1 a0 0 (s.1.1 : Int)) (fun s2 => grd (isK s2 21 a0) (lets (pI s2 a0 4 (-1)) (fun s3 => grd (s3.1.1 < 1000000) (lets (nw s3 14 7) (fun s4 => grd (isK s4 14 (s3.1.1 : Int)) (bnd (X4_init s4 (s3.1.1 : Int)) (fun r5 s6 => grd (isK s6 21 a0) (lets (pR s6 a0 5 (s3.1.1 : Int)) (fun s7 => grd (s7.1.1 < 1000000) (lets (nw s7 19 14) (fun s8 => grd (isK s8 19 (s7.1.1 : Int)) (bnd (X9_init s8 (s7.1.1 : Int)) (fun r9 s10 => grd (isK s10 21 a0) (lets (pR s10 a0 6 (s7.1.1 : Int)) (fun s11 => grd (s11.1.1 < 1000000) (lets (nw s11 20 3) (fun s12 => grd (isK s12 21 a0) (grd (isK s12 20 (s11.1.1 : Int)) (bnd (X10_init s12 (s11.1.1 : Int) (gR s12 a0 6)) (fun r13 s14 => grd (isK s14 21 a0) (lets (pR s14 a0 7 (s11.1.1 : Int)) (fun s15 => grd (s15.1.1 < 1000000) (lets (nw s15 20 3) (fun s16 => grd (isK s16 21 a0) (grd (isK s16 20 (s15.1.1 : Int)) (bnd (X10_init s16 (s15.1.1 : Int) (gR s16 a0 6)) (fun r17 s18 => grd (isK s18 21 a0) (lets (pR s18 a0 8 (s15.1.1 : Int)) (fun s19 => grd (s19.1.1 < 1000000) (lets (nw s19 15 3) (fun s20 => grd (isK s20 15 (s19.1.1 : Int)) (bnd (X5_init s20 (s19.1.1 : Int)) (fun r21 s22 => grd (isK s22 21 a0) (lets (pR s22 a0 9 (s19.1.1 : Int)) (fun s23 => grd (s23.1.1 < 1000000) (lets (nw s23 10 5) (fun s24 => grd (isK s24 10 (s23.1.1 : Int)) (bnd (X0R s24 (s23.1.1 : Int)) (fun r25 s26 => grd (isK s26 21 a0) (lets (pR s26 a0 10 (s23.1.1 : Int)) (fun s27 => grd (s27.1.1 < 1000000) (lets (nw s27 11 3) (fun s28 => grd (isK s28 11 (s27.1.1 : Int)) (bnd (X1_init s28 (s27.1.1 : Int)) (fun r29 s30 => grd (isK s30 21 a0) (lets (pR s30 a0 11 (s27.1.1 : Int)) (fun s31 => grd (s31.1.1 < 1000000) (lets (nw s31 12 2) (fun s32 => grd (isK s32 12 (s31.1.1 : Int)) (bnd (X2_init s32 (s31.1.1 : Int)) (fun r33 s34 => grd (isK s34 21 a0) (lets (pR s34 a0 12 (s31.1.1 : Int)) (fun s35 => grd (s35.1.1 < 1000000) (lets (nw s35 13 4) (fun s36 => grd (isK s36 13 (s35.1.1 : Int)) (bnd (X3_init s36 (s35.1.1 : Int)) (fun r37 s38 => grd (isK s38 21 a0) (lets (pR s38 a0 13 (s35.1.1 : Int)) (fun s39 => grd (s39.1.1 < 1000000 ∧ 0 ≤ (3 : Int) ∧ (3 : Int) ≤ 100000) (lets (nw s39 4 (3 : Int).toNat) (fun s40 => grd (isK s40 21 a0) (lets (pR s40 a0 14 (s39.1.1 : Int)) (fun s41 => X11_init_b135 FU s41 a0 0)))))))))))))))))))))))))))))))))))))))))))))))))))))))))))))))))))
theorem initR (s : St) (a0 : Int) : X11_init s a0 = X11_initR s a0 := by
  unfold X11_init X11_initR
  simp only [X0_eq]
/-! the start, the law's loop -/
def snd0 (F : Rs) : St := match F with | some q => q.2 | none => st0
def stA : Rs := X11_initR (nw st0 21 16) 0
def stB : St := snd0 stA
def stC_ : Rs := X13_init (nw stB 23 33) 76
def stD : St := snd0 stC_
def stS : St := nw stD 3 1
theorem rs_of {F : Rs} {r : Int} (h : F.map (fun q => q.1) = some r) : F = some (r, snd0 F) := by
  rcases F with _ | ⟨a, b⟩
  · cases h
  · simp at h
    subst h
    rfl
theorem stA_r : stA.map (fun q => q.1) = some 0 := by decide +kernel
theorem stA_e : X11_init (nw st0 21 16) 0 = some (0, stB) := (initR _ _).trans (rs_of stA_r)
theorem stB_n : stB.1.1 = 76 := by decide +kernel
theorem stC_r : stC_.map (fun q => q.1) = some 0 := by decide +kernel
theorem stC_e : X13_init (nw stB 23 33) 76 = some (0, stD) := rs_of stC_r
theorem stD_n : stD.1.1 = 88 := by decide +kernel
theorem stS_n : stS.1.1 = 89 ∧ stS.1.2 ≤ 100000 := by decide +kernel
theorem st_k : kd (nw st0 21 16) 0 = 21 ∧ kd (nw stB 23 33) 76 = 23 := by decide +kernel
theorem start_e (sc : Nat × (Nat → Int)) : L_law sc st0 = L_law_b23 sc FU stS 0 76 88 0 := by
  have z0 : st0.1.1 = 0 := rfl
  unfold L_law
  rw [z0]
  simp [tF, isK, st_k, stA_e, stB_n, stC_e, stD_n]
  rfl
theorem stS_sh : Sh stS := by
  refine ⟨?_, ?_⟩
  · have : ∀ a, a < 89 → stS.2.1 a = shT.getD a (0, 0) := by decide +kernel
    exact this
  · have : ∀ q ∈ rfT, stS.2.2.1 q.1 q.2.1 = q.2.2 := by decide +kernel
    exact this
theorem stS_c : (gI stS 19 0 = 0 ∧ gI stS 19 1 = 0 ∧ gI stS 19 2 = 0 ∧ gI stS 19 3 = 0 ∧ gI stS 19 4 = 0 ∧ gI stS 19 5 = 0) ∧ (gI stS 0 1 = 0 ∧ gI stS 0 2 = 0 ∧ gI stS 0 3 = 0 ∧ gI stS 0 4 = -1 ∧ gI stS 0 15 = 0) ∧ gI stS 32 0 = 0 ∧ gI stS 59 0 = 0 := by decide +kernel
theorem stS_m : (gI stS 76 1 = 0 ∧ gI stS 76 2 = -1 ∧ gI stS 76 6 = 0 ∧ gI stS 76 12 = 0 ∧ gI stS 76 19 = 0 ∧ gI stS 76 20 = 0) ∧ gR stS 76 3 < 0 := by decide +kernel
theorem stS_t : ∀ x : Nat, x < 64 → gI stS 51 x = (th3 x : Int) := by decide +kernel
theorem stS_4 : gI stS 4 0 = 0 := by decide +kernel
theorem stS_inv : INV stS := by
  obtain ⟨⟨a0, a1, a2, a3, a4, a5⟩, ⟨b1, b2, b3, b4, b15⟩, c1, c2⟩ := stS_c
  obtain ⟨⟨m1, m2, m6, m12, m19, m20⟩, m3⟩ := stS_m
  refine ⟨none, (0, (fun _ => (0, 0, 0)), fun _ => (0, (fun _ => 0), (fun _ => 0), fun _ => 0)), (0, fun _ => (0, (fun _ => 0), (fun _ => 0), fun _ => 0)), 0, 0, -1, (0, fun _ => 0), ⟨fun _ => ⟨rfl, rfl⟩, by decide, by decide, (fun T N q => by cases q)⟩, ⟨by decide, fun j => by show ok8 0; unfold ok8; omega⟩, ?_, ?_⟩
  · exact ⟨⟨stS_sh, ⟨a0, a2, a3⟩, (fun T N q => by cases q)⟩, ⟨b1, b2, b3, b4, b15⟩, fun j hj => absurd hj (Nat.not_lt_zero _), ⟨stS_t, stS_4⟩, ⟨c2, fun j hj => absurd hj (Nat.not_lt_zero _)⟩, fun _ => ⟨a1, a4, a5, c1⟩, (fun T N q => by cases q)⟩
  · exact ⟨⟨stS_sh, fun _ => m3, (fun T N q => by cases q)⟩, ⟨m1, m2, m6, m12, m19, m20⟩, fun j hj => absurd hj (Nat.not_lt_zero _), (fun T N q => by cases q)⟩
