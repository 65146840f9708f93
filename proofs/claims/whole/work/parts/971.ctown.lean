/-! a draft becomes the class's town -/
section CTOWN
variable {s s1 : St} {D : DR}
theorem c_row {a b : Int} {n : Nat} (ha : isK s 1 a) (hb : isK s 1 b) (la : ln s a = (n : Int)) (lb : ln s b = (n : Int)) : ∃ s1, X11_copyRow s a b = some (0, s1) ∧ Fr (fun x => x = b.toNat) s s1 ∧ ∀ j, j < n → gI s1 b j = gI s a j := by
  refine ⟨cpy s a 0 b 0 (n : Int), ?_, Fr_cpy rfl, fun j hj => ?_⟩
  · unfold X11_copyRow
    rw [grd_t ha, grd_t hb, la, lb, min_e, if_neg (by omega), bnd_some, grd_t ⟨ha, hb, by omega, by omega, by omega, by rw [la]; omega, by rw [lb]; omega⟩, lets_e]
  · show (if b.toNat = b.toNat ∧ (0 : Int).toNat ≤ j ∧ j < (0 : Int).toNat + (n : Int).toNat then s.2.2.2 a.toNat ((0 : Int).toNat + (j - (0 : Int).toNat)) else s.2.2.2 b.toNat j) = s.2.2.2 a.toNat j
    have e0 : (0 : Int).toNat = 0 := rfl
    have en : (n : Int).toNat = n := Int.toNat_natCast n
    rw [e0, en, if_pos ⟨rfl, Nat.zero_le _, by omega⟩]
    simp
def fTw (a : Nat) : Prop := 19 ≤ a ∧ a ≤ 30
theorem f19 (s : St) (k : Nat) (x : Int) : Fr (fun x => x = 19) s (pI s 19 k x) := Fr_pI rfl
theorem c_copy (hS : Sh s) (hD : CDr s D) (hO : DOK D) (h40 : gI s 4 0 = 0) : ∃ s1, X9_copy s 19 3 = some (0, s1) ∧ Fr fTw s s1 ∧ CT s1 (dT D) ∧ gI s1 20 0 = 0 := by
  obtain ⟨⟨a0, a1, a2, a3, a4, a5⟩, b1, b2, b3, b4⟩ := hD
  have o := hO.1.2.2
  generalize hs6 : pI (pI (pI (pI (pI (pI s 19 0 (gI s 3 0)) 19 1 (gI s 3 1)) 19 2 (gI s 3 2)) 19 3 (gI s 3 3)) 19 4 (gI s 3 4)) 19 5 (gI s 3 5) = s6
  have f6 : Fr (fun x => x = 19) s s6 := by
    rw [← hs6]
    exact (((((f19 _ _ _).trans (f19 _ _ _)).trans (f19 _ _ _)).trans (f19 _ _ _)).trans (f19 _ _ _)).trans (f19 _ _ _)
  have c6 : gI s6 19 0 = gI s 3 0 ∧ gI s6 19 1 = gI s 3 1 ∧ gI s6 19 2 = gI s 3 2 ∧ gI s6 19 3 = gI s 3 3 ∧ gI s6 19 4 = gI s 3 4 ∧ gI s6 19 5 = gI s 3 5 := by rw [← hs6]; simp [gI_pI]
  have hS6 : Sh s6 := by rw [f6.sh]; exact hS
  obtain ⟨s7, e7, f7, n7, r7⟩ := copy_e (x := 20) (y := 4) hS6 (by simp [stC]) (by simp [stC]) (by decide)
  have hS7 : Sh s7 := by rw [f7.sh]; exact hS6
  obtain ⟨s8, e8, f8, r8⟩ := c_row (s := s7) (a := 8) (b := 24) (n := 6) ⟨by decide, kd_8 hS7⟩ ⟨by decide, kd_24 hS7⟩ (ln_8 hS7) (ln_24 hS7)
  have hS8 : Sh s8 := by rw [f8.sh]; exact hS7
  obtain ⟨s9, e9, f9, r9⟩ := c_row (s := s8) (a := 9) (b := 25) (n := 6) ⟨by decide, kd_9 hS8⟩ ⟨by decide, kd_25 hS8⟩ (ln_9 hS8) (ln_25 hS8)
  have hS9 : Sh s9 := by rw [f9.sh]; exact hS8
  obtain ⟨s10, e10, f10, r10⟩ := c_row (s := s9) (a := 10) (b := 26) (n := 4) ⟨by decide, kd_10 hS9⟩ ⟨by decide, kd_26 hS9⟩ (ln_10 hS9) (ln_26 hS9)
  have hS10 : Sh s10 := by rw [f10.sh]; exact hS9
  obtain ⟨s11, e11, f11, r11⟩ := c_row (s := s10) (a := 11) (b := 27) (n := 4) ⟨by decide, kd_11 hS10⟩ ⟨by decide, kd_27 hS10⟩ (ln_11 hS10) (ln_27 hS10)
  have hS11 : Sh s11 := by rw [f11.sh]; exact hS10
  obtain ⟨s12, e12, f12, r12⟩ := c_row (s := s11) (a := 12) (b := 28) (n := 8) ⟨by decide, kd_12 hS11⟩ ⟨by decide, kd_28 hS11⟩ (ln_12 hS11) (ln_28 hS11)
  have hS12 : Sh s12 := by rw [f12.sh]; exact hS11
  obtain ⟨s13, e13, f13, r13⟩ := c_row (s := s12) (a := 13) (b := 29) (n := 8) ⟨by decide, kd_13 hS12⟩ ⟨by decide, kd_29 hS12⟩ (ln_13 hS12) (ln_29 hS12)
  have hS13 : Sh s13 := by rw [f13.sh]; exact hS12
  obtain ⟨s14, e14, f14, r14⟩ := c_row (s := s13) (a := 14) (b := 30) (n := 8) ⟨by decide, kd_14 hS13⟩ ⟨by decide, kd_30 hS13⟩ (ln_14 hS13) (ln_30 hS13)
  have hS14 : Sh s14 := by rw [f14.sh]; exact hS13
  have m : ∀ (b : Int) (u v : St), 19 ≤ b.toNat ∧ b.toNat ≤ 30 → Fr (fun x => x = b.toNat) u v → Fr fTw u v := fun b u v hb h => h.mono (fun a ha => by unfold fTw; omega)
  have F6 : Fr fTw s s6 := f6.mono (fun a ha => by unfold fTw; omega)
  have F7 : Fr fTw s s7 := F6.trans (f7.mono (fun a ha => by unfold fTw; have e : (20 : Int).toNat = 20 := rfl; omega))
  have F8 := F7.trans (m 24 _ _ (by decide) f8)
  have F9 := F8.trans (m 25 _ _ (by decide) f9)
  have F10 := F9.trans (m 26 _ _ (by decide) f10)
  have F11 := F10.trans (m 27 _ _ (by decide) f11)
  have F12 := F11.trans (m 28 _ _ (by decide) f12)
  have F13 := F12.trans (m 29 _ _ (by decide) f13)
  have F14 := F13.trans (m 30 _ _ (by decide) f14)
  have nf : ∀ a : Nat, a < 19 → ¬ fTw a := fun a ha z => by unfold fTw at z; omega
  -- later rows leave earlier cells as they are
  have k13 : ∀ (a : Int) (k : Nat), a.toNat ≠ 30 → gI s14 a k = gI s13 a k := fun a k h => f14.nu h
  have k12 : ∀ (a : Int) (k : Nat), a.toNat ≠ 29 → a.toNat ≠ 30 → gI s14 a k = gI s12 a k := fun a k h h2 => (k13 a k h2).trans (f13.nu h)
  have k11 : ∀ (a : Int) (k : Nat), a.toNat < 28 → gI s14 a k = gI s11 a k := fun a k h => (k12 a k (by omega) (by omega)).trans (f12.nu (by show ¬ a.toNat = 28; omega))
  have k10 : ∀ (a : Int) (k : Nat), a.toNat < 27 → gI s14 a k = gI s10 a k := fun a k h => (k11 a k (by omega)).trans (f11.nu (by show ¬ a.toNat = 27; omega))
  have k9 : ∀ (a : Int) (k : Nat), a.toNat < 26 → gI s14 a k = gI s9 a k := fun a k h => (k10 a k (by omega)).trans (f10.nu (by show ¬ a.toNat = 26; omega))
  have k8 : ∀ (a : Int) (k : Nat), a.toNat < 25 → gI s14 a k = gI s8 a k := fun a k h => (k9 a k (by omega)).trans (f9.nu (by show ¬ a.toNat = 25; omega))
  have k7 : ∀ (a : Int) (k : Nat), a.toNat < 24 → gI s14 a k = gI s7 a k := fun a k h => (k8 a k (by omega)).trans (f8.nu (by show ¬ a.toNat = 24; omega))
  have k6 : ∀ k : Nat, gI s14 19 k = gI s6 19 k := fun k => (k7 19 k (by decide)).trans (f7.nu (by decide))
  refine ⟨s14, ?_, F14, ⟨⟨(k6 0).trans (c6.1.trans a0), (k6 1).trans (c6.2.1.trans a1), (k6 2).trans (c6.2.2.1.trans a2), (k6 3).trans (c6.2.2.2.1.trans a3), (k6 4).trans (c6.2.2.2.2.1.trans a4), (k6 5).trans (c6.2.2.2.2.2.trans a5)⟩, fun d hd => ⟨?_, ?_⟩, fun k hk => ⟨?_, ?_⟩, fun k hk => ⟨?_, ?_, ?_⟩, fun p hp => ?_, fun d hd => ⟨?_, ?_⟩⟩, ?_⟩
  · unfold X9_copy
    have k3 : isK s 19 3 := ⟨by decide, kd_3 hS⟩
    have k19 : isK s 19 19 := ⟨by decide, kd_19 hS⟩
    have cp : X6_copy s6 20 4 = some (0, s7) := e7
    simp only [tF, isK, shF hS, gI_pI]
    simp
    rw [hs6]
    simp [tF, isK, shF hS6, shF hS7, shF hS8, shF hS9, shF hS10, shF hS11, shF hS12, shF hS13, cp, e8, e9, e10, e11, e12, e13, e14]
  · exact (k8 24 d (by decide)).trans ((r8 d (by omega)).trans ((F7.nu (a := 8) (nf 8 (by decide))).trans (b2 d hd).1.1))
  · exact (k9 25 d (by decide)).trans ((r9 d (by omega)).trans ((F8.nu (a := 9) (nf 9 (by decide))).trans (b2 d hd).1.2))
  · exact (k10 26 k (by decide)).trans ((r10 k (by omega)).trans ((F9.nu (a := 10) (nf 10 (by decide))).trans (b3 k hk).1))
  · exact (k11 27 k (by decide)).trans ((r11 k (by omega)).trans ((F10.nu (a := 11) (nf 11 (by decide))).trans (b3 k hk).2))
  · exact (k12 28 k (by decide) (by decide)).trans ((r12 k (by omega)).trans ((F11.nu (a := 12) (nf 12 (by decide))).trans (b4 k hk).1))
  · exact (k13 29 k (by decide)).trans ((r13 k (by omega)).trans ((F12.nu (a := 13) (nf 13 (by decide))).trans (b4 k hk).2.1))
  · exact (r14 k (by omega)).trans ((F13.nu (a := 14) (nf 14 (by decide))).trans (b4 k hk).2.2)
  · have := (r7 p (by omega)).1
    exact (k7 21 p (by decide)).trans (this.trans ((F6.nu (a := 5) (nf 5 (by decide))).trans (b1 p hp).1))
  · have := (r7 d (by omega)).2.1
    exact (k7 22 d (by decide)).trans (this.trans ((F6.nu (a := 6) (nf 6 (by decide))).trans (b2 d hd).2.1.1))
  · have := (r7 d (by omega)).2.2
    exact (k7 23 d (by decide)).trans (this.trans ((F6.nu (a := 7) (nf 7 (by decide))).trans (b2 d hd).2.1.2))
  · exact (k7 20 0 (by decide)).trans (n7.trans ((F6.nu (a := 4) (nf 4 (by decide))).trans h40))
theorem dok_tfk (hO : DOK D) (hp : tP (dT D) ≠ 0) : TFK (dT D) := by
  obtain ⟨⟨o1, o2, o3⟩, ⟨p1, p2, p3⟩, ⟨r1, r2, r3, r4⟩, -⟩ := hO
  have h0 : tH (dT D) ≠ 0 := fun z => hp (o1 z).1
  have h2 := o2 h0
  refine ⟨⟨by omega, p1, p2, p3⟩, ⟨by rw [r1]; omega, r2, r3, r4⟩, r1⟩
end CTOWN
