/-! a state copied, a street laid anew -/
def stC (x : Int) : Prop := x = 4 ∨ x = 20 ∨ x = 32 ∨ x = 40 ∨ x = 64 ∨ x = 68 ∨ x = 72
theorem stC_F {s : St} (hS : Sh s) {x : Int} (h : stC x) : (kd s x = 16 ∧ gR s x 1 = x + 1 ∧ gR s x 2 = x + 2 ∧ gR s x 3 = x + 3) ∧ (kd s (x + 1) = 1 ∧ kd s (x + 2) = 1 ∧ kd s (x + 3) = 1) ∧ (ln s (x + 1) = 6 ∧ ln s (x + 2) = 6 ∧ ln s (x + 3) = 6) ∧ (0 ≤ x ∧ x < 1000000 ∧ 0 ≤ x + 1 ∧ x + 1 < 1000000 ∧ 0 ≤ x + 2 ∧ x + 2 < 1000000 ∧ 0 ≤ x + 3 ∧ x + 3 < 1000000) := by
  rcases h with rfl | rfl | rfl | rfl | rfl | rfl | rfl <;> simp [shF hS]
theorem cpyF : (∀ (s : St) (a b c d n e : Int), kd (cpy s a b c d n) e = kd s e) ∧ (∀ (s : St) (a b c d n e : Int), ln (cpy s a b c d n) e = ln s e) ∧ (∀ (s : St) (a b c d n e : Int) (k : Nat), gR (cpy s a b c d n) e k = gR s e k) := ⟨fun _ _ _ _ _ _ _ => rfl, fun _ _ _ _ _ _ _ => rfl, fun _ _ _ _ _ _ _ _ => rfl⟩
theorem gI_cpy (s : St) (a c e : Int) (j : Nat) : gI (cpy s a 0 c 0 6) e j = if e.toNat = c.toNat ∧ j < 6 then gI s a j else gI s e j := by
  show (if e.toNat = c.toNat ∧ (0 : Int).toNat ≤ j ∧ j < (0 : Int).toNat + (6 : Int).toNat then s.2.2.2 a.toNat ((0 : Int).toNat + (j - (0 : Int).toNat)) else s.2.2.2 e.toNat j) = _
  have e0 : (0 : Int).toNat = 0 := rfl
  have e6 : (6 : Int).toNat = 6 := rfl
  rw [e0, e6]
  simp only [Nat.zero_add, Nat.sub_zero, Nat.zero_le, true_and]
  rfl
/-- a state of the town's people, slips, mirrors as it stands in the cells from a on -/
def SR (s : St) (a : Int) (T : Tw) (N : Nw) : Prop := gI s a 0 = nN N ∧ (∀ p, p < tP T → gI s (a + 1) p = nHo N p) ∧ ∀ d, d < tD T → gI s (a + 2) d = nSl N d ∧ gI s (a + 3) d = nMi N d
section SETTLE
variable {s : St} {T : Tw} {N : Nw}
theorem copyRow_e {a b : Int} (ha : isK s 1 a) (hb : isK s 1 b) (la : ln s a = 6) (lb : ln s b = 6) : X11_copyRow s a b = some (0, cpy s a 0 b 0 6) := by
  unfold X11_copyRow JM_min JM_min_b10
  rw [grd_t ha, grd_t hb, la, lb]
  simp [tF, cpyOK, ha, hb, la, lb]
theorem copy_e {x y : Int} (hS : Sh s) (hx : stC x) (hy : stC y) (hxy : x ≠ y) : ∃ s1, X6_copy s x y = some (0, s1) ∧ Fr (fun a => x.toNat ≤ a ∧ a ≤ x.toNat + 3) s s1 ∧ gI s1 x 0 = gI s y 0 ∧ ∀ j, j < 6 → gI s1 (x + 1) j = gI s (y + 1) j ∧ gI s1 (x + 2) j = gI s (y + 2) j ∧ gI s1 (x + 3) j = gI s (y + 3) j := by
  have fx := stC_F hS hx
  have fy := stC_F hS hy
  have nx : 0 ≤ x := fx.2.2.2.1
  have ny : 0 ≤ y := fy.2.2.2.1
  have far : x + 4 ≤ y ∨ y + 4 ≤ x := by
    unfold stC at hx hy
    omega
  have hL : ∀ i : Int, 0 ≤ i → i ≤ 3 → (fun a => x.toNat ≤ a ∧ a ≤ x.toNat + 3) (x + i).toNat := fun i h1 h2 => by
    show x.toNat ≤ (x + i).toNat ∧ (x + i).toNat ≤ x.toNat + 3
    omega
  refine ⟨cpy (cpy (cpy (pI s x 0 (gI s y 0)) (y + 1) 0 (x + 1) 0 6) (y + 2) 0 (x + 2) 0 6) (y + 3) 0 (x + 3) 0 6, ?_, ?_, ?_, fun j hj => ⟨?_, ?_, ?_⟩⟩
  · unfold X6_copy
    have k1 : isK s 16 y := ⟨⟨fy.2.2.2.1, fy.2.2.2.2.1⟩, fy.1.1⟩
    have k2 : isK s 16 x := ⟨⟨fx.2.2.2.1, fx.2.2.2.2.1⟩, fx.1.1⟩
    have c1 := copyRow_e (s := pI s x 0 (gI s y 0)) (a := y + 1) (b := x + 1) ⟨⟨fy.2.2.2.2.2.1, fy.2.2.2.2.2.2.1⟩, fy.2.1.1⟩ ⟨⟨fx.2.2.2.2.2.1, fx.2.2.2.2.2.2.1⟩, fx.2.1.1⟩ fy.2.2.1.1 fx.2.2.1.1
    have c2 := copyRow_e (s := cpy (pI s x 0 (gI s y 0)) (y + 1) 0 (x + 1) 0 6) (a := y + 2) (b := x + 2) ⟨⟨fy.2.2.2.2.2.2.2.1, fy.2.2.2.2.2.2.2.2.1⟩, fy.2.1.2.1⟩ ⟨⟨fx.2.2.2.2.2.2.2.1, fx.2.2.2.2.2.2.2.2.1⟩, fx.2.1.2.1⟩ fy.2.2.1.2.1 fx.2.2.1.2.1
    have c3 := copyRow_e (s := cpy (cpy (pI s x 0 (gI s y 0)) (y + 1) 0 (x + 1) 0 6) (y + 2) 0 (x + 2) 0 6) (a := y + 3) (b := x + 3) ⟨⟨fy.2.2.2.2.2.2.2.2.2.1, fy.2.2.2.2.2.2.2.2.2.2⟩, fy.2.1.2.2⟩ ⟨⟨fx.2.2.2.2.2.2.2.2.2.1, fx.2.2.2.2.2.2.2.2.2.2⟩, fx.2.1.2.2⟩ fy.2.2.1.2.2 fx.2.2.1.2.2
    simp [tF, cpyF, isK, fx.1, fy.1, fx.2.2.2, fy.2.2.2, c1, c2, c3]
  · refine (((Fr_pI (by simp)).trans (Fr_cpy ?_)).trans (Fr_cpy ?_)).trans (Fr_cpy ?_)
    · exact hL 1 (by decide) (by decide)
    · exact hL 2 (by decide) (by decide)
    · exact hL 3 (by decide) (by decide)
  · rw [gI_cpy, if_neg (by omega), gI_cpy, if_neg (by omega), gI_cpy, if_neg (by omega), gI_pI, if_pos ⟨rfl, rfl⟩]
  · rw [gI_cpy, if_neg (by omega), gI_cpy, if_neg (by omega), gI_cpy, if_pos ⟨rfl, hj⟩, gI_pI, if_neg (by omega)]
  · rw [gI_cpy, if_neg (by omega), gI_cpy, if_pos ⟨rfl, hj⟩, gI_cpy, if_neg (by omega), gI_pI, if_neg (by omega)]
  · rw [gI_cpy, if_pos ⟨rfl, hj⟩, gI_cpy, if_neg (by omega), gI_cpy, if_neg (by omega), gI_pI, if_neg (by omega)]
theorem copy_SR {x y : Int} (hS : Sh s) (hT : TOK T) (hx : stC x) (hy : stC y) (hxy : x ≠ y) (hR : SR s y T N) : ∃ s1, X6_copy s x y = some (0, s1) ∧ Fr (fun a => x.toNat ≤ a ∧ a ≤ x.toNat + 3) s s1 ∧ SR s1 x T N := by
  obtain ⟨s1, e1, e2, e3, e4⟩ := copy_e hS hx hy hxy
  have t5 := hT.1.2.2.2.2.1
  have t6 := hT.1.2.2.2.2.2.1
  exact ⟨s1, e1, e2, e3.trans hR.1, fun p hp => ((e4 p (by omega)).1).trans (hR.2.1 p hp), fun d hd => ⟨((e4 d (by omega)).2.1).trans (hR.2.2 d hd).1, ((e4 d (by omega)).2.2).trans (hR.2.2 d hd).2⟩⟩
theorem layS_ok {v st r sl mi x o l : Int} (hv : vcOK v st r sl mi x o l) (hS : Sh s) (hT : TOK T) (hN : NOK T N) (hr : ∀ p, p < tP T → gI s r p = nHo N p) : ∃ s1, X7_lay s x (tH T) r (tP T) = some (0, s1) ∧ Fr (fun a => x.toNat ≤ a ∧ a ≤ l.toNat) s s1 ∧ StrOK s1 x o l (tH T) (tP T) (nHo N) := by
  obtain ⟨t1, t2, t3, t4, t5, t6, t7, t8⟩ := hT.1
  have e := lay_e (s := s) (H := tH T) (np := tP T) hv.st hS (by omega) t2 t4 t5 (fun p hp => by rw [hr p hp]; exact hN.2.1 p hp) (fun p q hp hq => by rw [hr p hp, hr q (by omega)]; exact hN.2.2.1 p q hp hq)
  refine ⟨_, e, ?_, ?_⟩
  · rcases hv with ⟨rfl, rfl, rfl, rfl, rfl, rfl, rfl, rfl⟩ | ⟨rfl, rfl, rfl, rfl, rfl, rfl, rfl, rfl⟩
    · exact ((Fr_pI (by simp)).trans (Fr_sR (by simp))).trans (Fr_sR (by simp))
    · exact ((Fr_pI (by simp)).trans (Fr_sR (by simp))).trans (Fr_sR (by simp))
  · have hw : ∀ y, whoF (tP T) (fun p => gI s r p) y = whoF (tP T) (nHo N) y := fun y => whoF_cg hr y
    have hh : ∀ y, hfF (tH T) (tP T) (fun p => gI s r p) y = hfF (tH T) (tP T) (nHo N) y := fun y => hfF_cg hr y
    refine ⟨?_, fun j hj => ?_, fun j hj => ?_⟩
    · rcases hv with ⟨rfl, rfl, rfl, rfl, rfl, rfl, rfl, rfl⟩ | ⟨rfl, rfl, rfl, rfl, rfl, rfl, rfl, rfl⟩ <;> simp [layS, gI_sR, gI_pI]
    · rcases hv with ⟨rfl, rfl, rfl, rfl, rfl, rfl, rfl, rfl⟩ | ⟨rfl, rfl, rfl, rfl, rfl, rfl, rfl, rfl⟩ <;> simp [layS, gI_sR, gI_pI, hj, hw]
    · rcases hv with ⟨rfl, rfl, rfl, rfl, rfl, rfl, rfl, rfl⟩ | ⟨rfl, rfl, rfl, rfl, rfl, rfl, rfl, rfl⟩ <;> simp [layS, gI_sR, gI_pI, hj, hh]
theorem settle_e {v st r sl mi x o l y : Int} (hv : vcOK v st r sl mi x o l) (hS : Sh s) (hT : TOK T) (hN : NOK T N) (hC : CT s T) (hy : stC y) (hyv : y ≠ st) (hR : SR s y T N) : ∃ s1, X10_settle s v y = some (0, s1) ∧ Fr (fun a => st.toNat ≤ a ∧ a ≤ l.toNat) s s1 ∧ CV s1 T N r sl mi x o l ∧ gI s1 st 0 = nN N := by
  have hst : stC st := by
    rcases hv with ⟨rfl, rfl, rfl, rfl, rfl, rfl, rfl, rfl⟩ | ⟨rfl, rfl, rfl, rfl, rfl, rfl, rfl, rfl⟩ <;> simp [stC]
  obtain ⟨s2, e1, e2, e3⟩ := copy_SR hS hT hst hy (Ne.symm hyv) hR
  have hS2 : Sh s2 := by rw [e2.sh]; exact hS
  have n19 : ∀ k, gI s2 19 k = gI s 19 k := fun k => e2.nu (by
    rcases hv with ⟨rfl, rfl, rfl, rfl, rfl, rfl, rfl, rfl⟩ | ⟨rfl, rfl, rfl, rfl, rfl, rfl, rfl, rfl⟩ <;> simp)
  have c0 : gI s2 19 0 = tH T := (n19 0).trans hC.1.1
  have c2 : gI s2 19 2 = tP T := (n19 2).trans hC.1.2.2.1
  have hr : ∀ p, p < tP T → gI s2 r p = nHo N p := by
    rcases hv with ⟨rfl, rfl, rfl, rfl, rfl, rfl, rfl, rfl⟩ | ⟨rfl, rfl, rfl, rfl, rfl, rfl, rfl, rfl⟩ <;> exact e3.2.1
  obtain ⟨s3, f1, f2, f3⟩ := layS_ok hv hS2 hT hN hr
  refine ⟨s3, ?_, ?_, ⟨?_, ?_, f3⟩, ?_⟩
  · unfold X10_settle
    rcases hv with ⟨rfl, rfl, rfl, rfl, rfl, rfl, rfl, rfl⟩ | ⟨rfl, rfl, rfl, rfl, rfl, rfl, rfl, rfl⟩ <;>
    simp [tF, isK, shF hS, shF hS2, e1, c0, c2, f1]
  · refine (e2.mono ?_).trans (f2.mono ?_)
    · rcases hv with ⟨rfl, rfl, rfl, rfl, rfl, rfl, rfl, rfl⟩ | ⟨rfl, rfl, rfl, rfl, rfl, rfl, rfl, rfl⟩ <;> (intro a ha; simp at ha ⊢; omega)
    · rcases hv with ⟨rfl, rfl, rfl, rfl, rfl, rfl, rfl, rfl⟩ | ⟨rfl, rfl, rfl, rfl, rfl, rfl, rfl, rfl⟩ <;> (intro a ha; simp at ha ⊢; omega)
  · intro p hp
    rw [f2.nu (by rcases hv with ⟨rfl, rfl, rfl, rfl, rfl, rfl, rfl, rfl⟩ | ⟨rfl, rfl, rfl, rfl, rfl, rfl, rfl, rfl⟩ <;> simp)]
    exact hr p hp
  · intro d hd
    rw [f2.nu (by rcases hv with ⟨rfl, rfl, rfl, rfl, rfl, rfl, rfl, rfl⟩ | ⟨rfl, rfl, rfl, rfl, rfl, rfl, rfl, rfl⟩ <;> simp), f2.nu (by rcases hv with ⟨rfl, rfl, rfl, rfl, rfl, rfl, rfl, rfl⟩ | ⟨rfl, rfl, rfl, rfl, rfl, rfl, rfl, rfl⟩ <;> simp)]
    rcases hv with ⟨rfl, rfl, rfl, rfl, rfl, rfl, rfl, rfl⟩ | ⟨rfl, rfl, rfl, rfl, rfl, rfl, rfl, rfl⟩ <;> exact e3.2.2 d hd
  · rw [f2.nu (by rcases hv with ⟨rfl, rfl, rfl, rfl, rfl, rfl, rfl, rfl⟩ | ⟨rfl, rfl, rfl, rfl, rfl, rfl, rfl, rfl⟩ <;> simp)]
    exact e3.1
theorem putPerson_e {v st r sl mi x o l h : Int} {p : Nat} (hv : vcOK v st r sl mi x o l) (hS : Sh s) (hT : TOK T) (hN : NOK T (houN N p h)) (hC : CT s T) (hV : CV s T N r sl mi x o l) (hp : p < tP T) : ∃ s1, X10_putPerson s v p h = some (0, s1) ∧ Fr (fun a => st.toNat < a ∧ a ≤ l.toNat) s s1 ∧ CV s1 T (houN N p h) r sl mi x o l := by
  have t5 := hT.1.2.2.2.2.1
  have g6 : (p : Int) < 6 := by omega
  have n19 : ∀ k, gI (pI s r p h) 19 k = gI s 19 k := fun k => by
    rw [gI_pI, if_neg]
    rcases hv with ⟨rfl, rfl, rfl, rfl, rfl, rfl, rfl, rfl⟩ | ⟨rfl, rfl, rfl, rfl, rfl, rfl, rfl, rfl⟩ <;> simp
  have c0 : gI (pI s r p h) 19 0 = tH T := (n19 0).trans hC.1.1
  have c2 : gI (pI s r p h) 19 2 = tP T := (n19 2).trans hC.1.2.2.1
  have hr : ∀ q, q < tP T → gI (pI s r p h) r q = nHo (houN N p h) q := fun q hq => by
    rw [gI_pI]
    show _ = (if q = p then h else nHo N q)
    by_cases e : q = p
    · rw [if_pos ⟨rfl, e⟩, if_pos e]
    · rw [if_neg (fun z => e z.2), if_neg e]; exact hV.1 q hq
  obtain ⟨s3, f1, f2, f3⟩ := layS_ok hv (s := pI s r p h) hS hT hN hr
  refine ⟨s3, ?_, ?_, ⟨?_, ?_, f3⟩⟩
  · unfold X10_putPerson
    rcases hv with ⟨rfl, rfl, rfl, rfl, rfl, rfl, rfl, rfl⟩ | ⟨rfl, rfl, rfl, rfl, rfl, rfl, rfl, rfl⟩ <;>
    simp [tF, isK, shF hS, g6, c0, c2, f1]
  · refine Fr.trans (Fr_pI ?_) (f2.mono ?_)
    · rcases hv with ⟨rfl, rfl, rfl, rfl, rfl, rfl, rfl, rfl⟩ | ⟨rfl, rfl, rfl, rfl, rfl, rfl, rfl, rfl⟩ <;> simp
    · rcases hv with ⟨rfl, rfl, rfl, rfl, rfl, rfl, rfl, rfl⟩ | ⟨rfl, rfl, rfl, rfl, rfl, rfl, rfl, rfl⟩ <;> (intro a ha; simp at ha ⊢; omega)
  · intro q hq
    rw [f2.nu (by rcases hv with ⟨rfl, rfl, rfl, rfl, rfl, rfl, rfl, rfl⟩ | ⟨rfl, rfl, rfl, rfl, rfl, rfl, rfl, rfl⟩ <;> simp)]
    exact hr q hq
  · intro d hd
    rw [f2.nu (by rcases hv with ⟨rfl, rfl, rfl, rfl, rfl, rfl, rfl, rfl⟩ | ⟨rfl, rfl, rfl, rfl, rfl, rfl, rfl, rfl⟩ <;> simp), f2.nu (by rcases hv with ⟨rfl, rfl, rfl, rfl, rfl, rfl, rfl, rfl⟩ | ⟨rfl, rfl, rfl, rfl, rfl, rfl, rfl, rfl⟩ <;> simp)]
    have e := hV.2.1 d hd
    rcases hv with ⟨rfl, rfl, rfl, rfl, rfl, rfl, rfl, rfl⟩ | ⟨rfl, rfl, rfl, rfl, rfl, rfl, rfl, rfl⟩ <;> (simp [gI_pI]; exact e)
end SETTLE
