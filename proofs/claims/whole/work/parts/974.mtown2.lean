/-! town on the reference -/
section FN
variable {n : Nat} {b : Nat → Int} {q : PQ} {D : DR} {c : Bool} {k : Int}
theorem qS_n (h : 0 ≤ q.1) : 0 ≤ (qS n b c q).1 := by
  unfold qS
  split
  · split
    · exact Int.le_refl 0
    · show (0 : Int) ≤ 1
      decide
  · exact h
theorem qF_n (hk : 0 ≤ k) (h : 0 ≤ q.1) : 0 ≤ (qF c k q).1 := by
  unfold qF
  split
  · exact hk
  · exact h
theorem qP_n (hk : 0 ≤ k) (h : 0 ≤ q.1) : 0 ≤ (qP n b c k q).1 := by
  unfold qP
  split
  · exact hk
  · exact h
theorem qW_n {lo hi : Int} (h : 0 ≤ q.1) : 0 ≤ (qW n b lo hi q).1 := qF_n (by decide) (qS_n h)
theorem qB_n (h : 0 ≤ q.1) : 0 ≤ (qB n b D c q).1 := qS_n (qP_n (by decide) (qP_n (by decide) h))
theorem qNew_n (h : 0 ≤ q.1) : 0 ≤ (qNew n b D q).1 := qF_n (by decide) (qS_n h)
theorem qKn_n {f : Option Nat} (h : 0 ≤ q.1) : 0 ≤ (qKn n b f q).1 := qF_n (by decide) (qS_n h)
theorem lnAny_n (h : 0 ≤ q.1) : 0 ≤ (lnAny n b D q).1.1 := by
  have h3 : (0 : Int) ≤ 3 := by decide
  unfold lnAny
  split
  · exact h
  · split
    · exact (qW_n (qS_n (qW_n (qS_n (qS_n (qP_n h3 h))))) : 0 ≤ (tw5 n b D q).1)
    · split
      · exact (qF_n h3 (qW_n (qS_n (qNew_n (qB_n h)))) : 0 ≤ (pr5 n b D q).1)
      · split
        · exact (qKn_n (qS_n (qW_n (qS_n (qS_n (qNew_n (qB_n h)))))) : 0 ≤ (dd7 n b D q).1)
        · split
          · exact (qW_n (qF_n h3 (qKn_n (qB_n h))) : 0 ≤ (mr4 n b D q).1)
          · split
            · exact (qW_n (qF_n h3 (qKn_n (qB_n h))) : 0 ≤ (un4 n b D q).1)
            · split
              · exact (qF_n h3 (qW_n (qS_n (qKn_n (qKn_n (qB_n h))))) : 0 ≤ (he6 n b D q).1)
              · exact qP_n (by decide) h
theorem rdl_n : ∀ (m : Nat) (x : PQ × DR), 0 ≤ x.1.1 → 0 ≤ (rdl n b m x).1.1
  | 0, _, h => h
  | m + 1, x, h => by
    show 0 ≤ (if x.1.1 ≠ 0 ∨ tkK n b x.1.2.2.1 = 0 then x else rdl n b m (lnAny n b x.2 (qS n b (decide (tkK n b x.1.2.2.1 = 3)) x.1))).1.1
    split
    · exact h
    · exact rdl_n m _ (lnAny_n (qS_n h))
theorem rdA_n (l : Int) : 0 ≤ (rdA n b l).1.1 := qP_n (by decide) (rdl_n n _ (lnAny_n (Int.le_refl 0)))
end FN
def twE (s16 : St) : Rs := grd (isK s16 23 76) (if (gI s16 76 12) ≤ 0 then (grd (isK s16 23 76) (grd (isK s16 23 76) (lets (pR s16 76 3 (gR s16 76 4)) (fun s17 => grd (isK s17 23 76) (bnd (X13_asTold s17 76 0) (fun _ s19 => X13_town_b104 FU s19 76 0)))))) else (grd (isK s16 23 76) (lets (pI s16 76 1 4) (fun s25 => grd (isK s25 23 76) (grd (isK s25 23 76) (lets (pI s25 76 2 (gI s25 76 13)) (fun s26 => some ((-1), s26))))))))
section MTOWN2
variable {s s1 : St} {n : Nat} {b : Nat → Int} {q : PQ} {D : DR}
theorem g23 (h : Sh s) (F : Rs) : grd (isK s 23 76) F = F := grd_t ⟨by decide, kd_76 h⟩
theorem m_townR {l : Int} (hS : Sh s) (ht : 89 ≤ s.1.1 ∧ s.1.1 < 900000) (hn : (n : Int) ≤ gI s 76 6) (h8 : n ≤ 800) (hb : ∀ j, ok8 (b j)) (h77 : ∀ j, j < n → gI s 77 j = b j) :
    ∃ s16, X13_town s 76 n = twE s16 ∧ OT s.1.1 s s16 ∧ (∀ k, k ≠ 0 → ¬ (6 ≤ k ∧ k ≤ 14) → gI s16 76 k = gI s 76 k) ∧ gI s16 76 6 = 0 ∧ (s16.1.1 = s.1.1 + 14 ∧ s16.1.2 ≤ s.1.2 + 177) ∧ RdQ n b s16 (rdA n b l).1 ∧ MDr s16 s.1.1 (rdA n b l).2 ∧ RTs s16 s.1.1 := by
  generalize hs7 : pI (pI (pI (pI (pI s 76 0 0) 76 7 (n : Int)) 76 6 0) 76 8 0) 76 12 0 = s7
  have p7 : s7.1 = s.1 := by rw [← hs7]; rfl
  have r7 : s7.2.1 = s.2.1 ∧ s7.2.2.1 = s.2.2.1 := by rw [← hs7]; exact ⟨rfl, rfl⟩
  have f7 : Fr (fun a => a = 76) s s7 := by
    rw [← hs7]
    have hf : ∀ (s' : St) (k : Nat) (x : Int), Fr (fun a => a = 76) s' (pI s' 76 k x) := fun s' k x => Fr_pI rfl
    exact ((((hf _ _ _).trans (hf _ _ _)).trans (hf _ _ _)).trans (hf _ _ _)).trans (hf _ _ _)
  have v7 : ∀ k, gI s7 76 k = if k = 12 ∨ k = 8 ∨ k = 6 ∨ k = 0 then 0 else if k = 7 then (n : Int) else gI s 76 k := fun k => by
    rw [← hs7]
    simp only [gI_pI]
    by_cases k12 : k = 12
    · simp [k12]
    · by_cases k8 : k = 8
      · simp [k8]
      · by_cases k6 : k = 6
        · simp [k6]
        · by_cases k7 : k = 7
          · simp [k7]
          · by_cases k0 : k = 0
            · simp [k0]
            · simp [k12, k8, k6, k7, k0]
  have t7 : s7.1.1 = s.1.1 := by rw [p7]
  obtain ⟨s10, e10, ⟨i1, i1'⟩, i2, i3, i4, i5⟩ := m_init (s0 := s7) (by omega)
  generalize hs12 : pI (pR s10 76 4 (s7.1.1 : Int)) 76 9 0 = s12
  have q12 : s12.1 = s10.1 := by rw [← hs12]; rfl
  have k12 : s12.2.1 = s10.2.1 := by rw [← hs12]; rfl
  have g12 : ∀ a k, s12.2.2.1 a k = if a = 76 ∧ k = 4 then (s7.1.1 : Int) else s10.2.2.1 a k := fun a k => by rw [← hs12]; rfl
  have n12 : ∀ a, a ≠ 76 → s12.2.2.2 a = s10.2.2.2 a := fun a ha => by
    rw [← hs12]
    funext k
    show (if a = (76 : Int).toNat ∧ k = 9 then (0 : Int) else s10.2.2.2 a k) = _
    rw [if_neg (fun z => ha z.1)]
  have v12 : ∀ k, gI s12 76 k = if k = 9 then 0 else gI s7 76 k := fun k => by
    have : gI s10 76 k = gI s7 76 k := congrFun (i2 76 (by omega)).2.2 k
    rw [← this, ← hs12, gI_pI]
    by_cases z : k = 9
    · rw [if_pos ⟨rfl, z⟩, if_pos z]
    · rw [if_neg (fun w => z w.2), if_neg z]; rfl
  have o12 : OT s.1.1 s s12 := by
    refine ⟨by rw [q12]; omega, fun a ha => ?_, fun a ha k hk => ?_, fun a ha h76 => ?_⟩
    · rw [k12, (i2 a (by omega)).1, r7.1]
    · rw [g12, if_neg hk, (i2 a (by omega)).2.1, r7.2]
    · rw [n12 a h76, (i2 a (by omega)).2.2, f7.2.2.2 a h76]
  have hS12 := o12.sh ht.1 hS
  have e77 : ∀ k, gI s12 77 k = gI s 77 k := fun k => congrFun (o12.2.2.2 77 (by omega) (by decide)) k
  have hx : MTx n b s12 := ⟨hS12, by rw [v12, if_neg (by decide), v7, if_neg (by decide), if_pos rfl], h8, hb, fun j hj => (e77 j).trans (h77 j hj)⟩
  obtain ⟨s14, e14, f14, c14⟩ := m_goes (i := 0) hx (Nat.zero_le _) (by rw [v12, if_neg (by decide), v7, if_pos (by decide)]; rfl) (by rw [v12, if_pos rfl]; decide)
  have kk : ∀ c, 1 ≤ c → c < 14 → kd s12 (ad s.1.1 c) = (shp c).1 ∧ ln s12 (ad s.1.1 c) = ((shp c).2 : Int) ∧ gR s12 (ad s.1.1 0) (7 + c) = ad s.1.1 c := fun c c1 c2 => by
    have := i4 c c1 c2
    rw [t7] at this
    refine ⟨?_, ?_, ?_⟩
    · unfold kd; rw [ad_t, k12, this.1]
    · unfold ln; rw [ad_t, k12, this.1]
    · unfold gR; rw [ad_t, g12, if_neg (fun z => by omega), Nat.add_zero, this.2]; rfl
  have hR12 : RTs s12 s.1.1 := by
    refine ⟨ht, ?_, ?_, ⟨(kk 1 (by decide) (by decide)).2.2, (kk 2 (by decide) (by decide)).2.2, (kk 3 (by decide) (by decide)).2.2, (kk 4 (by decide) (by decide)).2.2, (kk 5 (by decide) (by decide)).2.2, (kk 6 (by decide) (by decide)).2.2, (kk 7 (by decide) (by decide)).2.2, (kk 8 (by decide) (by decide)).2.2, (kk 9 (by decide) (by decide)).2.2, (kk 10 (by decide) (by decide)).2.2, (kk 11 (by decide) (by decide)).2.2, (kk 12 (by decide) (by decide)).2.2, (kk 13 (by decide) (by decide)).2.2⟩, ⟨(kk 1 (by decide) (by decide)).1, (kk 2 (by decide) (by decide)).1, (kk 3 (by decide) (by decide)).1, (kk 4 (by decide) (by decide)).1, (kk 5 (by decide) (by decide)).1, (kk 6 (by decide) (by decide)).1, (kk 7 (by decide) (by decide)).1, (kk 8 (by decide) (by decide)).1, (kk 9 (by decide) (by decide)).1, (kk 10 (by decide) (by decide)).1, (kk 11 (by decide) (by decide)).1, (kk 12 (by decide) (by decide)).1, (kk 13 (by decide) (by decide)).1⟩, ⟨(kk 1 (by decide) (by decide)).2.1, (kk 2 (by decide) (by decide)).2.1, (kk 3 (by decide) (by decide)).2.1, (kk 4 (by decide) (by decide)).2.1, (kk 5 (by decide) (by decide)).2.1, (kk 6 (by decide) (by decide)).2.1, (kk 7 (by decide) (by decide)).2.1, (kk 8 (by decide) (by decide)).2.1, (kk 9 (by decide) (by decide)).2.1, (kk 10 (by decide) (by decide)).2.1, (kk 11 (by decide) (by decide)).2.1, (kk 12 (by decide) (by decide)).2.1, (kk 13 (by decide) (by decide)).2.1⟩⟩
    · show s12.2.2.1 76 4 = _
      rw [g12, if_pos ⟨rfl, rfl⟩, t7]; rfl
    · unfold kd; rw [ad_t, k12, Nat.add_zero, ← t7, i3]
  have z14 : ∀ c, c < 14 → ∀ k, gI s14 (ad s.1.1 c) k = 0 := fun c hc k => by
    have a1 : gI s14 (ad s.1.1 c) k = gI s12 (ad s.1.1 c) k := f14.1.nu (a := ad s.1.1 c) (fun w => by rw [ad_t] at w; omega)
    rw [a1]
    unfold gI
    rw [ad_t, n12 _ (by omega), ← t7]
    exact i5 c hc k
  have hD14 : MDr s14 s.1.1 D0 := by
    have z0 := z14 0 (by decide)
    exact ⟨⟨z0 0, z0 1, z0 2, z0 3, z0 5, z0 6, z0 7⟩, fun d hd => absurd hd (Nat.not_lt_zero _), fun d hd => absurd hd (Nat.not_lt_zero _), fun d hd => absurd hd (Nat.not_lt_zero _), fun d hd => absurd hd (Nat.not_lt_zero _), fun d hd => absurd hd (Nat.not_lt_zero _)⟩
  have hQ14 : RdQ n b s14 (0, -1, 0, l) := ⟨c14.1.1, fun _ => ⟨c14, by rw [f14.2 12 (by decide) (by decide) (by decide) (by decide) (by decide), v12, if_neg (by decide), v7, if_pos (by decide)]⟩, fun z => absurd rfl z⟩
  obtain ⟨s16, e16, f16, c16, d16, r16⟩ := m_readAll h8 hQ14 (hR12.fr f14.1) hD14
  have o16 : OT s.1.1 s s16 := (o12.fr (f14.1.mono (fun a ha => Or.inl ha))).fr f16.1
  refine ⟨s16, ?_, o16, fun k k0 hk => ?_, ?_, ⟨?_, ?_⟩, c16, d16, r16⟩
  · have n0 : ¬ (n : Int) < 0 := by omega
    have n1 : (n : Int) ≤ gI (pI s 76 0 0) 76 6 := by rw [gI_pI, if_neg (by decide)]; exact hn
    have hS7 : Sh s7 := by rw [f7.sh]; exact hS
    have hS10 : Sh (pR s10 76 4 (s7.1.1 : Int)) := by rw [← hs12] at hS12; exact hS12
    have h10 : isK s10 23 76 := ⟨by decide, (show kd (pR s10 76 4 (s7.1.1 : Int)) 76 = 23 from kd_76 hS10)⟩
    have h22 : isK (nw s7 22 21) 22 (s7.1.1 : Int) := by
      refine ⟨⟨by omega, by omega⟩, ?_⟩
      show (if ((s7.1.1 : Nat) : Int).toNat = s7.1.1 then (22, 21) else s7.2.1 ((s7.1.1 : Nat) : Int).toNat).1 = 22
      rw [Int.toNat_natCast, if_pos rfl]
    unfold X13_town
    rw [g23 hS, lets_e, if_neg n0, g23 (s := pI s 76 0 0) hS, if_pos n1, g23 (s := pI s 76 0 0) hS, lets_e, g23 (s := pI (pI s 76 0 0) 76 7 (n : Int)) hS, lets_e, g23 (s := pI (pI (pI s 76 0 0) 76 7 (n : Int)) 76 6 0) hS, lets_e, g23 (s := pI (pI (pI (pI s 76 0 0) 76 7 (n : Int)) 76 6 0) 76 8 0) hS, lets_e, hs7, grd_t (show s7.1.1 < 1000000 by omega), lets_e, grd_t h22, e10, bnd_some, grd_t h10, lets_e, g23 hS10, lets_e, hs12, g23 hS12, e14, bnd_some, g23 c14.1.1, e16, bnd_some]
    rfl
  · rw [f16.2 k (by omega), f14.2 k (by omega) (by omega) (by omega) (by omega) (by omega), v12, if_neg (by omega), v7, if_neg (by omega), if_neg (by omega)]
  · rw [f16.2 6 (by decide), f14.2 6 (by decide) (by decide) (by decide) (by decide) (by decide), v12, if_neg (by decide), v7, if_pos (by decide)]
  · rw [f16.1.1, f14.1.1, q12]; omega
  · rw [f16.1.1, f14.1.1, q12]
    rw [p7] at i1'
    omega
theorem m_twF (h : RdQ n b s q) (z : 0 < q.1) : twE s = some (-1, pI (pI s 76 1 4) 76 2 q.2.1) := by
  have hS := h.1
  obtain ⟨-, a2, a3⟩ := h.2.2 (by omega)
  have e13 : gI (pI s 76 1 4) 76 13 = q.2.1 := by rw [gI_pI, if_neg (by decide)]; exact a3
  unfold twE
  rw [g23 hS, if_neg (by omega), g23 hS, lets_e, g23 (s := pI s 76 1 4) hS, g23 (s := pI s 76 1 4) hS, lets_e, e13]
theorem town_b104 (hS : Sh s) (hk : isK s 22 (gR s 76 3)) (h76 : (gR s 76 3).toNat ≠ 76 ∧ (gR s 76 3).toNat ≠ 78) : ∃ s1, X13_town_b104 FU s 76 0 = some (gI s (gR s 76 3) 2, fiM 0 (pI (pI s1 76 19 0) 76 20 0)) ∧ Fr (fun a => a = 78) s s1 ∧ ∀ j, j < 19 → gI s1 78 j = gI s 79 j := by
  unfold X13_town_b104
  refine iter_inv (Q := fun F => ∃ s1, F = some (gI s (gR s 76 3) 2, fiM 0 (pI (pI s1 76 19 0) 76 20 0)) ∧ Fr (fun a => a = 78) s s1 ∧ ∀ j, j < 19 → gI s1 78 j = gI s 79 j) (fun i a => a.2 = ((76 : Int), (i : Int)) ∧ Fr (fun a => a = 78) s a.1 ∧ ∀ j, j < i → gI a.1 78 j = gI s 79 j) 19 FU _ (by unfold FU; omega) ⟨rfl, Fr.refl _ _, fun j hj => by omega⟩ (fun i hi a ha => ?_) (fun a ha rec => ?_)
  · obtain ⟨s4, a2⟩ := a
    obtain ⟨a1, a2, a4⟩ := ha
    simp only at a1
    subst a1
    simp only at a2 a4
    have hS4 : Sh s4 := by rw [a2.sh]; exact hS
    have c79 : gI s4 79 i = gI s 79 i := a2.nu (by simp)
    have g1 : ¬ (19 : Int) ≤ (i : Int) := by omega
    have g2 : (i : Int) < 19 := by omega
    have hi6 : i ≤ 6000 := by omega
    have hw := wk1 hi6
    refine ⟨(pI s4 78 i (gI s 79 i), (76 : Int), ((i + 1 : Nat) : Int)), ⟨rfl, a2.trans (Fr_pI (by simp)), fun j hj => ?_⟩, fun rec => ?_⟩
    · show gI (pI s4 78 i _) 78 j = _
      rw [gI_pI]
      by_cases q : j = i
      · rw [if_pos ⟨rfl, q⟩, q]
      · rw [if_neg (fun z => q z.2)]; exact a4 j (by omega)
    · simp [X13_town_b104_body, tF, isK, shF hS4, g1, g2, c79, hw]
  · obtain ⟨s4, a2⟩ := a
    obtain ⟨a1, a2, a4⟩ := ha
    simp only at a1
    subst a1
    simp only at a2 a4
    have hS4 : Sh s4 := by rw [a2.sh]; exact hS
    have hS5 : Sh (pI s4 76 19 0) := hS4
    have hS6 : Sh (pI (pI s4 76 19 0) 76 20 0) := hS4
    have r3 : gR (pI (pI s4 76 19 0) 76 20 0) 76 3 = gR s 76 3 := a2.refs 76 3
    have k3 : isK (pI (pI s4 76 19 0) 76 20 0) 22 (gR s 76 3) := ⟨hk.1, (a2.kds _).trans hk.2⟩
    have v3 : gI (pI (pI s4 76 19 0) 76 20 0) (gR s 76 3) 2 = gI s (gR s 76 3) 2 := by
      rw [gI_pI, if_neg (fun z => h76.1 z.1), gI_pI, if_neg (fun z => h76.1 z.1)]
      exact a2.nu (fun z => h76.2 z)
    refine ⟨s4, ?_, a2, fun j hj => a4 j hj⟩
    show X13_town_b104_body _ s4 76 ((19 : Nat) : Int) = _
    unfold X13_town_b104_body
    rw [if_pos (by decide), g23 hS4, lets_e, g23 hS5, lets_e, g23 hS6, r3, grd_t k3, g23 hS6, v3, m_good hS6, bnd_some]
end MTOWN2
