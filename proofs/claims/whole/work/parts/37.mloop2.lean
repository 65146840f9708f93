/-! the reference's loops that write or search on -/
theorem pI_pI (s : St) (a : Int) (k : Nat) (x y : Int) : pI (pI s a k x) a k y = pI s a k y := by
  unfold pI
  congr 3
  funext b j
  by_cases h : b = a.toNat ∧ j = k
  · simp only [if_pos h]
  · simp only [if_neg h]
theorem pI_self (s : St) (a : Int) (k : Nat) : pI s a k (gI s a k) = s := by
  obtain ⟨c, sh, r, n⟩ := s
  unfold pI gI
  congr 3
  funext b j
  by_cases h : b = a.toNat ∧ j = k
  · simp [h]
  · simp only [if_neg h]
theorem bestF_inv (c : Nat → Nat) : ∀ k : Nat, ∃ j : Nat, j < k + 1 ∧ bestF c (k + 1) = ((j : Int), (c j : Int))
  | 0 => ⟨0, Nat.zero_lt_one, bestF_1 (c := c) (k := 0) (by show (-1 : Int) < (c 0 : Int); omega)⟩
  | k + 1 => by
    obtain ⟨j, h1, h2⟩ := bestF_inv c k
    by_cases h : (bestF c (k + 1)).2 < (c (k + 1) : Int)
    · exact ⟨k + 1, by omega, bestF_1 h⟩
    · exact ⟨j, by omega, (bestF_0 h).trans h2⟩
theorem NOK.mir {T : Tw} {N : Nw} {d : Nat} {h : Int} (hN : NOK T N) (hh : 0 ≤ h ∧ h < tH T) : NOK T (mirN N d h) := by
  refine ⟨hN.1, hN.2.1, hN.2.2.1, fun e he => ⟨(hN.2.2.2 e he).1, ?_⟩⟩
  show (if e = d then h else nMi N e) = -2 ∨ (0 ≤ (if e = d then h else nMi N e) ∧ (if e = d then h else nMi N e) < tH T)
  by_cases q : e = d
  · rw [if_pos q]; exact Or.inr hh
  · rw [if_neg q]; exact (hN.2.2.2 e he).2
theorem NOK.tak {T : Tw} {N : Nw} {d : Nat} (hN : NOK T N) : NOK T (mirN N d (-2)) := by
  refine ⟨hN.1, hN.2.1, hN.2.2.1, fun e he => ⟨(hN.2.2.2 e he).1, ?_⟩⟩
  show (if e = d then (-2 : Int) else nMi N e) = -2 ∨ (0 ≤ (if e = d then (-2 : Int) else nMi N e) ∧ (if e = d then (-2 : Int) else nMi N e) < tH T)
  by_cases q : e = d
  · rw [if_pos q]; exact Or.inl rfl
  · rw [if_neg q]; exact (hN.2.2.2 e he).2
theorem NOK.sli {T : Tw} {N : Nw} {d : Nat} {x : Int} (hN : NOK T N) (hh : 0 ≤ x ∧ x ≤ 39) : NOK T (sliN N d x) := by
  refine ⟨hN.1, hN.2.1, hN.2.2.1, fun e he => ⟨?_, (hN.2.2.2 e he).2⟩⟩
  show 0 ≤ (if e = d then x else nSl N e) ∧ (if e = d then x else nSl N e) ≤ 39
  by_cases q : e = d
  · rw [if_pos q]; exact hh
  · rw [if_neg q]; exact (hN.2.2.2 e he).1
theorem RXf.mir {f : Nat → Int} {T : Tw} {N : Nw} {d : Nat} {h : Int} (hx : RXf f T N) (hT : TOK T) (hd : d < tD T) : RXf (fun j => if j = 12 + d then h else f j) T (mirN N d h) := by
  have t5 := hT.1.2.2.2.2.1
  have t6 := hT.1.2.2.2.2.2.1
  refine ⟨fun p hp => ?_, fun e he => ⟨?_, ?_⟩, ?_⟩
  · show (if p = 12 + d then h else f p) = _
    rw [if_neg (by omega)]; exact hx.1 p hp
  · show (if 6 + e = 12 + d then h else f (6 + e)) = _
    rw [if_neg (by omega)]; exact (hx.2.1 e he).1
  · show (if 12 + e = 12 + d then h else f (12 + e)) = (if e = d then h else nMi N e)
    by_cases q : e = d
    · rw [if_pos (by omega), if_pos q]
    · rw [if_neg (by omega), if_neg q]; exact (hx.2.1 e he).2
  · show (if 18 = 12 + d then h else f 18) = _
    rw [if_neg (by omega)]; exact hx.2.2
theorem RXf.sli {f : Nat → Int} {T : Tw} {N : Nw} {d : Nat} {x : Int} (hx : RXf f T N) (hT : TOK T) (hd : d < tD T) : RXf (fun j => if j = 6 + d then x else f j) T (sliN N d x) := by
  have t5 := hT.1.2.2.2.2.1
  have t6 := hT.1.2.2.2.2.2.1
  refine ⟨fun p hp => ?_, fun e he => ⟨?_, ?_⟩, ?_⟩
  · show (if p = 6 + d then x else f p) = _
    rw [if_neg (by omega)]; exact hx.1 p hp
  · show (if 6 + e = 6 + d then x else f (6 + e)) = (if e = d then x else nSl N e)
    by_cases q : e = d
    · rw [if_pos (by omega), if_pos q]
    · rw [if_neg (by omega), if_neg q]; exact (hx.2.1 e he).1
  · show (if 12 + e = 6 + d then x else f (12 + e)) = _
    rw [if_neg (by omega)]; exact (hx.2.1 e he).2
  · show (if 18 = 6 + d then x else f 18) = _
    rw [if_neg (by omega)]; exact hx.2.2
theorem RXf.hou {f : Nat → Int} {T : Tw} {N : Nw} {p : Nat} {x : Int} (hx : RXf f T N) (hT : TOK T) (hp : p < tP T) : RXf (fun j => if j = p then x else f j) T (houN N p x) := by
  have t5 := hT.1.2.2.2.2.1
  have t6 := hT.1.2.2.2.2.2.1
  refine ⟨fun q hq => ?_, fun e he => ⟨?_, ?_⟩, ?_⟩
  · show (if q = p then x else f q) = (if q = p then x else nHo N q)
    by_cases e : q = p
    · rw [if_pos e, if_pos e]
    · rw [if_neg e, if_neg e]; exact hx.1 q hq
  · show (if 6 + e = p then x else f (6 + e)) = _
    rw [if_neg (by omega)]; exact (hx.2.1 e he).1
  · show (if 12 + e = p then x else f (12 + e)) = _
    rw [if_neg (by omega)]; exact (hx.2.1 e he).2
  · show (if 18 = p then x else f 18) = _
    rw [if_neg (by omega)]; exact hx.2.2
theorem gI_pI_fun (s : St) (a : Int) (k : Nat) (x : Int) : (fun j => gI (pI s a k x) a j) = fun j => if j = k then x else gI s a j := by
  funext j
  rw [gI_pI]
  by_cases h : j = k <;> simp [h]
section MLOOP2
variable {s : St} {T : Tw} {N : Nw} {t : Int} {d : Nat} {night aim p : Int}
theorem MW.x (h : MW T t s) (k : Nat) (x : Int) : MW T t (pI s 79 k x) := h.fr (L := fun a => a = 79) (Fr_pI rfl) (fun a ha q => by omega)
theorem WM.mir {x : Int} (h : WM T N t s) (hd : d < tD T) (hx : 0 ≤ x ∧ x < tH T) : WM T (mirN N d x) t (pI s 79 (12 + d) x) := by
  refine ⟨h.1.x _ _, h.2.1.mir hx, ?_⟩
  rw [gI_pI_fun]
  exact h.2.2.mir h.1.2.1 hd
theorem WM.sli {x : Int} (h : WM T N t s) (hd : d < tD T) (hx : 0 ≤ x ∧ x ≤ 39) : WM T (sliN N d x) t (pI s 79 (6 + d) x) := by
  refine ⟨h.1.x _ _, h.2.1.sli hx, ?_⟩
  rw [gI_pI_fun]
  exact h.2.2.sli h.1.2.1 hd
theorem Mv_x (s : St) (k : Nat) (x : Int) : Mv s (pI s 79 k x) := Mv_fr (L := fun a => a = 79) (Fr_pI rfl) (fun a ha => Or.inl ha)
theorem r_medium (hW : WM T N t s) (hn : 0 ≤ night ∧ night ≤ 99) : X13_medium_b42 FU s 76 night 0 1 = some ((bestF (fun p => hecT T N (p : Int) night) (tP T)).1, fiM 0 s) := by
  have hS := hW.1.1
  have hM := mF hW.1
  obtain ⟨t1, t2, t3, t4, t5, t6, t7, t8⟩ := hW.1.2.1.1
  have e0 : (s, (76 : Int), night, (0 : Int), (1 : Int)) = (fun k : Nat => (s, (76 : Int), night, (bestF (fun p => hecT T N (p : Int) night) (k + 1)).1, (k : Int) + 1)) 0 := by
    have := bestF_1 (c := fun p => hecT T N (p : Int) night) (k := 0) (by show (-1 : Int) < ((hecT T N ((0 : Nat) : Int) night : Nat) : Int); omega)
    simp only [this]
    rfl
  unfold X13_medium_b42
  rw [e0]
  have em : tP T = (tP T - 1) + 1 := by omega
  refine iter_run (tP T - 1) FU (fun k : Nat => (s, (76 : Int), night, (bestF (fun p => hecT T N (p : Int) night) (k + 1)).1, (k : Int) + 1)) (by unfold FU; omega) (fun k hk rec => ?_) (fun rec => ?_)
  · obtain ⟨j, j1, j2⟩ := bestF_inv (fun p => hecT T N (p : Int) night) k
    have g1 : ¬ (tP T : Int) ≤ (k : Int) + 1 := by omega
    have hk6 : k + 1 ≤ 6000 := by omega
    have e := m_heb (p := (j : Int)) hW hn
    have e2 := m_bitsH (s := s) (p := (j : Int)) (night := night) hW.1.2.1 N
    have f := m_heb (p := (k : Int) + 1) hW hn
    have f2 := m_bitsH (s := s) (p := (k : Int) + 1) (night := night) hW.1.2.1 N
    have hw := wk1 hk6
    have cst : ((k + 1 : Nat) : Int) = (k : Int) + 1 := by omega
    rw [cst] at hw
    by_cases h : (bestF (fun p => hecT T N (p : Int) night) (k + 1)).2 < ((hecT T N ((k + 1 : Nat) : Int) night : Nat) : Int)
    · have hb := bestF_1 (c := fun p => hecT T N (p : Int) night) h
      rw [j2] at h
      simp only [] at h hb
      rw [cst] at h hb
      simp [X13_medium_b42_body, X13_medium_b79, tF, isK, shF hS, hM, j2, g1, e, e2, f, f2, hb, hw, h]
      omega
    · have hb := bestF_0 (c := fun p => hecT T N (p : Int) night) h
      rw [j2] at h
      simp only [] at h hb
      rw [cst] at h
      have h' := Int.not_lt.mp h
      simp [X13_medium_b42_body, X13_medium_b79, tF, isK, shF hS, hM, j2, g1, e, e2, f, f2, hb, hw]
      omega
  · have g1 : (tP T : Int) ≤ ((tP T - 1 : Nat) : Int) + 1 := by omega
    rw [← em]
    simp [X13_medium_b42_body, tF, isK, shF hS, hM, g1, m_good hS]
theorem lis_self {q : Nat} (hT : TOK T) (hN : NOK T N) (hq : q < tP T) : lisT T N (nHo N q) = (q : Int) := by
  have hb := hN.2.1 q hq
  have hw : whoF (tP T) (nHo N) (nHo N q) = (q : Int) := by
    unfold whoF
    rw [fnd_is (k := q) hq (by simp) (fun j hj => by simp; exact hN.2.2.1 q j hq hj)]
  have e : (nHo N q + ((0 : Nat) : Int)) % (tH T : Int) = nHo N q := by
    rw [show nHo N q + ((0 : Nat) : Int) = nHo N q by simp]
    exact Int.emod_eq_of_lt hb.1 hb.2
  unfold lisT hfF
  rw [fnd_is (k := 0) (by have := hT.1.1; simp; omega) (by rw [e, hw]; simp) (fun j hj => by omega)]
  show whoF _ _ ((nHo N q + ((0 : Nat) : Int)) % (tH T : Int)) = _
  rw [e, hw]
theorem aim_ex {q : Nat} (hT : TOK T) (hN : NOK T N) (hq : q < tP T) : ∃ k, fnd (fun a => decide (lisT T N (outT T N d (a : Int) night) = (q : Int))) (tH T) = some k := by
  have hb := hN.2.1 q hq
  have t1 := hT.1.1
  have key : ∃ a : Nat, a < tH T ∧ outT T N d (a : Int) night = nHo N q := by
    unfold outT outF
    by_cases hm : nMi N d < 0
    · have m1 := Int.emod_nonneg (nHo N q - shiftF (tLaw T d) (nSl N d) night) (b := (tH T : Int)) (by omega)
      have m2 := Int.emod_lt_of_pos (nHo N q - shiftF (tLaw T d) (nSl N d) night) (b := (tH T : Int)) (by omega)
      refine ⟨((nHo N q - shiftF (tLaw T d) (nSl N d) night) % (tH T : Int)).toNat, by omega, ?_⟩
      rw [if_pos hm, Int.toNat_of_nonneg m1, Int.emod_add_emod, show nHo N q - shiftF (tLaw T d) (nSl N d) night + shiftF (tLaw T d) (nSl N d) night = nHo N q by omega]
      exact Int.emod_eq_of_lt hb.1 hb.2
    · have m1 := Int.emod_nonneg (2 * nMi N d - nHo N q - shiftF (tLaw T d) (nSl N d) night) (b := (tH T : Int)) (by omega)
      have m2 := Int.emod_lt_of_pos (2 * nMi N d - nHo N q - shiftF (tLaw T d) (nSl N d) night) (b := (tH T : Int)) (by omega)
      refine ⟨((2 * nMi N d - nHo N q - shiftF (tLaw T d) (nSl N d) night) % (tH T : Int)).toNat, by omega, ?_⟩
      rw [if_neg hm, Int.toNat_of_nonneg m1]
      have e := Int.mul_ediv_add_emod (2 * nMi N d - nHo N q - shiftF (tLaw T d) (nSl N d) night) (tH T : Int)
      generalize (2 * nMi N d - nHo N q - shiftF (tLaw T d) (nSl N d) night) / (tH T : Int) = c at e
      have e2 : 2 * nMi N d - ((2 * nMi N d - nHo N q - shiftF (tLaw T d) (nSl N d) night) % (tH T : Int) + shiftF (tLaw T d) (nSl N d) night) = nHo N q + (tH T : Int) * c := by omega
      rw [e2, Int.add_mul_emod_self_left]
      exact Int.emod_eq_of_lt hb.1 hb.2
  obtain ⟨a, a1, a2⟩ := key
  cases e : fnd (fun a => decide (lisT T N (outT T N d (a : Int) night) = (q : Int))) (tH T) with
  | some k => exact ⟨k, rfl⟩
  | none =>
    have := fnd_none e a a1
    rw [a2, lis_self hT hN hq] at this
    simp at this
theorem r_aimFor {q : Nat} (hW : WM T N t s) (hd : d < tD T) (hq : q < tP T) (hn : 0 ≤ night ∧ night ≤ 99) : X13_aimFor_b52 FU s 76 d q night 0 = some (fnV (fun a => decide (lisT T N (outT T N d (a : Int) night) = (q : Int))) (tH T) (fun k => (k : Int)), fiM 0 s) := by
  have hS := hW.1.1
  have t2 := hW.1.2.1.1.2.1
  obtain ⟨k, hk⟩ := aim_ex (d := d) (night := night) hW.1.2.1 hW.2.1 hq
  obtain ⟨k1, k2, k3⟩ := fnd_some hk
  unfold X13_aimFor_b52 fnV
  rw [hk]
  refine iter_run k FU (fun j : Nat => (s, (76 : Int), (d : Int), (q : Int), night, (j : Int))) (by unfold FU; omega) (fun j hj rec => ?_) (fun rec => ?_)
  · have h3 := k3 j hj
    simp at h3
    have hj6 : j ≤ 6000 := by omega
    have e := m_out (aim := (j : Int)) hW hd (by omega) hn
    have e2 := m_lis hW (outT_b hW.1.2.1 N d (j : Int) night)
    have hw := wk1 hj6
    simp [X13_aimFor_b52_body, tF, isK, shF hS, e, e2, h3, hw]
  · simp at k2
    have e := m_out (aim := (k : Int)) hW hd (by omega) hn
    have e2 := m_lis hW (outT_b hW.1.2.1 N d (k : Int) night)
    simp [X13_aimFor_b52_body, tF, isK, shF hS, e, e2, k2, m_good hS]
end MLOOP2
