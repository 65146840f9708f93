/-! people in each other's houses; who likes to change -/
theorem who_at {T : Tw} {N : Nw} (hN : NOK T N) {q : Nat} (hq : q < tP T) : whoF (tP T) (nHo N) (nHo N q) = (q : Int) := by
  unfold whoF
  rw [fnd_is (k := q) hq (by simp) (fun j hj => by simp; exact hN.2.2.1 q j hq hj)]
theorem who_from {np : Nat} {ho : Nat → Int} {y : Int} (h : whoF np ho y ≠ -2) : ∃ r : Nat, r < np ∧ ho r = y ∧ whoF np ho y = (r : Int) := by
  unfold whoF at h ⊢
  cases e : fnd (fun p => decide (ho p = y)) np with
  | none => rw [e] at h; exact absurd rfl h
  | some r =>
    obtain ⟨a1, a2, -⟩ := fnd_some e
    exact ⟨r, a1, by simpa using a2, rfl⟩
section PERM
variable {T : Tw} {N N2 : Nw} {σ : Nat → Nat} {night : Int} {d : Nat}
theorem lis_perm (hT : TOK T) (hN : NOK T N) (hN2 : NOK T N2) (hσ : ∀ p, p < tP T → σ p < tP T ∧ nHo N2 p = nHo N (σ p)) (hsur : ∀ r, r < tP T → ∃ p, p < tP T ∧ σ p = r) (h : Int) : ∃ q, q < tP T ∧ lisT T N2 h = (q : Int) ∧ lisT T N h = ((σ q : Nat) : Int) := by
  have t1 := hT.1.1
  have t4 := hT.1.2.2.2.1
  obtain ⟨k, hk⟩ := hf_ex (H := (tH T : Int)) (h := h) (ho := nHo N) (np := tP T) (by omega) t4 (hN.2.1 0 t4)
  obtain ⟨k1, k2, k3⟩ := fnd_some hk
  simp at k2
  obtain ⟨r, r1, r2, r3⟩ := who_from k2
  obtain ⟨p0, p1, p2⟩ := hsur r r1
  have e0 : nHo N2 p0 = (h + (k : Int)) % (tH T : Int) := by rw [(hσ p0 p1).2, p2, r2]
  have w0 : whoF (tP T) (nHo N2) ((h + (k : Int)) % (tH T : Int)) = (p0 : Int) := by rw [← e0]; exact who_at hN2 p1
  have hk2 : fnd (fun k => decide (whoF (tP T) (nHo N2) ((h + (k : Int)) % (tH T : Int)) ≠ -2)) (tH T : Int).toNat = some k := by
    refine fnd_is k1 (by rw [w0]; simp) (fun j hj => ?_)
    have h3 := k3 j hj
    simp at h3 ⊢
    refine Decidable.byContradiction fun z => ?_
    obtain ⟨r', q1, q2, q3⟩ := who_from z
    have := who_in (ho := nHo N) (hσ r' q1).1
    rw [← (hσ r' q1).2, q2] at this
    exact this h3
  refine ⟨p0, p1, ?_, ?_⟩
  · unfold lisT hfF
    rw [hk2]
    exact w0
  · unfold lisT hfF
    rw [hk, p2]
    exact r3
theorem rig_perm (hT : TOK T) (hN : NOK T N) (hN2 : NOK T N2) (hσ : ∀ p, p < tP T → σ p < tP T ∧ nHo N2 p = nHo N (σ p)) (hsur : ∀ r, r < tP T → ∃ p, p < tP T ∧ σ p = r) (hsl : nSl N2 = nSl N) (hmi : nMi N2 = nMi N) (hd : d < tD T) : rigT T N2 d night = decide (lisT T N (outT T N d (nHo N (σ (tFo T d))) night) = ((σ (tFo T d) : Nat) : Int)) := by
  have l3 := (hT.2.1 d hd).2.2
  have eo : outT T N2 d (aimT T N2 d) night = outT T N d (nHo N (σ (tFo T d))) night := by
    unfold outT aimT
    rw [hsl, hmi, (hσ _ l3).2]
  unfold rigT heaT
  rw [eo]
  obtain ⟨q, q1, q2, q3⟩ := lis_perm hT hN hN2 hσ hsur (outT T N d (nHo N (σ (tFo T d))) night)
  rw [q2, q3]
  by_cases e : q = tFo T d
  · simp [e]
  · have ne : ¬ σ q = σ (tFo T d) := by
      intro z
      have h1 := (hσ q q1).2
      have h2 := (hσ _ l3).2
      rw [z, ← h2] at h1
      rcases Nat.lt_or_gt_of_ne e with w | w
      · exact hN2.2.2.1 _ _ l3 w h1
      · exact hN2.2.2.1 _ _ q1 w h1.symm
    have e' : ¬ (q : Int) = (tFo T d : Int) := by omega
    have ne' : ¬ ((σ q : Nat) : Int) = ((σ (tFo T d) : Nat) : Int) := by omega
    simp [e', ne', e, ne]
theorem NOK.perm (hN : NOK T N) (hσ : ∀ p, p < tP T → σ p < tP T ∧ nHo N2 p = nHo N (σ p)) (hinj : ∀ p q, p < tP T → q < p → σ q ≠ σ p) (hsl : nSl N2 = nSl N) (hmi : nMi N2 = nMi N) (hn : nN N2 = nN N) : NOK T N2 := by
  refine ⟨by rw [hn]; exact hN.1, fun p hp => by rw [(hσ p hp).2]; exact hN.2.1 _ (hσ p hp).1, fun p q hp hq => ?_, fun d hd => by rw [hsl, hmi]; exact hN.2.2.2 d hd⟩
  rw [(hσ p hp).2, (hσ q (by omega)).2]
  rcases Nat.lt_or_gt_of_ne (hinj p q hp hq) with w | w
  · exact hN.2.2.1 _ _ (hσ p hp).1 w
  · exact fun z => hN.2.2.1 _ _ (hσ q (by omega)).1 w z.symm
def swp (p q j : Nat) : Nat := if j = p then q else if j = q then p else j
def swN (N : Nw) (p q : Nat) : Nw := houN (houN N p (nHo N q)) q (nHo N p)
theorem swN_ho {p q : Nat} (hpq : p ≠ q) (j : Nat) : nHo (swN N p q) j = nHo N (swp p q j) := by
  show (if j = q then nHo N p else if j = p then nHo N q else nHo N j) = nHo N (if j = p then q else if j = q then p else j)
  by_cases h1 : j = p
  · rw [if_pos h1, if_neg (by omega), if_pos h1]
  · rw [if_neg h1, if_neg h1]
    by_cases h2 : j = q
    · rw [if_pos h2, if_pos h2]
    · rw [if_neg h2, if_neg h2]
theorem swp_lt {p q j : Nat} {n : Nat} (hp : p < n) (hq : q < n) (hj : j < n) : swp p q j < n := by
  unfold swp
  split
  · exact hq
  · split
    · exact hp
    · exact hj
theorem swp_swp {p q : Nat} (hpq : p ≠ q) (j : Nat) : swp p q (swp p q j) = j := by
  unfold swp
  by_cases h1 : j = p
  · rw [if_pos h1, if_neg (by omega), if_pos rfl, h1]
  · rw [if_neg h1]
    by_cases h2 : j = q
    · rw [if_pos h2, if_pos rfl, h2]
    · rw [if_neg h2, if_neg h1, if_neg h2]
theorem NOK.sw {p q : Nat} (hN : NOK T N) (hp : p < tP T) (hq : q < tP T) (hpq : p ≠ q) : NOK T (swN N p q) :=
  hN.perm (σ := swp p q) (fun j hj => ⟨swp_lt hp hq hj, swN_ho hpq j⟩) (fun a b ha hb z => by
    have := congrArg (swp p q) z
    rw [swp_swp hpq, swp_swp hpq] at this
    omega) rfl rfl rfl
def rfoT (T : Tw) (N : Nw) (p q : Nat) (night : Int) (D : Nat) : Nat := cnt (fun d => decide (tFo T d = p ∨ tFo T d = q) && rigT T N d night) D
theorem rf_same (hT : TOK T) {p q : Nat} (hpq : p ≠ q) : ∀ D, D ≤ tD T → rfoT T N p q night D = wrD T N night p p D + wrD T N night q q D
  | 0, _ => rfl
  | D + 1, h => by
    have ih := rf_same hT hpq D (by omega)
    have e : rfoT T N p q night (D + 1) = rfoT T N p q night D + (if (decide (tFo T D = p ∨ tFo T D = q) && rigT T N D night) = true then 1 else 0) := rfl
    have er : rigT T N D night = decide (lisT T N (outT T N D (nHo N (tFo T D)) night) = (tFo T D : Int)) := rfl
    rw [e, wrD_s, wrD_s, ih, er]
    by_cases h1 : tFo T D = p
    · have h2 : ¬ tFo T D = q := by omega
      by_cases h3 : lisT T N (outT T N D (nHo N p) night) = (p : Int)
      · simp [h1, h3, hpq]; omega
      · simp [h1, h3, hpq]
    · by_cases h2 : tFo T D = q
      · by_cases h3 : lisT T N (outT T N D (nHo N q) night) = (q : Int)
        · simp [h2, h3, Ne.symm hpq]; omega
        · simp [h2, h3, Ne.symm hpq]
      · simp [h1, h2]
theorem rf_swap (hT : TOK T) (hN : NOK T N) {p q : Nat} (hp : p < tP T) (hq : q < tP T) (hpq : p ≠ q) : ∀ D, D ≤ tD T → rfoT T (swN N p q) p q night D = wrD T N night p q D + wrD T N night q p D
  | 0, _ => rfl
  | D + 1, h => by
    have ih := rf_swap hT hN hp hq hpq D (by omega)
    have e : rfoT T (swN N p q) p q night (D + 1) = rfoT T (swN N p q) p q night D + (if (decide (tFo T D = p ∨ tFo T D = q) && rigT T (swN N p q) D night) = true then 1 else 0) := rfl
    have er := rig_perm (σ := swp p q) (night := night) (d := D) hT hN (hN.sw hp hq hpq) (fun j hj => ⟨swp_lt hp hq hj, swN_ho hpq j⟩) (fun r hr => ⟨swp p q r, swp_lt hp hq hr, swp_swp hpq r⟩) rfl rfl (by omega)
    rw [e, wrD_s, wrD_s, ih, er]
    by_cases h1 : tFo T D = p
    · have hs : swp p q (tFo T D) = q := by unfold swp; rw [if_pos h1]
      rw [hs]
      by_cases h3 : lisT T N (outT T N D (nHo N q) night) = (q : Int)
      · simp [h1, h3, hpq]; omega
      · simp [h1, h3, hpq]
    · by_cases h2 : tFo T D = q
      · have hs : swp p q (tFo T D) = p := by unfold swp; rw [if_neg h1, if_pos h2]
        rw [hs]
        by_cases h3 : lisT T N (outT T N D (nHo N p) night) = (p : Int)
        · simp [h2, h3, Ne.symm hpq]; omega
        · simp [h2, h3, Ne.symm hpq]
      · simp [h1, h2]
end PERM
def likB (T : Tw) (N : Nw) (night : Int) (p q : Nat) : Bool := decide (wrT T N night p p + wrT T N night q q < wrT T N night p q + wrT T N night q p)
theorem likB_sym (T : Tw) (N : Nw) (night : Int) (p q : Nat) : likB T N night p q = likB T N night q p := by
  unfold likB
  rw [Nat.add_comm (wrT T N night p p), Nat.add_comm (wrT T N night p q)]
section LIKES
variable {s : St} {T : Tw} {N : Nw} {t : Int} {night : Int} {p q : Nat}
theorem worthOf_e (hS : Sh s) (hT : TOK T) (hw : WTH s T N night) (hp : p < tP T) (hq : q < tP T) : X5_worthOf s 47 p q = some ((wrT T N night p q : Int), s) := by
  have t5 := hT.1.2.2.2.2.1
  have e := hw.2 p hp q hq
  have i1 : ((p : Int) * 6 + (q : Int)).toNat = p * 6 + q := by omega
  have i2 : (0 : Int) ≤ (p : Int) * 6 + (q : Int) := by omega
  have i3 : (p : Int) * 6 + (q : Int) < 36 := by omega
  have w6 : w32 ((p : Int) * 6) = (p : Int) * 6 := w32e (by omega)
  have w7 : w32 ((p : Int) * 6 + (q : Int)) = (p : Int) * 6 + (q : Int) := w32e (by clear w6; omega)
  unfold X5_worthOf
  simp [tF, isK, shF hS, w6, w7, i1, i2, i3, e]
theorem wrT_b (hT : TOK T) (N : Nw) (night : Int) (p q : Nat) : wrT T N night p q ≤ 6 := Nat.le_trans (wrD_b p q _) hT.1.2.2.2.2.2.1
theorem c_liked (hS : Sh s) (hT : TOK T) (hw : WTH s T N night) (hp : p < tP T) (hq : q < tP T) : X5_isLiked s 47 p q = some (if likB T N night p q = true then 1 else 0, s) := by
  have e1 := worthOf_e hS hT hw hp hq
  have e2 := worthOf_e hS hT hw hq hp
  have e3 := worthOf_e hS hT hw hp hp
  have e4 := worthOf_e hS hT hw hq hq
  have b1 := wrT_b hT N night p q
  have b2 := wrT_b hT N night q p
  have b3 := wrT_b hT N night p p
  have b4 := wrT_b hT N night q q
  have w1 : w32 ((wrT T N night p q : Int) + (wrT T N night q p : Int)) = (wrT T N night p q : Int) + (wrT T N night q p : Int) := w32e (by omega)
  have w2 : w32 ((wrT T N night p p : Int) + (wrT T N night q q : Int)) = (wrT T N night p p : Int) + (wrT T N night q q : Int) := w32e (by clear w1; omega)
  unfold X5_isLiked likB
  by_cases y : wrT T N night p p + wrT T N night q q < wrT T N night p q + wrT T N night q p
  · have y2 : ¬ (wrT T N night p q : Int) + (wrT T N night q p : Int) ≤ (wrT T N night p p : Int) + (wrT T N night q q : Int) := by clear w1 w2; omega
    simp [tF, isK, shF hS, e1, e2, e3, e4, w1, w2, y, y2, X5_isLiked_b34]
  · have y2 : (wrT T N night p q : Int) + (wrT T N night q p : Int) ≤ (wrT T N night p p : Int) + (wrT T N night q q : Int) := by clear w1 w2; omega
    simp [tF, isK, shF hS, e1, e2, e3, e4, w1, w2, y, y2, X5_isLiked_b34]
theorem m_rightFor (hW : WM T N t s) (hn : 0 ≤ night ∧ night ≤ 99) : X13_rightFor s 76 p q night = some ((rfoT T N p q night (tD T) : Int), s) := by
  have hS := hW.1.1
  have hM := mF hW.1
  have t6 := hW.1.2.1.1.2.2.2.2.2.1
  unfold X13_rightFor X13_rightFor_b6
  refine iter_run (tD T) FU (fun k : Nat => (s, (76 : Int), (p : Int), (q : Int), night, ((rfoT T N p q night k : Nat) : Int), (k : Int))) (fuel7 (by omega)) (fun k hk rec => ?_) (fun rec => ?_)
  · have hg : ¬ tD T ≤ k := by clear hM; omega
    have hg2 : (k : Int) < 6 := by clear hM; omega
    have hk6 : k ≤ 6000 := by clear hM; omega
    have e := (hW.1.2.2.2.2.2.1 k hk).2
    have er := m_right hW hk hn
    have es : rfoT T N p q night (k + 1) = rfoT T N p q night k + (if (decide (tFo T k = p ∨ tFo T k = q) && rigT T N k night) = true then 1 else 0) := rfl
    have hc6 : rfoT T N p q night k ≤ 6000 := by
      have := cnt_le (fun d => decide (tFo T d = p ∨ tFo T d = q) && rigT T N d night) k
      unfold rfoT
      clear hM
      omega
    have hw := wk1 hk6
    have hw1 := wk1 hc6
    have hw0 := wk0 hc6
    by_cases h1 : tFo T k = p <;> by_cases h2 : tFo T k = q <;> by_cases h3 : rigT T N k night = true <;>
    (have h1' : ((tFo T k : Nat) : Int) = (p : Int) ↔ tFo T k = p := by clear hM hw hw1 hw0; omega
     have h2' : ((tFo T k : Nat) : Int) = (q : Int) ↔ tFo T k = q := by clear hM hw hw1 hw0; omega
     simp only [X13_rightFor_b6_body, X13_rightFor_b48, X13_rightFor_b62, X13_rightFor_b63, tF, isK, shF hS, hM, Int.toNat_natCast, e, er, es]
     simp [hg, hg2, h1, h2, h3, hw, hw1, hw0]
     try simp_all)
  · simp [X13_rightFor_b6_body, tF, isK, shF hS, hM]
theorem m_liked (hM : MW T t s) (hN : NOK T N) (hx : RXf (fun j => gI s 78 j) T N) (hp : p < tP T) (hq : q < tP T) (hpq : p ≠ q) (hn : 0 ≤ night ∧ night ≤ 99) : ∃ s1, X13_isLiked s 76 p q night = some (if likB T N night p q = true then 1 else 0, s1) ∧ Mv s s1 := by
  have hT := hM.2.1
  have hS := hM.1
  have t5 := hT.1.2.2.2.2.1
  have hX : WM T N t (wk s) := by
    have := wk_world hM hN hx 0 (gI s 76 0)
    rw [pI_self] at this
    exact this
  have x1 : gI (wk s) 78 p = nHo N p := hx.1 p hp
  have x2 : gI (wk s) 78 q = nHo N q := hx.1 q hq
  have hX2 : WM T (swN N p q) t (pI (pI (wk s) 79 p (nHo N q)) 79 q (nHo N p)) := by
    refine ⟨(hX.1.x _ _).x _ _, hN.sw hp hq hpq, ?_⟩
    rw [gI_pI_fun]
    refine RXf.hou (f := fun j => gI (pI (wk s) 79 p (nHo N q)) 79 j) ?_ hT hq
    rw [gI_pI_fun]
    exact hX.2.2.hou hT hp
  have e1 := m_rightFor (p := p) (q := q) hX hn
  have e2 := m_rightFor (p := p) (q := q) hX2 hn
  rw [rf_same hT hpq _ (Nat.le_refl _)] at e1
  rw [rf_swap hT hN hp hq hpq _ (Nat.le_refl _)] at e2
  have x3 : gI (pI (wk s) 79 p (nHo N q)) 78 p = nHo N p := by rw [gI_pI, if_neg (by simp)]; exact x1
  have g1 : (p : Int) < 19 := by omega
  have g2 : (q : Int) < 19 := by omega
  refine ⟨pI (pI (wk s) 79 p (nHo N q)) 79 q (nHo N p), ?_, ((Mv_wk s).trans (Mv_x _ _ _)).trans (Mv_x _ _ _)⟩
  unfold X13_isLiked likB wrT
  by_cases y : wrD T N night p p (tD T) + wrD T N night q q (tD T) < wrD T N night p q (tD T) + wrD T N night q p (tD T)
  · have y2 : ¬ ((wrD T N night p q (tD T) + wrD T N night q p (tD T) : Nat) : Int) ≤ ((wrD T N night p p (tD T) + wrD T N night q q (tD T) : Nat) : Int) := by omega
    have y3 : ¬ wrD T N night p q (tD T) + wrD T N night q p (tD T) ≤ wrD T N night p p (tD T) + wrD T N night q q (tD T) := by omega
    simp only [tF, wkF, isK, shF hS, m_works hS, e1, Int.toNat_natCast, x1, x2, x3, e2]
    simp [g1, g2, y, X13_isLiked_b54]
    rw [if_neg (by omega)]
    rfl
  · have y2 : ((wrD T N night p q (tD T) + wrD T N night q p (tD T) : Nat) : Int) ≤ ((wrD T N night p p (tD T) + wrD T N night q q (tD T) : Nat) : Int) := by omega
    simp only [tF, wkF, isK, shF hS, m_works hS, e1, Int.toNat_natCast, x1, x2, x3, e2]
    simp [g1, g2, y, X13_isLiked_b54]
    rw [if_pos (by omega)]
    rfl
end LIKES
