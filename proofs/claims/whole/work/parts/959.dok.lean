/-! what is told stays in its bounds; the place goes on -/
section DOKS
variable {n : Nat} {b : Nat → Int} {q : PQ} {D : DR}
theorem dok_T {H L : Nat} (hO : DOK D) (h0 : tH (dT D) = 0) (hH : 2 ≤ H ∧ H ≤ 40) (hL : L ≤ 100) : DOK (adT D H L) := by
  obtain ⟨⟨o1, o2, o3⟩, ⟨p1, p2, p3⟩, ⟨r1, r2, r3, r4⟩, d1, d2, d3, d4, d5⟩ := hO
  obtain ⟨z1, z2, z3, z4⟩ := o1 h0
  refine ⟨⟨fun z => ?_, fun _ => hH.1, ⟨hH.2, hL, o3.2.2⟩⟩, ⟨p1, p2, p3⟩, ⟨r1, fun p hp => ?_, r3, fun d hd => ?_⟩, d1, d2, d3, d4, d5⟩
  · have : H = 0 := z
    omega
  · have hp' : p < tP (dT D) := hp
    omega
  · have hd' : d < tD (dT D) := hd
    omega
theorem fnd_isn {P : Nat → Bool} {m : Nat} (h : (fnd P m).isSome = false) : ∀ j, j < m → P j = false := by
  cases e : fnd P m with
  | none => exact fnd_none e
  | some k => rw [e] at h; cases h
theorem tl_no {K : Nat} (h : tlB D K = false) : (∀ p, p < tP (dT D) → dPn D p ≠ K) ∧ ∀ d, d < tD (dT D) → dDn D d ≠ K := by
  unfold tlB at h
  rw [Bool.or_eq_false_iff] at h
  exact ⟨fun p hp z => by have := fnd_isn h.1 p hp; simp [z] at this, fun d hd z => by have := fnd_isn h.2 d hd; simp [z] at this⟩
theorem nm_new {K : Nat} (hO : DOK D) (h : tlB D K = false) : ∀ k, k < tP (dT D) + tD (dT D) → (dNm D k).1 ≠ K := by
  obtain ⟨t1, t2⟩ := tl_no h
  intro k hk
  rcases hO.2.2.2.2.1 k hk with ⟨a1, a2, a3⟩ | ⟨a1, a2, a3⟩
  · rw [a3]; exact t1 _ a2
  · rw [a3]; exact t2 _ a2
theorem dok_P {K : Nat} {h : Int} (hO : DOK D) (h0 : tH (dT D) ≠ 0) (hp : tP (dT D) < 6) (hv : vdK 8 K) (ht : tlB D K = false) (hh : 0 ≤ h ∧ h < tH (dT D)) (hk : tkB D h = false) : DOK (adP D K h) := by
  have hnew := nm_new hO ht
  obtain ⟨⟨o1, o2, o3⟩, ⟨p1, p2, p3⟩, ⟨r1, r2, r3, r4⟩, ⟨d1, d1'⟩, d2, d3, d4, d5⟩ := hO
  have nk : ∀ p, p < tP (dT D) → nHo (tN (dT D)) p ≠ h := fun p hp z => by
    unfold tkB at hk
    have := fnd_isn hk p hp
    simp [z] at this
  have e1 : tP (dT (adP D K h)) = tP (dT D) + 1 := rfl
  have e2 : tD (dT (adP D K h)) = tD (dT D) := rfl
  have en : ∀ k, dNm (adP D K h) k = if k = tP (dT D) + tD (dT D) then (K, 0, tP (dT D)) else dNm D k := fun _ => rfl
  have ep : ∀ k, dPn (adP D K h) k = if k = tP (dT D) then K else dPn D k := fun _ => rfl
  have ed : ∀ k, dDn (adP D K h) k = dDn D k := fun _ => rfl
  have eh : ∀ k, nHo (tN (dT (adP D K h))) k = if k = tP (dT D) then h else nHo (tN (dT D)) k := fun _ => rfl
  refine ⟨⟨fun z => absurd z h0, o2, ?_⟩, ⟨fun d hd => ?_, p2, p3⟩, ⟨r1, fun p hp => ?_, fun p p' hp hp2 => ?_, r4⟩, ⟨fun p hp => ?_, d1'⟩, fun k hk => ?_, fun p hp => ?_, fun d hd => ?_, fun j k hj hk => ?_⟩
  · refine ⟨o3.1, o3.2.1, ?_, o3.2.2.2⟩
    rw [e1]; omega
  · have := p1 d hd
    refine ⟨this.1, this.2.1, ?_⟩
    show tFo (dT D) d < tP (dT D) + 1
    omega
  · rw [e1] at hp
    rw [eh]
    show 0 ≤ (if p = tP (dT D) then h else nHo (tN (dT D)) p) ∧ (if p = tP (dT D) then h else nHo (tN (dT D)) p) < (tH (dT D) : Int)
    by_cases z : p = tP (dT D)
    · rw [if_pos z]; exact hh
    · rw [if_neg z]; exact r2 p (by omega)
  · rw [e1] at hp
    rw [eh, eh]
    by_cases z : p = tP (dT D)
    · rw [if_pos z, if_neg (by omega)]; exact nk p' (by omega)
    · rw [if_neg z, if_neg (by omega)]; exact r3 p p' (by omega) hp2
  · rw [e1] at hp
    rw [ep]
    by_cases z : p = tP (dT D)
    · rw [if_pos z]; exact hv
    · rw [if_neg z]; exact d1 p (by omega)
  · rw [e1, e2] at hk
    rw [en, e1, e2]
    by_cases z : k = tP (dT D) + tD (dT D)
    · rw [if_pos z]
      refine Or.inl ⟨rfl, Nat.lt_succ_self _, ?_⟩
      rw [ep, if_pos rfl]
    · rw [if_neg z]
      rcases d2 k (by omega) with ⟨a1, a2, a3⟩ | ⟨a1, a2, a3⟩
      · refine Or.inl ⟨a1, by omega, ?_⟩
        rw [ep, if_neg (by omega)]; exact a3
      · exact Or.inr ⟨a1, a2, a3⟩
  · rw [e1] at hp
    rw [e1, e2, ep]
    by_cases z : p = tP (dT D)
    · refine ⟨tP (dT D) + tD (dT D), by omega, ?_⟩
      rw [en, if_pos rfl, if_pos z, z]
    · obtain ⟨k, k1, k2⟩ := d3 p (by omega)
      refine ⟨k, by omega, ?_⟩
      rw [en, if_neg (by omega), if_neg z]; exact k2
  · rw [e2] at hd
    rw [e1, e2, ed]
    obtain ⟨k, k1, k2⟩ := d4 d hd
    refine ⟨k, by omega, ?_⟩
    rw [en, if_neg (by omega)]; exact k2
  · rw [e1, e2] at hk
    rw [en, en]
    by_cases z : k = tP (dT D) + tD (dT D)
    · rw [if_pos z, if_neg (by omega)]; exact hnew j (by omega)
    · rw [if_neg z, if_neg (by omega)]; exact d5 j k hj (by omega)
theorem dok_D {K fo : Nat} {law sl : Int} (hO : DOK D) (h0 : tH (dT D) ≠ 0) (hp : tD (dT D) < 6) (hv : vdK 8 K) (ht : tlB D K = false) (hl : 0 ≤ law ∧ law ≤ 3) (hs : 0 ≤ sl ∧ sl ≤ 39) (hf : fo < tP (dT D)) : DOK (adD D K law sl fo) := by
  have hnew := nm_new hO ht
  obtain ⟨⟨o1, o2, o3⟩, ⟨p1, p2, p3⟩, ⟨r1, r2, r3, r4⟩, ⟨d1, d1'⟩, d2, d3, d4, d5⟩ := hO
  have e1 : tP (dT (adD D K law sl fo)) = tP (dT D) := rfl
  have e2 : tD (dT (adD D K law sl fo)) = tD (dT D) + 1 := rfl
  have en : ∀ k, dNm (adD D K law sl fo) k = if k = tP (dT D) + tD (dT D) then (K, 1, tD (dT D)) else dNm D k := fun _ => rfl
  have ep : ∀ k, dPn (adD D K law sl fo) k = dPn D k := fun _ => rfl
  have ed : ∀ k, dDn (adD D K law sl fo) k = if k = tD (dT D) then K else dDn D k := fun _ => rfl
  refine ⟨⟨fun z => absurd z h0, o2, ?_⟩, ⟨fun d hd => ?_, fun k hk => ?_, fun k hk => ?_⟩, ⟨r1, r2, r3, fun d hd => ?_⟩, ⟨d1, fun d hd => ?_⟩, fun k hk => ?_, fun p hp => ?_, fun d hd => ?_, fun j k hj hk => ?_⟩
  · refine ⟨o3.1, o3.2.1, o3.2.2.1, ?_, o3.2.2.2.2⟩
    rw [e2]; omega
  · rw [e2] at hd
    show 0 ≤ (if d = tD (dT D) then law else tLaw (dT D) d) ∧ (if d = tD (dT D) then law else tLaw (dT D) d) ≤ 3 ∧ (if d = tD (dT D) then fo else tFo (dT D) d) < tP (dT D)
    by_cases z : d = tD (dT D)
    · rw [if_pos z, if_pos z]; exact ⟨hl.1, hl.2, hf⟩
    · rw [if_neg z, if_neg z]; exact p1 d (by omega)
  · have := p2 k hk
    refine ⟨?_, this.2⟩
    show tUd (dT D) k < tD (dT D) + 1
    omega
  · have := p3 k hk
    refine ⟨?_, this.2⟩
    show tQd (dT D) k < tD (dT D) + 1
    omega
  · rw [e2] at hd
    show (0 ≤ (if d = tD (dT D) then sl else nSl (tN (dT D)) d) ∧ (if d = tD (dT D) then sl else nSl (tN (dT D)) d) ≤ 39) ∧ ((if d = tD (dT D) then -2 else nMi (tN (dT D)) d) = -2 ∨ (0 ≤ (if d = tD (dT D) then -2 else nMi (tN (dT D)) d) ∧ (if d = tD (dT D) then -2 else nMi (tN (dT D)) d) < (tH (dT D) : Int)))
    by_cases z : d = tD (dT D)
    · rw [if_pos z, if_pos z]; exact ⟨hs, Or.inl rfl⟩
    · rw [if_neg z, if_neg z]; exact r4 d (by omega)
  · rw [e2] at hd
    rw [ed]
    by_cases z : d = tD (dT D)
    · rw [if_pos z]; exact hv
    · rw [if_neg z]; exact d1' d (by omega)
  · rw [e1, e2] at hk
    rw [en, e1, e2]
    by_cases z : k = tP (dT D) + tD (dT D)
    · rw [if_pos z]
      refine Or.inr ⟨rfl, Nat.lt_succ_self _, ?_⟩
      rw [ed, if_pos rfl]
    · rw [if_neg z]
      rcases d2 k (by omega) with ⟨a1, a2, a3⟩ | ⟨a1, a2, a3⟩
      · exact Or.inl ⟨a1, a2, a3⟩
      · refine Or.inr ⟨a1, by omega, ?_⟩
        rw [ed, if_neg (by omega)]; exact a3
  · rw [e1] at hp
    rw [e1, e2, ep]
    obtain ⟨k, k1, k2⟩ := d3 p hp
    refine ⟨k, by omega, ?_⟩
    rw [en, if_neg (by omega)]; exact k2
  · rw [e2] at hd
    rw [e1, e2, ed]
    by_cases z : d = tD (dT D)
    · refine ⟨tP (dT D) + tD (dT D), by omega, ?_⟩
      rw [en, if_pos rfl, if_pos z, z]
    · obtain ⟨k, k1, k2⟩ := d4 d (by omega)
      refine ⟨k, by omega, ?_⟩
      rw [en, if_neg (by omega), if_neg z]; exact k2
  · rw [e1, e2] at hk
    rw [en, en]
    by_cases z : k = tP (dT D) + tD (dT D)
    · rw [if_pos z, if_neg (by omega)]; exact hnew j (by omega)
    · rw [if_neg z, if_neg (by omega)]; exact d5 j k hj (by omega)
theorem dok_M {d : Nat} {h : Int} (hO : DOK D) (hh : 0 ≤ h ∧ h < tH (dT D)) : DOK (adM D d h) := by
  obtain ⟨o, p, ⟨r1, r2, r3, r4⟩, dd⟩ := hO
  refine ⟨o, p, ⟨r1, r2, r3, fun e he => ?_⟩, dd⟩
  have := r4 e he
  refine ⟨this.1, ?_⟩
  show (if e = d then h else nMi (tN (dT D)) e) = -2 ∨ (0 ≤ (if e = d then h else nMi (tN (dT D)) e) ∧ (if e = d then h else nMi (tN (dT D)) e) < (tH (dT D) : Int))
  by_cases z : e = d
  · rw [if_pos z]; exact Or.inr hh
  · rw [if_neg z]; exact this.2
theorem dok_U {d : Nat} {sl : Int} (hO : DOK D) (h0 : tH (dT D) ≠ 0) (hu : tU (dT D) < 4) (hd : d < tD (dT D)) (hs : 0 ≤ sl ∧ sl ≤ 39) : DOK (adU D d sl) := by
  obtain ⟨⟨o1, o2, o3⟩, ⟨p1, p2, p3⟩, r, dd⟩ := hO
  refine ⟨⟨fun z => absurd z h0, o2, ⟨o3.1, o3.2.1, o3.2.2.1, o3.2.2.2.1, ?_, o3.2.2.2.2.2⟩⟩, ⟨p1, fun k hk => ?_, p3⟩, r, dd⟩
  · show tU (dT D) + 1 ≤ 4; omega
  · have hk' : k < tU (dT D) + 1 := hk
    show (if k = tU (dT D) then d else tUd (dT D) k) < tD (dT D) ∧ 0 ≤ (if k = tU (dT D) then sl else tUs (dT D) k) ∧ (if k = tU (dT D) then sl else tUs (dT D) k) ≤ 39
    by_cases z : k = tU (dT D)
    · rw [if_pos z, if_pos z]; exact ⟨hd, hs⟩
    · rw [if_neg z, if_neg z]; exact p2 k (by omega)
theorem dok_Q {p : Int} {d : Nat} {nt : Int} (hO : DOK D) (h0 : tH (dT D) ≠ 0) (hu : tQ (dT D) < 8) (hd : d < tD (dT D)) (hs : 0 ≤ nt ∧ nt ≤ 60) : DOK (adQ D p d nt) := by
  obtain ⟨⟨o1, o2, o3⟩, ⟨p1, p2, p3⟩, r, dd⟩ := hO
  refine ⟨⟨fun z => absurd z h0, o2, ⟨o3.1, o3.2.1, o3.2.2.1, o3.2.2.2.1, o3.2.2.2.2.1, ?_⟩⟩, ⟨p1, p2, fun k hk => ?_⟩, r, dd⟩
  · show tQ (dT D) + 1 ≤ 8; omega
  · have hk' : k < tQ (dT D) + 1 := hk
    show (if k = tQ (dT D) then d else tQd (dT D) k) < tD (dT D) ∧ 0 ≤ (if k = tQ (dT D) then nt else tQn (dT D) k) ∧ (if k = tQ (dT D) then nt else tQn (dT D) k) ≤ 60
    by_cases z : k = tQ (dT D)
    · rw [if_pos z, if_pos z]; exact ⟨hd, hs⟩
    · rw [if_neg z, if_neg z]; exact p3 k (by omega)
theorem lawN_b (i : Nat) : lawN n b i ≤ 3 := by
  unfold lawN
  repeat' split
  all_goals decide
/-- a line's end: live, it is further on, and all is in its bounds -/
def LnG (n : Nat) (b : Nat → Int) (D : DR) (q : PQ) (r : PQ × DR) : Prop := DOK r.2 ∧ (r.1.1 = 0 → q.1 = 0 ∧ q.2.2.1 ≤ r.1.2.2.1 ∧ r.1.2.2.1 ≤ n)
theorem stp {i j : Nat} (hi : i ≤ n) (hj : j = tkX n b i) : i ≤ j ∧ j ≤ n := by
  have h1 := tkX_ok (b := b) hi
  have h2 := tkP_ok (b := b) hi
  omega
theorem g_lnTown (hO : DOK D) (hi : q.2.2.1 ≤ n) : LnG n b D q (lnTown n b D q) := by
  unfold lnTown
  by_cases z : (tw5 n b D q).1 = 0
  · obtain ⟨z4, z4h, z4r, z4i⟩ := qW_l (q := tw4 n b D q) z
    obtain ⟨z3, -, z3i⟩ := qS_l (q := tw3 n b D q) z4
    obtain ⟨z2, z2h, z2r, z2i⟩ := qW_l (q := tw2 n b D q) z3
    obtain ⟨z1, -, z1i⟩ := qS_l (q := tw1 n b D q) z2
    obtain ⟨z0, -, z0i⟩ := qS_l (q := qP n b (decide (tH (dT D) ≠ 0)) 3 q) z1
    obtain ⟨y0, y1, y2⟩ := qP_l (q := q) (by decide) z0
    have z0j : (tw1 n b D q).2.2.1 = tkX n b q.2.2.1 := z0i.trans (by rw [y2])
    have h0 := stp (b := b) hi z0j
    have h1 := stp (b := b) h0.2 z1i
    have h2 := stp (b := b) h1.2 z2i
    have h3 := stp (b := b) h2.2 z3i
    have h4 := stp (b := b) h3.2 z4i
    rw [if_pos z]
    refine ⟨dok_T hO (by simpa using y1) (by omega) (by omega), fun _ => ⟨y0, ?_, h4.2⟩⟩
    have a0 : q.2.2.1 ≤ (tw1 n b D q).2.2.1 := h0.1
    have a1 : (tw1 n b D q).2.2.1 ≤ (tw2 n b D q).2.2.1 := h1.1
    have a2 : (tw2 n b D q).2.2.1 ≤ (tw3 n b D q).2.2.1 := h2.1
    have a3 : (tw3 n b D q).2.2.1 ≤ (tw4 n b D q).2.2.1 := h3.1
    have a4 : (tw4 n b D q).2.2.1 ≤ (tw5 n b D q).2.2.1 := h4.1
    show q.2.2.1 ≤ (tw5 n b D q).2.2.1
    omega
  · rw [if_neg z]; exact ⟨hO, fun w => absurd w z⟩
theorem g_lnPers (hO : DOK D) (hi : q.2.2.1 ≤ n) : LnG n b D q (lnPers n b D q) := by
  unfold lnPers
  by_cases z : (pr5 n b D q).1 = 0
  · obtain ⟨z4, z4t, z4e⟩ := qF_l (q := pr4 n b D q) (by decide) z
    obtain ⟨z3, z3h, z3r, z3i⟩ := qW_l (q := pr3 n b D q) z4
    obtain ⟨z2, -, z2i⟩ := qS_l (q := pr2 n b D q) z3
    obtain ⟨z1, z1n, z1t, z1i⟩ := qNew_l (q := pr1 n b D q) z2
    obtain ⟨z0, zH, zf, z0i⟩ := qB_l (q := q) z1
    have h0 := stp (b := b) hi z0i
    have h1 := stp (b := b) h0.2 z1i
    have h2 := stp (b := b) h1.2 z2i
    have h3 := stp (b := b) h2.2 z3i
    rw [if_pos z]
    refine ⟨dok_P hO zH (by simpa using zf) (nm_vd h0.2 z1n) z1t (by omega) z4t, fun _ => ⟨z0, ?_, ?_⟩⟩
    · have a0 : q.2.2.1 ≤ (pr1 n b D q).2.2.1 := h0.1
      have a1 : (pr1 n b D q).2.2.1 ≤ (pr2 n b D q).2.2.1 := h1.1
      have a2 : (pr2 n b D q).2.2.1 ≤ (pr3 n b D q).2.2.1 := h2.1
      have a3 : (pr3 n b D q).2.2.1 ≤ (pr4 n b D q).2.2.1 := h3.1
      have a4 : pr5 n b D q = pr4 n b D q := z4e
      show q.2.2.1 ≤ (pr5 n b D q).2.2.1
      rw [a4]; omega
    · have a4 : pr5 n b D q = pr4 n b D q := z4e
      show (pr5 n b D q).2.2.1 ≤ n
      rw [a4]; exact h3.2
  · rw [if_neg z]; exact ⟨hO, fun w => absurd w z⟩
theorem g_lnDead (hO : DOK D) (hi : q.2.2.1 ≤ n) : LnG n b D q (lnDead n b D q) := by
  unfold lnDead
  by_cases z : (dd7 n b D q).1 = 0
  · obtain ⟨z6, z6n, z6s, z6i⟩ := qKn_l (q := dd6 n b D q) z
    obtain ⟨z5, -, z5i⟩ := qS_l (q := dd5 n b D q) z6
    obtain ⟨z4, z4h, z4r, z4i⟩ := qW_l (q := dd4 n b D q) z5
    obtain ⟨z3, -, z3i⟩ := qS_l (q := dd3 n b D q) z4
    obtain ⟨z2, z2l, z2i⟩ := qS_l (q := dd2 n b D q) z3
    obtain ⟨z1, z1n, z1t, z1i⟩ := qNew_l (q := dd1 n b D q) z2
    obtain ⟨z0, zH, zf, z0i⟩ := qB_l (q := q) z1
    have h0 := stp (b := b) hi z0i
    have h1 := stp (b := b) h0.2 z1i
    have h2 := stp (b := b) h1.2 z2i
    have h3 := stp (b := b) h2.2 z3i
    have h4 := stp (b := b) h3.2 z4i
    have h5 := stp (b := b) h4.2 z5i
    have h6 := stp (b := b) h5.2 z6i
    have lb := lawN_b (n := n) (b := b) (dd2 n b D q).2.2.1
    have l0 : 0 ≤ lawN n b (dd2 n b D q).2.2.1 := by simpa using z2l
    rw [if_pos z]
    cases hf : fnP D (tkY n b (dd6 n b D q).2.2.1) with
    | none => rw [hf] at z6s; cases z6s
    | some p =>
      refine ⟨dok_D hO zH (by simpa using zf) (nm_vd h0.2 z1n) z1t ⟨l0, lb⟩ z4r (fnd_some hf).1, fun _ => ⟨z0, ?_, h6.2⟩⟩
      have a0 : q.2.2.1 ≤ (dd1 n b D q).2.2.1 := h0.1
      have a1 : (dd1 n b D q).2.2.1 ≤ (dd2 n b D q).2.2.1 := h1.1
      have a2 : (dd2 n b D q).2.2.1 ≤ (dd3 n b D q).2.2.1 := h2.1
      have a3 : (dd3 n b D q).2.2.1 ≤ (dd4 n b D q).2.2.1 := h3.1
      have a4 : (dd4 n b D q).2.2.1 ≤ (dd5 n b D q).2.2.1 := h4.1
      have a5 : (dd5 n b D q).2.2.1 ≤ (dd6 n b D q).2.2.1 := h5.1
      have a6 : (dd6 n b D q).2.2.1 ≤ (dd7 n b D q).2.2.1 := h6.1
      show q.2.2.1 ≤ (dd7 n b D q).2.2.1
      omega
  · rw [if_neg z]; exact ⟨hO, fun w => absurd w z⟩
theorem g_lnMirr (hO : DOK D) (hi : q.2.2.1 ≤ n) : LnG n b D q (lnMirr n b D q) := by
  unfold lnMirr
  by_cases z : (mr4 n b D q).1 = 0
  · obtain ⟨z3, z3h, z3r, z3i⟩ := qW_l (q := mr3 n b D q) z
    obtain ⟨z2, z2m, z2e⟩ := qF_l (q := mr2 n b D q) (by decide) z3
    obtain ⟨z1, z1n, z1s, z1i⟩ := qKn_l (q := mr1 n b D q) z2
    obtain ⟨z0, zH, zf, z0i⟩ := qB_l (q := q) z1
    have e3 : mr3 n b D q = mr2 n b D q := z2e
    have h0 := stp (b := b) hi z0i
    have h1 := stp (b := b) h0.2 z1i
    have h3 := stp (b := b) (i := (mr3 n b D q).2.2.1) (by rw [e3]; exact h1.2) z3i
    rw [if_pos z]
    refine ⟨dok_M hO (by omega), fun _ => ⟨z0, ?_, h3.2⟩⟩
    have a0 : q.2.2.1 ≤ (mr1 n b D q).2.2.1 := h0.1
    have a1 : (mr1 n b D q).2.2.1 ≤ (mr2 n b D q).2.2.1 := h1.1
    have a3 : (mr3 n b D q).2.2.1 ≤ (mr4 n b D q).2.2.1 := h3.1
    rw [e3] at a3
    show q.2.2.1 ≤ (mr4 n b D q).2.2.1
    omega
  · rw [if_neg z]; exact ⟨hO, fun w => absurd w z⟩
theorem g_lnUns (hO : DOK D) (hi : q.2.2.1 ≤ n) : LnG n b D q (lnUns n b D q) := by
  unfold lnUns
  by_cases z : (un4 n b D q).1 = 0
  · obtain ⟨z3, z3h, z3r, z3i⟩ := qW_l (q := un3 n b D q) z
    obtain ⟨z2, z2m, z2e⟩ := qF_l (q := un2 n b D q) (by decide) z3
    obtain ⟨z1, z1n, z1s, z1i⟩ := qKn_l (q := un1 n b D q) z2
    obtain ⟨z0, zH, zf, z0i⟩ := qB_l (q := q) z1
    have e3 : un3 n b D q = un2 n b D q := z2e
    have h0 := stp (b := b) hi z0i
    have h1 := stp (b := b) h0.2 z1i
    have h3 := stp (b := b) (i := (un3 n b D q).2.2.1) (by rw [e3]; exact h1.2) z3i
    rw [if_pos z]
    cases hf : unF n b D q with
    | none => rw [hf] at z1s; cases z1s
    | some d =>
      refine ⟨dok_U hO zH (by simpa using zf) (fnd_some hf).1 z3r, fun _ => ⟨z0, ?_, h3.2⟩⟩
      have a0 : q.2.2.1 ≤ (un1 n b D q).2.2.1 := h0.1
      have a1 : (un1 n b D q).2.2.1 ≤ (un2 n b D q).2.2.1 := h1.1
      have a3 : (un3 n b D q).2.2.1 ≤ (un4 n b D q).2.2.1 := h3.1
      rw [e3] at a3
      show q.2.2.1 ≤ (un4 n b D q).2.2.1
      omega
  · rw [if_neg z]; exact ⟨hO, fun w => absurd w z⟩
theorem g_lnHeard (hO : DOK D) (hi : q.2.2.1 ≤ n) : LnG n b D q (lnHeard n b D q) := by
  unfold lnHeard
  by_cases z : (he6 n b D q).1 = 0
  · obtain ⟨z5, z5m, z5e⟩ := qF_l (q := he5 n b D q) (by decide) z
    obtain ⟨z4, z4h, z4r, z4i⟩ := qW_l (q := he4 n b D q) z5
    obtain ⟨z3, -, z3i⟩ := qS_l (q := he3 n b D q) z4
    obtain ⟨z2, z2n, z2s, z2i⟩ := qKn_l (q := he2 n b D q) z3
    obtain ⟨z1, z1n, z1s, z1i⟩ := qKn_l (q := he1 n b D q) z2
    obtain ⟨z0, zH, zf, z0i⟩ := qB_l (q := q) z1
    have e6 : he6 n b D q = he5 n b D q := z5e
    have h0 := stp (b := b) hi z0i
    have h1 := stp (b := b) h0.2 z1i
    have h2 := stp (b := b) h1.2 z2i
    have h3 := stp (b := b) h2.2 z3i
    have h4 := stp (b := b) h3.2 z4i
    rw [if_pos z]
    cases hf : heG n b D q with
    | none => rw [hf] at z2s; cases z2s
    | some d =>
      refine ⟨dok_Q hO zH (by simpa using zf) (fnd_some hf).1 z4r, fun _ => ⟨z0, ?_, ?_⟩⟩
      · have a0 : q.2.2.1 ≤ (he1 n b D q).2.2.1 := h0.1
        have a1 : (he1 n b D q).2.2.1 ≤ (he2 n b D q).2.2.1 := h1.1
        have a2 : (he2 n b D q).2.2.1 ≤ (he3 n b D q).2.2.1 := h2.1
        have a3 : (he3 n b D q).2.2.1 ≤ (he4 n b D q).2.2.1 := h3.1
        have a4 : (he4 n b D q).2.2.1 ≤ (he5 n b D q).2.2.1 := h4.1
        show q.2.2.1 ≤ (he6 n b D q).2.2.1
        rw [e6]; omega
      · show (he6 n b D q).2.2.1 ≤ n
        rw [e6]; exact h4.2
  · rw [if_neg z]; exact ⟨hO, fun w => absurd w z⟩
theorem g_lnAny (hO : DOK D) (hi : q.1 = 0 → q.2.2.1 ≤ n) : LnG n b D q (lnAny n b D q) := by
  unfold lnAny
  by_cases z : q.1 = 0
  · rw [if_neg (fun w => w z)]
    have hi := hi z
    split
    · exact g_lnTown hO hi
    · split
      · exact g_lnPers hO hi
      · split
        · exact g_lnDead hO hi
        · split
          · exact g_lnMirr hO hi
          · split
            · exact g_lnUns hO hi
            · split
              · exact g_lnHeard hO hi
              · refine ⟨hO, fun w => ?_⟩
                have w' : (qP n b true 1 q).1 = 0 := w
                have := (qP_l (by decide) w').2.1
                cases this
  · rw [if_pos z]; exact ⟨hO, fun w => absurd w z⟩
end DOKS
