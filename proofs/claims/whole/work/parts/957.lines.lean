/-! the lines of a text, without the heap; the draft's changes on the class -/
def upT (T : Tw) (H L : Nat) : Tw := ((H, L, tP T, tD T, tU T, tQ T), T.2)
def upP (T : Tw) (h : Int) : Tw := ((tH T, tL T, tP T + 1, tD T, tU T, tQ T), T.2.1, T.2.2.1, (nN (tN T), (fun j => if j = tP T then h else nHo (tN T) j), nSl (tN T), nMi (tN T)), T.2.2.2.2)
def upD (T : Tw) (law sl : Int) (fo : Nat) : Tw := ((tH T, tL T, tP T, tD T + 1, tU T, tQ T), (fun j => if j = tD T then law else tLaw T j), (fun j => if j = tD T then fo else tFo T j), (nN (tN T), nHo (tN T), (fun j => if j = tD T then sl else nSl (tN T) j), fun j => if j = tD T then -2 else nMi (tN T) j), T.2.2.2.2)
def upM (T : Tw) (d : Nat) (h : Int) : Tw := (T.1, T.2.1, T.2.2.1, (nN (tN T), nHo (tN T), nSl (tN T), fun j => if j = d then h else nMi (tN T) j), T.2.2.2.2)
def upU (T : Tw) (d : Nat) (sl : Int) : Tw := ((tH T, tL T, tP T, tD T, tU T + 1, tQ T), T.2.1, T.2.2.1, T.2.2.2.1, (fun j => if j = tU T then d else tUd T j), (fun j => if j = tU T then sl else tUs T j), T.2.2.2.2.2.2)
def upQ (T : Tw) (p : Int) (d : Nat) (nt : Int) : Tw := ((tH T, tL T, tP T, tD T, tU T, tQ T + 1), T.2.1, T.2.2.1, T.2.2.2.1, T.2.2.2.2.1, T.2.2.2.2.2.1, (fun j => if j = tQ T then p else tQp T j), (fun j => if j = tQ T then d else tQd T j), fun j => if j = tQ T then nt else tQn T j)
def adT (D : DR) (H L : Nat) : DR := (upT (dT D) H L, D.2)
def adP (D : DR) (K : Nat) (h : Int) : DR := (upP (dT D) h, (fun j => if j = tP (dT D) then K else dPn D j), dDn D, fun k => if k = tP (dT D) + tD (dT D) then (K, 0, tP (dT D)) else dNm D k)
def adD (D : DR) (K : Nat) (law sl : Int) (fo : Nat) : DR := (upD (dT D) law sl fo, dPn D, (fun j => if j = tD (dT D) then K else dDn D j), fun k => if k = tP (dT D) + tD (dT D) then (K, 1, tD (dT D)) else dNm D k)
def adM (D : DR) (d : Nat) (h : Int) : DR := (upM (dT D) d h, D.2)
def adU (D : DR) (d : Nat) (sl : Int) : DR := (upU (dT D) d sl, D.2)
def adQ (D : DR) (p : Int) (d : Nat) (nt : Int) : DR := (upQ (dT D) p d nt, D.2)
section CUPS
variable {s : St} {D : DR}
theorem CDr.adT (h : CDr s D) (H L : Nat) : CDr (pI (pI s 3 0 (H : Int)) 3 1 (L : Int)) (adT D H L) := by
  obtain ⟨⟨a0, a1, a2, a3, a4, a5⟩, a6, a7, a8, a9⟩ := h
  refine ⟨⟨?_, ?_, ?_, ?_, ?_, ?_⟩, fun p hp => ?_, fun d hd => ?_, fun k hk => ?_, fun k hk => ?_⟩
  · show gI _ 3 0 = (H : Int); simp [gI_pI]
  · show gI _ 3 1 = (L : Int); simp [gI_pI]
  · show gI _ 3 2 = (tP (dT D) : Int); simp [gI_pI, a2]
  · show gI _ 3 3 = (tD (dT D) : Int); simp [gI_pI, a3]
  · show gI _ 3 4 = (tU (dT D) : Int); simp [gI_pI, a4]
  · show gI _ 3 5 = (tQ (dT D) : Int); simp [gI_pI, a5]
  · have := a6 p hp; simp [gI_pI]; exact this
  · have := a7 d hd; simp [gI_pI]; exact this
  · have := a8 k hk; simp [gI_pI]; exact this
  · have := a9 k hk; simp [gI_pI]; exact this
theorem CDr.adP (h : CDr s D) (K : Nat) (x : Int) : CDr (pI (pI (pI s 17 (tP (dT D)) (cv 8 K : Int)) 5 (tP (dT D)) x) 3 2 ((tP (dT D) + 1 : Nat) : Int)) (adP D K x) := by
  obtain ⟨⟨a0, a1, a2, a3, a4, a5⟩, a6, a7, a8, a9⟩ := h
  refine ⟨⟨?_, ?_, ?_, ?_, ?_, ?_⟩, fun p hp => ?_, fun d hd => ?_, fun k hk => ?_, fun k hk => ?_⟩
  · show gI _ 3 0 = (tH (dT D) : Int); simp [gI_pI, a0]
  · show gI _ 3 1 = (tL (dT D) : Int); simp [gI_pI, a1]
  · show gI _ 3 2 = ((tP (dT D) + 1 : Nat) : Int); simp [gI_pI]
  · show gI _ 3 3 = (tD (dT D) : Int); simp [gI_pI, a3]
  · show gI _ 3 4 = (tU (dT D) : Int); simp [gI_pI, a4]
  · show gI _ 3 5 = (tQ (dT D) : Int); simp [gI_pI, a5]
  · have hp' : p < tP (dT D) + 1 := hp
    show gI _ 5 p = (if p = tP (dT D) then x else nHo (tN (dT D)) p) ∧ gI _ 17 p = ((cv 8 (if p = tP (dT D) then K else dPn D p) : Nat) : Int)
    by_cases z : p = tP (dT D)
    · simp [gI_pI, z]
    · have := a6 p (by omega); simp [gI_pI, z, this]
  · have := a7 d hd; simp [gI_pI]; exact this
  · have := a8 k hk; simp [gI_pI]; exact this
  · have := a9 k hk; simp [gI_pI]; exact this
theorem CDr.adD (h : CDr s D) (K : Nat) (law sl : Int) (fo : Nat) : CDr (pI (pI (pI (pI (pI (pI s 18 (tD (dT D)) (cv 8 K : Int)) 8 (tD (dT D)) law) 9 (tD (dT D)) (fo : Int)) 6 (tD (dT D)) sl) 7 (tD (dT D)) (-2)) 3 3 ((tD (dT D) + 1 : Nat) : Int)) (adD D K law sl fo) := by
  obtain ⟨⟨a0, a1, a2, a3, a4, a5⟩, a6, a7, a8, a9⟩ := h
  refine ⟨⟨?_, ?_, ?_, ?_, ?_, ?_⟩, fun p hp => ?_, fun d hd => ?_, fun k hk => ?_, fun k hk => ?_⟩
  · show gI _ 3 0 = (tH (dT D) : Int); simp [gI_pI, a0]
  · show gI _ 3 1 = (tL (dT D) : Int); simp [gI_pI, a1]
  · show gI _ 3 2 = (tP (dT D) : Int); simp [gI_pI, a2]
  · show gI _ 3 3 = ((tD (dT D) + 1 : Nat) : Int); simp [gI_pI]
  · show gI _ 3 4 = (tU (dT D) : Int); simp [gI_pI, a4]
  · show gI _ 3 5 = (tQ (dT D) : Int); simp [gI_pI, a5]
  · have := a6 p hp; simp [gI_pI]; exact this
  · have hd' : d < tD (dT D) + 1 := hd
    show (gI _ 8 d = (if d = tD (dT D) then law else tLaw (dT D) d) ∧ gI _ 9 d = ((if d = tD (dT D) then fo else tFo (dT D) d : Nat) : Int)) ∧ (gI _ 6 d = (if d = tD (dT D) then sl else nSl (tN (dT D)) d) ∧ gI _ 7 d = (if d = tD (dT D) then -2 else nMi (tN (dT D)) d)) ∧ gI _ 18 d = ((cv 8 (if d = tD (dT D) then K else dDn D d) : Nat) : Int)
    by_cases z : d = tD (dT D)
    · simp [gI_pI, z]
    · have := a7 d (by omega); simp [gI_pI, z, this]
  · have := a8 k hk; simp [gI_pI]; exact this
  · have := a9 k hk; simp [gI_pI]; exact this
theorem CDr.adM (h : CDr s D) {d : Nat} (x : Int) : CDr (pI s 7 d x) (adM D d x) := by
  obtain ⟨⟨a0, a1, a2, a3, a4, a5⟩, a6, a7, a8, a9⟩ := h
  refine ⟨⟨?_, ?_, ?_, ?_, ?_, ?_⟩, fun p hp => ?_, fun e he => ?_, fun k hk => ?_, fun k hk => ?_⟩
  · show gI _ 3 0 = (tH (dT D) : Int); simp [gI_pI, a0]
  · show gI _ 3 1 = (tL (dT D) : Int); simp [gI_pI, a1]
  · show gI _ 3 2 = (tP (dT D) : Int); simp [gI_pI, a2]
  · show gI _ 3 3 = (tD (dT D) : Int); simp [gI_pI, a3]
  · show gI _ 3 4 = (tU (dT D) : Int); simp [gI_pI, a4]
  · show gI _ 3 5 = (tQ (dT D) : Int); simp [gI_pI, a5]
  · have := a6 p hp; simp [gI_pI]; exact this
  · have := a7 e he
    show (gI _ 8 e = tLaw (dT D) e ∧ gI _ 9 e = (tFo (dT D) e : Int)) ∧ (gI _ 6 e = nSl (tN (dT D)) e ∧ gI _ 7 e = (if e = d then x else nMi (tN (dT D)) e)) ∧ gI _ 18 e = (cv 8 (dDn D e) : Int)
    by_cases z : e = d
    · subst z; simp [gI_pI, this]
    · simp [gI_pI, z, this]
  · have := a8 k hk; simp [gI_pI]; exact this
  · have := a9 k hk; simp [gI_pI]; exact this
theorem CDr.adU (h : CDr s D) (d : Nat) (x : Int) : CDr (pI (pI (pI s 10 (tU (dT D)) (d : Int)) 11 (tU (dT D)) x) 3 4 ((tU (dT D) + 1 : Nat) : Int)) (adU D d x) := by
  obtain ⟨⟨a0, a1, a2, a3, a4, a5⟩, a6, a7, a8, a9⟩ := h
  refine ⟨⟨?_, ?_, ?_, ?_, ?_, ?_⟩, fun p hp => ?_, fun e he => ?_, fun k hk => ?_, fun k hk => ?_⟩
  · show gI _ 3 0 = (tH (dT D) : Int); simp [gI_pI, a0]
  · show gI _ 3 1 = (tL (dT D) : Int); simp [gI_pI, a1]
  · show gI _ 3 2 = (tP (dT D) : Int); simp [gI_pI, a2]
  · show gI _ 3 3 = (tD (dT D) : Int); simp [gI_pI, a3]
  · show gI _ 3 4 = ((tU (dT D) + 1 : Nat) : Int); simp [gI_pI]
  · show gI _ 3 5 = (tQ (dT D) : Int); simp [gI_pI, a5]
  · have := a6 p hp; simp [gI_pI]; exact this
  · have := a7 e he; simp [gI_pI]; exact this
  · have hk' : k < tU (dT D) + 1 := hk
    show gI _ 10 k = ((if k = tU (dT D) then d else tUd (dT D) k : Nat) : Int) ∧ gI _ 11 k = (if k = tU (dT D) then x else tUs (dT D) k)
    by_cases z : k = tU (dT D)
    · simp [gI_pI, z]
    · have := a8 k (by omega); simp [gI_pI, z, this]
  · have := a9 k hk; simp [gI_pI]; exact this
theorem CDr.adQ (h : CDr s D) (p : Int) (d : Nat) (x : Int) : CDr (pI (pI (pI (pI s 12 (tQ (dT D)) p) 13 (tQ (dT D)) (d : Int)) 14 (tQ (dT D)) x) 3 5 ((tQ (dT D) + 1 : Nat) : Int)) (adQ D p d x) := by
  obtain ⟨⟨a0, a1, a2, a3, a4, a5⟩, a6, a7, a8, a9⟩ := h
  refine ⟨⟨?_, ?_, ?_, ?_, ?_, ?_⟩, fun p hp => ?_, fun e he => ?_, fun k hk => ?_, fun k hk => ?_⟩
  · show gI _ 3 0 = (tH (dT D) : Int); simp [gI_pI, a0]
  · show gI _ 3 1 = (tL (dT D) : Int); simp [gI_pI, a1]
  · show gI _ 3 2 = (tP (dT D) : Int); simp [gI_pI, a2]
  · show gI _ 3 3 = (tD (dT D) : Int); simp [gI_pI, a3]
  · show gI _ 3 4 = (tU (dT D) : Int); simp [gI_pI, a4]
  · show gI _ 3 5 = ((tQ (dT D) + 1 : Nat) : Int); simp [gI_pI]
  · have := a6 p hp; simp [gI_pI]; exact this
  · have := a7 e he; simp [gI_pI]; exact this
  · have := a8 k hk; simp [gI_pI]; exact this
  · have hk' : k < tQ (dT D) + 1 := hk
    show gI _ 12 k = (if k = tQ (dT D) then p else tQp (dT D) k) ∧ gI _ 13 k = ((if k = tQ (dT D) then d else tQd (dT D) k : Nat) : Int) ∧ gI _ 14 k = (if k = tQ (dT D) then x else tQn (dT D) k)
    by_cases z : k = tQ (dT D)
    · simp [gI_pI, z]
    · have := a9 k (by omega); simp [gI_pI, z, this]
end CUPS
/-! what a live end says of the way -/
section LIVE
variable {n : Nat} {b : Nat → Int} {q : PQ} {c : Bool} {k lo hi : Int} {f : Option Nat} {D : DR}
theorem qS_l (h : (qS n b c q).1 = 0) : q.1 = 0 ∧ c = true ∧ (qS n b c q).2.2.1 = tkX n b q.2.2.1 := by
  unfold qS at h ⊢
  by_cases z : q.1 = 0
  · rw [if_pos z] at h ⊢
    by_cases y : c = true
    · rw [if_pos y]; exact ⟨z, y, rfl⟩
    · rw [if_neg y] at h; cases h
  · rw [if_neg z] at h; exact absurd h z
theorem qF_l (hk : k ≠ 0) (h : (qF c k q).1 = 0) : q.1 = 0 ∧ c = false ∧ qF c k q = q := by
  unfold qF at h ⊢
  by_cases z : q.1 = 0 ∧ c = true
  · rw [if_pos z] at h; exact absurd h hk
  · rw [if_neg z] at h ⊢
    refine ⟨h, ?_, rfl⟩
    cases c
    · rfl
    · exact absurd ⟨h, rfl⟩ z
theorem qP_l (hk : k ≠ 0) (h : (qP n b c k q).1 = 0) : q.1 = 0 ∧ c = false ∧ qP n b c k q = q := by
  unfold qP at h ⊢
  by_cases z : q.1 = 0 ∧ c = true
  · rw [if_pos z] at h; exact absurd h hk
  · rw [if_neg z] at h ⊢
    refine ⟨h, ?_, rfl⟩
    cases c
    · rfl
    · exact absurd ⟨h, rfl⟩ z
theorem qW_l (h : (qW n b lo hi q).1 = 0) : q.1 = 0 ∧ hB n b q.2.2.1 = true ∧ (lo ≤ (tkH n b q.2.2.1 : Int) ∧ (tkH n b q.2.2.1 : Int) ≤ hi) ∧ (qW n b lo hi q).2.2.1 = tkX n b q.2.2.1 := by
  unfold qW at h ⊢
  obtain ⟨h1, h2, h3⟩ := qF_l (by decide) h
  obtain ⟨g1, g2, g3⟩ := qS_l h1
  rw [h3]
  exact ⟨g1, g2, by simpa using h2, g3⟩
theorem qKn_l (h : (qKn n b f q).1 = 0) : q.1 = 0 ∧ nmB n b q.2.2.1 = true ∧ f.isSome = true ∧ (qKn n b f q).2.2.1 = tkX n b q.2.2.1 := by
  unfold qKn at h ⊢
  obtain ⟨h1, h2, h3⟩ := qF_l (by decide) h
  obtain ⟨g1, g2, g3⟩ := qS_l (c := nmB n b q.2.2.1) h1
  rw [h3]
  exact ⟨g1, g2, by simpa using h2, g3⟩
theorem qNew_l (h : (qNew n b D q).1 = 0) : q.1 = 0 ∧ nmB n b q.2.2.1 = true ∧ tlB D (tkY n b q.2.2.1) = false ∧ (qNew n b D q).2.2.1 = tkX n b q.2.2.1 := by
  unfold qNew at h ⊢
  obtain ⟨h1, h2, h3⟩ := qF_l (by decide) h
  obtain ⟨g1, g2, g3⟩ := qS_l (c := nmB n b q.2.2.1) h1
  rw [h3]
  exact ⟨g1, g2, h2, g3⟩
theorem qB_l {full : Bool} (h : (qB n b D full q).1 = 0) : q.1 = 0 ∧ tH (dT D) ≠ 0 ∧ full = false ∧ (qB n b D full q).2.2.1 = tkX n b q.2.2.1 := by
  unfold qB at h ⊢
  obtain ⟨g1, g2, g3⟩ := qS_l h
  obtain ⟨h1, h2, h3⟩ := qP_l (by decide) g1
  obtain ⟨i1, i2, i3⟩ := qP_l (by decide) h1
  rw [g3, h3, i3]
  exact ⟨i1, by simpa using i2, h2, rfl⟩
end LIVE
