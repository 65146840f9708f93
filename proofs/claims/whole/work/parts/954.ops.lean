/-! reading, step by step: fault, its place, where the token begins, the place of the token taken last -/
abbrev PQ : Type := Int × Int × Nat × Int
def qS (n : Nat) (b : Nat → Int) (c : Bool) (q : PQ) : PQ := if q.1 = 0 then (if c = true then (0, -1, tkX n b q.2.2.1, (tkP n b q.2.2.1 : Int)) else (1, (tkP n b q.2.2.1 : Int), q.2.2.1, q.2.2.2)) else q
def qF (c : Bool) (k : Int) (q : PQ) : PQ := if q.1 = 0 ∧ c = true then (k, q.2.2.2, q.2.2.1, q.2.2.2) else q
def qP (n : Nat) (b : Nat → Int) (c : Bool) (k : Int) (q : PQ) : PQ := if q.1 = 0 ∧ c = true then (k, (tkP n b q.2.2.1 : Int), q.2.2.1, q.2.2.2) else q
def wB (n : Nat) (b : Nat → Int) (w i : Nat) : Bool := decide (tkK n b i = 1 ∧ tkY n b i = KW.getD w 0)
def hB (n : Nat) (b : Nat → Int) (i : Nat) : Bool := decide (tkK n b i = 2)
def lnB (n : Nat) (b : Nat → Int) (i : Nat) : Bool := wB n b 0 i || wB n b 3 i || wB n b 4 i || wB n b 5 i || wB n b 6 i || wB n b 7 i
def nmB (n : Nat) (b : Nat → Int) (i : Nat) : Bool := decide (tkK n b i = 1) && !(lnB n b i)
def lawN (n : Nat) (b : Nat → Int) (i : Nat) : Int := if wB n b 9 i = true then 0 else if wB n b 10 i = true then 1 else if wB n b 11 i = true then 2 else if wB n b 12 i = true then 3 else -1
def qW (n : Nat) (b : Nat → Int) (lo hi : Int) (q : PQ) : PQ := qF (!decide (lo ≤ (tkH n b q.2.2.1 : Int) ∧ (tkH n b q.2.2.1 : Int) ≤ hi)) 4 (qS n b (hB n b q.2.2.1) q)
def qN (n : Nat) (b : Nat → Int) (q : PQ) : PQ := qS n b (nmB n b q.2.2.1) q
theorem qS_fz {n : Nat} {b : Nat → Int} {c : Bool} {q : PQ} (h : q.1 ≠ 0) : qS n b c q = q := if_neg h
theorem qF_fz {c : Bool} {k : Int} {q : PQ} (h : q.1 ≠ 0) : qF c k q = q := if_neg (fun z => h z.1)
theorem qP_fz {n : Nat} {b : Nat → Int} {c : Bool} {k : Int} {q : PQ} (h : q.1 ≠ 0) : qP n b c k q = q := if_neg (fun z => h z.1)
theorem qS_cg {n : Nat} {b : Nat → Int} {c d : Bool} {q : PQ} (h : q.1 = 0 → c = d) : qS n b c q = qS n b d q := by
  by_cases z : q.1 = 0
  · rw [h z]
  · rw [qS_fz z, qS_fz z]
theorem qF_cg {c d : Bool} {k : Int} {q : PQ} (h : q.1 = 0 → c = d) : qF c k q = qF d k q := by
  by_cases z : q.1 = 0
  · rw [h z]
  · rw [qF_fz z, qF_fz z]
def cT (a : Nat) : Prop := a = 2 ∨ a = 15
def CQ (n : Nat) (b : Nat → Int) (s : St) (q : PQ) : Prop := Sh s ∧ (gI s 2 1 = q.1 ∧ gI s 2 2 = q.2.1) ∧ (q.1 = 0 → q.2.1 = -1 ∧ CTk n b s q.2.2.1 ∧ gI s 2 6 = q.2.2.2)
def isWv (s : St) (w : Nat) : Int := if gI s 15 0 = 1 ∧ gI s 15 2 = ((K27.getD w 0 : Nat) : Int) then 1 else 0
theorem cmp3_0 (x y : Int) : cmp3 x y = 0 ↔ x = y := by
  unfold cmp3
  by_cases h : x > y
  · rw [if_pos h]; constructor
    · intro z; cases z
    · intro z; omega
  · rw [if_neg h]
    by_cases h2 : x = y
    · rw [if_pos h2]; exact ⟨fun _ => h2, fun _ => rfl⟩
    · rw [if_neg h2]; constructor
      · intro z; cases z
      · intro z; exact absurd z h2
section COPS
variable {s s1 : St} {n : Nat} {b : Nat → Int} {q : PQ}
theorem CQ.fr {L : Nat → Prop} (h : CQ n b s q) (hf : Fr L s s1) (hL : ¬ L 1 ∧ ¬ L 2 ∧ ¬ L 15) : CQ n b s1 q := by
  obtain ⟨h1, ⟨h2, h3⟩, h4⟩ := h
  have e2 : ∀ k, gI s1 2 k = gI s 2 k := fun k => hf.nu hL.2.1
  have e15 : ∀ k, gI s1 15 k = gI s 15 k := fun k => hf.nu hL.2.2
  have e1 : ∀ k, gI s1 1 k = gI s 1 k := fun k => hf.nu hL.1
  refine ⟨by rw [hf.sh]; exact h1, ⟨(e2 1).trans h2, (e2 2).trans h3⟩, fun z => ?_⟩
  obtain ⟨a1, ⟨⟨c1, c2, c3, c4, c5⟩, c6, c7, c8, c9, c10, c11⟩, a3⟩ := h4 z
  refine ⟨a1, ⟨⟨by rw [hf.sh]; exact c1, by rw [hf.refs]; exact c2, (e15 4).trans c3, c4, fun j hj => (e1 j).trans (c5 j hj)⟩, c6, (e15 0).trans c7, (e15 1).trans c8, (e15 5).trans c9, fun z => (e15 2).trans (c10 z), fun z => (e15 2).trans (c11 z)⟩, (e2 6).trans a3⟩
theorem c_isW (hS : Sh s) {w : Nat} (hw : w < 16) : X8_isWord s 15 (1000000 + (w : Int)) = some (isWv s w, s) := by
  rw [wc_e s hw]
  unfold wdC isWv X8_isWord_b61 X8_isWord_b62
  generalize ((K27.getD w 0 : Nat) : Int) = A
  by_cases h1 : gI s 15 0 = 1 <;> by_cases h2 : gI s 15 2 = A <;> simp [tF, isK, shF hS, cmp3_0, h1, h2]
theorem vd_KW : ∀ w : Nat, w < 16 → vdK 8 (KW.getD w 0) := by
  intro w hw
  have : ∀ w : Nat, w < 16 → (KW.getD w 0) % 32 < 27 ∧ (KW.getD w 0) / 32 % 32 < 27 ∧ (KW.getD w 0) / 32 / 32 % 32 < 27 ∧ (KW.getD w 0) / 32 / 32 / 32 % 32 < 27 := by decide +kernel
  have h2 : ∀ w : Nat, w < 16 → (KW.getD w 0) / 32 / 32 / 32 / 32 % 32 < 27 ∧ (KW.getD w 0) / 32 / 32 / 32 / 32 / 32 % 32 < 27 ∧ (KW.getD w 0) / 32 / 32 / 32 / 32 / 32 / 32 = 0 := by decide +kernel
  obtain ⟨a1, a2, a3, a4⟩ := this w hw
  obtain ⟨a5, a6, a7⟩ := h2 w hw
  refine ⟨a1, a2, a3, a4, a5, a6, ?_⟩
  rw [a7]
  exact ⟨by decide, by decide, rfl⟩
theorem c_isWl {i w : Nat} (h : CTk n b s i) (hw : w < 16) : isWv s w = if wB n b w i = true then 1 else 0 := by
  obtain ⟨c0, c6, c7, c8, c9, c10, c11⟩ := h
  unfold isWv wB
  by_cases y : tkK n b i = 1
  · have e := c10 y
    have y' : gI s 15 0 = 1 := by rw [c7, y]; rfl
    have vd := tkY_vd (b := b) c6 y
    by_cases z : tkY n b i = KW.getD w 0
    · rw [if_pos ⟨y', by rw [e, z, KW_ok w hw]⟩, if_pos (by simp [y, z])]
    · rw [if_neg (fun k => z (cv_inj 8 _ _ vd (vd_KW w hw) (by
        have := k.2
        rw [e] at this
        rw [KW_ok w hw]
        omega))), if_neg (by simp only [decide_eq_true_eq]; exact fun k => z k.2)]
  · have y' : ¬ gI s 15 0 = 1 := by rw [c7]; omega
    rw [if_neg (fun k => y' k.1), if_neg (by simp only [decide_eq_true_eq]; exact fun k => y k.1)]
theorem c_fail (hS : Sh s) (k x : Int) : X4_fail s 2 k x = some (0, if gI s 2 1 = 0 then pI (pI s 2 1 k) 2 2 x else s) := by
  unfold X4_fail X4_fail_b17
  by_cases h : gI s 2 1 = 0
  · simp [tF, isK, shF hS, h]
  · simp [tF, isK, shF hS, h]
theorem f2 (s : St) (k : Nat) (x : Int) : Fr cT s (pI s 2 k x) := Fr_pI (Or.inl rfl)
theorem CQ.failed {k x : Int} (h : CQ n b s q) (hq : q.1 = 0) (hk : k ≠ 0) : CQ n b (pI (pI s 2 1 k) 2 2 x) (k, x, q.2.2.1, q.2.2.2) :=
  ⟨h.1, ⟨by simp [gI_pI], by simp [gI_pI]⟩, fun z => absurd z hk⟩
/-- a fault at a place, if none was before -/
theorem c_failQ {k x : Int} {c : Bool} (h : CQ n b s q) (hc : c = true) (hk : k ≠ 0) (q2 : PQ) (hq2 : q2 = if q.1 = 0 then (k, x, q.2.2.1, q.2.2.2) else q) : ∃ s1, X4_fail s 2 k x = some (0, s1) ∧ Fr cT s s1 ∧ CQ n b s1 q2 := by
  rw [c_fail h.1, h.2.1.1, hq2]
  by_cases z : q.1 = 0
  · rw [if_pos z, if_pos z]
    exact ⟨_, rfl, (f2 _ _ _).trans (f2 _ _ _), h.failed z hk⟩
  · rw [if_neg z, if_neg z]
    exact ⟨s, rfl, Fr.refl _ s, h⟩
theorem c_take {m : Int} (h : CQ n b s q) : ∃ s1, X4_takeToken s 2 m = some (0, s1) ∧ Fr cT s s1 ∧ CQ n b s1 (qS n b (decide (m ≠ 0)) q) := by
  have hS := h.1
  have h1 := h.2.1.1
  by_cases z : q.1 = 0
  · obtain ⟨a1, a2, a3⟩ := h.2.2 z
    have hi := a2.2.1
    have e1 := a2.2.2.2.1
    by_cases y : m = 0
    · refine ⟨pI (pI s 2 1 1) 2 2 (tkP n b q.2.2.1 : Int), ?_, (f2 _ _ _).trans (f2 _ _ _), ?_⟩
      · unfold X4_takeToken X4_takeToken_b16 X4_takeToken_b41
        simp [tF, isK, shF hS, y, c_fail hS, h1, z, e1, gI_pI]
      · unfold qS
        rw [if_pos z, if_neg (by simp [y])]
        exact h.failed z (by decide)
    · have hx := tkX_ok (b := b) hi
      have hc : CTx n b (pI s 2 6 (tkP n b q.2.2.1 : Int)) := by
        obtain ⟨c1, c2, c3, c4, c5⟩ := a2.1
        exact ⟨c1, c2, by simp [gI_pI, c3], c4, fun j hj => by simp [gI_pI, c5 j hj]⟩
      obtain ⟨s2, g1, g2, g3⟩ := c_step (i := tkX n b q.2.2.1) hc hx.2.1 (by simp [gI_pI, a2.2.2.2.2.1])
      refine ⟨s2, ?_, (f2 _ _ _).trans (g2.mono (fun a ha => Or.inr ha)), ?_⟩
      · unfold X4_takeToken X4_takeToken_b16 X4_takeToken_b41
        simp [tF, isK, shF hS, y, h1, z, e1, g1]
      · unfold qS
        rw [if_pos z, if_pos (by simp [y])]
        have e2 : ∀ k, gI s2 2 k = gI (pI s 2 6 (tkP n b q.2.2.1 : Int)) 2 k := fun k => g2.nu (by decide)
        refine ⟨g3.1.1, ⟨?_, ?_⟩, fun _ => ⟨rfl, g3, ?_⟩⟩
        · rw [e2]; simp [gI_pI, h1, z]
        · rw [e2]; simp [gI_pI, h.2.1.2, a1]
        · rw [e2]; simp [gI_pI]
  · refine ⟨s, ?_, Fr.refl _ s, ?_⟩
    · have z2 : ¬ gI s 2 1 = 0 := by rw [h1]; exact z
      unfold X4_takeToken X4_takeToken_b16 X4_takeToken_b41
      by_cases y : m = 0
      · simp [tF, isK, shF hS, y, c_fail hS, z2]
      · simp [tF, isK, shF hS, y, z2]
    · rw [qS_fz z]; exact h
theorem c_takeWord {w : Nat} (h : CQ n b s q) (hw : w < 16) : ∃ s1, X4_takeWord s 2 (1000000 + (w : Int)) = some (0, s1) ∧ Fr cT s s1 ∧ CQ n b s1 (qS n b (wB n b w q.2.2.1) q) := by
  have hS := h.1
  obtain ⟨s1, e1, f1, c1⟩ := c_take (m := isWv s w) h
  refine ⟨s1, ?_, f1, ?_⟩
  · unfold X4_takeWord
    rw [gR_2_3 hS, c_isW hS hw]
    simp [tF, isK, shF hS, e1]
  · rw [qS_cg (d := decide (isWv s w ≠ 0)) (fun z => ?_)]
    · exact c1
    · rw [c_isWl (h.2.2 z).2.1 hw]
      cases wB n b w q.2.2.1 <;> simp
end COPS
