/-! reading on the reference: steps -/
def RdQ (n : Nat) (b : Nat → Int) (s : St) (q : PQ) : Prop := Sh s ∧ (q.1 = 0 → MTk n b s q.2.2.1 ∧ gI s 76 12 = 0) ∧ (q.1 ≠ 0 → gI s 76 9 = 5 ∧ gI s 76 12 = q.1 ∧ gI s 76 13 = q.2.1)
def Fm (s s1 : St) : Prop := Fr (fun a => a = 76) s s1 ∧ ∀ k, ¬ (8 ≤ k ∧ k ≤ 14) → gI s1 76 k = gI s 76 k
theorem Fm.refl (s : St) : Fm s s := ⟨Fr.refl _ s, fun _ _ => rfl⟩
theorem Fm.trans {s s1 s2 : St} (h1 : Fm s s1) (h2 : Fm s1 s2) : Fm s s2 := ⟨h1.1.trans h2.1, fun k a => (h2.2 k a).trans (h1.2 k a)⟩
theorem Ft.m {s s1 : St} (h : Ft s s1) : Fm s s1 := ⟨h.1, fun k a => h.2 k (by omega) (by omega) (by omega) (by omega) (by omega)⟩
theorem fm76 (s : St) (k : Nat) (x : Int) (hk : 8 ≤ k ∧ k ≤ 14) : Fm s (pI s 76 k x) := ⟨Fr_pI rfl, fun j a => by rw [gI_pI, if_neg (fun z => by omega)]⟩
def mWv (s : St) (w : Nat) : Int := if gI s 76 9 = 2 ∧ gI s 76 14 = ((KW.getD w 0 : Nat) : Int) then 1 else 0
def nmV (s : St) : Int := if gI s 76 9 = 2 then (if mWv s 0 = 0 then (if mWv s 3 = 0 then (if mWv s 4 = 0 then (if mWv s 5 = 0 then (if mWv s 6 = 0 then (if mWv s 7 = 0 then 1 else 0) else 0) else 0) else 0) else 0) else 0) else 0
theorem srt_5 (k : Nat) : ¬ srt k = 5 ∧ (srt k = 2 ↔ k = 1) ∧ (srt k = 3 ↔ k = 2) ∧ (srt k = 4 ↔ k = 3) ∧ (srt k = 1 ↔ k = 0) := by
  unfold srt
  repeat' split
  all_goals omega
section MOPS
variable {s s1 : St} {n : Nat} {b : Nat → Int} {q q2 : PQ}
theorem RdQ.eqv (h : RdQ n b s q) (h1 : q2.1 = q.1) (h2 : q2.2.1 = q.2.1) (h3 : q.1 = 0 → q2.2.2.1 = q.2.2.1) : RdQ n b s q2 := by
  refine ⟨h.1, fun z => ?_, fun z => ?_⟩
  · have z' : q.1 = 0 := by rw [← h1]; exact z
    rw [h3 z']; exact h.2.1 z'
  · rw [h1, h2]; exact h.2.2 (by rw [← h1]; exact z)
theorem RdQ.nf (h : RdQ n b s q) : gI s 76 9 = 5 ↔ q.1 ≠ 0 := by
  constructor
  · intro z w
    rw [(h.2.1 w).1.2.2.1] at z
    exact (srt_5 _).1 z
  · intro z; exact (h.2.2 z).1
theorem MTk.fr {L : Nat → Prop} {i : Nat} (h : MTk n b s i) (hf : Fr L s s1) (hL : ¬ L 76 ∧ ¬ L 77) : MTk n b s1 i := by
  obtain ⟨⟨a1, a2, a3, a4, a5⟩, a6, a7, a8, a9, a10, a11⟩ := h
  have e : ∀ k, gI s1 76 k = gI s 76 k := fun k => hf.nu (a := 76) hL.1
  exact ⟨⟨by rw [hf.sh]; exact a1, (e 7).trans a2, a3, a4, fun j hj => (hf.nu (a := 77) hL.2).trans (a5 j hj)⟩, a6, (e 9).trans a7, (e 10).trans a8, fun z => (e 8).trans (a9 z), fun z => (e 14).trans (a10 z), fun z => (e 11).trans (a11 z)⟩
theorem RdQ.fr {L : Nat → Prop} (h : RdQ n b s q) (hf : Fr L s s1) (hL : ¬ L 76 ∧ ¬ L 77) : RdQ n b s1 q := by
  have e : ∀ k, gI s1 76 k = gI s 76 k := fun k => hf.nu (a := 76) hL.1
  refine ⟨by rw [hf.sh]; exact h.1, fun z => ⟨(h.2.1 z).1.fr hf hL, (e 12).trans (h.2.1 z).2⟩, fun z => ?_⟩
  rw [e, e, e]
  exact h.2.2 z
theorem m_flawQ {k : Int} (h : RdQ n b s q) (hk : k ≠ 0) : ∃ s1, X13_flaw s 76 k = some (0, s1) ∧ Fm s s1 ∧ RdQ n b s1 (qP n b true k q) := by
  have hS := h.1
  unfold X13_flaw
  by_cases z : q.1 = 0
  · have n5 : ¬ gI s 76 9 = 5 := fun w => h.nf.1 w z
    refine ⟨pI (pI (pI s 76 12 k) 76 13 (gI s 76 10)) 76 9 5, ?_, ((fm76 _ _ _ (by decide)).trans (fm76 _ _ _ (by decide))).trans (fm76 _ _ _ (by decide)), ?_⟩
    · simp [tF, isK, shF hS, n5, gI_pI]
    · unfold qP
      rw [if_pos ⟨z, rfl⟩]
      refine ⟨hS, fun w => absurd w hk, fun _ => ⟨by simp [gI_pI], by simp [gI_pI], ?_⟩⟩
      simp [gI_pI]
      exact (h.2.1 z).1.2.2.2.1
  · have y5 := (h.2.2 z).1
    refine ⟨s, ?_, Fm.refl s, ?_⟩
    · simp [tF, isK, shF hS, y5]
    · rw [qP_fz z]; exact h
theorem m_goQ (h : RdQ n b s q) (h4 : q.1 = 0 → tkK n b q.2.2.1 ≠ 4) : ∃ s1, X13_goesOn s 76 = some (0, s1) ∧ Fm s s1 ∧ RdQ n b s1 (qS n b true q) := by
  have hS := h.1
  by_cases z : q.1 = 0
  · obtain ⟨a1, a2⟩ := h.2.1 z
    have hx := tkX_ok (b := b) a1.2.1
    obtain ⟨s1, e1, f1, c1⟩ := m_goes (i := tkX n b q.2.2.1) a1.1 hx.2.1 (a1.2.2.2.2.1 (h4 z)) (fun w => h.nf.1 w z)
    refine ⟨s1, e1, f1.m, ?_⟩
    unfold qS
    rw [if_pos z, if_pos rfl]
    exact ⟨c1.1.1, fun _ => ⟨c1, (f1.2 12 (by decide) (by decide) (by decide) (by decide) (by decide)).trans a2⟩, fun w => absurd rfl w⟩
  · have y5 := (h.2.2 z).1
    refine ⟨s, ?_, Fm.refl s, ?_⟩
    · unfold X13_goesOn
      simp [tF, isK, shF hS, y5]
    · rw [qS_fz z]; exact h
theorem m_isW (hS : Sh s) {w c : Nat} (hc : c = w + 17) (hw : w < 16) : X13_isWord s 76 (1000000 + (c : Int)) = some (mWv s w, s) := by
  subst hc
  unfold X13_isWord X13_isWord_b24 X13_isWord_b25 mWv
  rw [wm_e s hw]
  generalize ((KW.getD w 0 : Nat) : Int) = A
  by_cases h1 : gI s 76 9 = 2 <;> by_cases h2 : gI s 76 14 = A <;> simp [tF, isK, shF hS, cmp3_0, h1, h2]
theorem m_isWl {w : Nat} (h : RdQ n b s q) (hz : q.1 = 0) : mWv s w = if wB n b w q.2.2.1 = true then 1 else 0 := by
  obtain ⟨a0, a6, a7, a8, a9, a10, a11⟩ := (h.2.1 hz).1
  unfold mWv wB
  by_cases y : tkK n b q.2.2.1 = 1
  · have e := a10 y
    have y' : gI s 76 9 = 2 := by rw [a7]; exact (srt_5 _).2.1.2 y
    rw [e]
    by_cases z : tkY n b q.2.2.1 = KW.getD w 0
    · rw [if_pos ⟨y', by rw [z]⟩, if_pos (by simp [y, z])]
    · rw [if_neg (fun k => z (by have := k.2; omega)), if_neg (by simp only [decide_eq_true_eq]; exact fun k => z k.2)]
  · have y' : ¬ gI s 76 9 = 2 := by rw [a7]; exact fun k => y ((srt_5 _).2.1.1 k)
    rw [if_neg (fun k => y' k.1), if_neg (by simp only [decide_eq_true_eq]; exact fun k => y k.1)]
theorem m_isWf {w : Nat} (h : RdQ n b s q) (hz : q.1 ≠ 0) : mWv s w = 0 := by
  unfold mWv
  rw [(h.2.2 hz).1, if_neg (fun k => by cases k.1)]
theorem m_isName (hS : Sh s) : X13_isName s 76 = some (nmV s, s) := by
  have k : isK s 23 76 := ⟨by decide, kd_76 hS⟩
  unfold X13_isName X13_isName_b35 X13_isName_b68 X13_isName_b69 nmV
  rw [grd_t k, grd_t k, m_isW hS (w := 0) (c := 17) rfl (by decide), bnd_some, grd_t k, m_isW hS (w := 3) (c := 20) rfl (by decide), bnd_some, grd_t k, m_isW hS (w := 4) (c := 21) rfl (by decide), bnd_some, grd_t k, m_isW hS (w := 5) (c := 22) rfl (by decide), bnd_some, grd_t k, m_isW hS (w := 6) (c := 23) rfl (by decide), bnd_some, grd_t k, m_isW hS (w := 7) (c := 24) rfl (by decide), bnd_some]
  generalize mWv s 0 = v0
  generalize mWv s 3 = v3
  generalize mWv s 4 = v4
  generalize mWv s 5 = v5
  generalize mWv s 6 = v6
  generalize mWv s 7 = v7
  by_cases h9 : gI s 76 9 = 2
  · by_cases h0 : v0 = 0
    · by_cases h3 : v3 = 0
      · by_cases h4 : v4 = 0
        · by_cases h5 : v5 = 0
          · by_cases h6 : v6 = 0
            · by_cases h7 : v7 = 0 <;> simp [tF, h9, h0, h3, h4, h5, h6, h7]
            · simp [tF, h9, h0, h3, h4, h5, h6]
          · simp [tF, h9, h0, h3, h4, h5]
        · simp [tF, h9, h0, h3, h4]
      · simp [tF, h9, h0, h3]
    · simp [tF, h9, h0]
  · simp [tF, h9]
theorem m_isNmL (h : RdQ n b s q) (hz : q.1 = 0) : nmV s = if nmB n b q.2.2.1 = true then 1 else 0 := by
  have a7 := (h.2.1 hz).1.2.2.1
  unfold nmV nmB lnB
  rw [m_isWl h hz (w := 0), m_isWl h hz (w := 3), m_isWl h hz (w := 4), m_isWl h hz (w := 5), m_isWl h hz (w := 6), m_isWl h hz (w := 7), a7]
  by_cases y : tkK n b q.2.2.1 = 1
  · rw [if_pos ((srt_5 _).2.1.2 y)]
    cases wB n b 0 q.2.2.1 <;> cases wB n b 3 q.2.2.1 <;> cases wB n b 4 q.2.2.1 <;> cases wB n b 5 q.2.2.1 <;> cases wB n b 6 q.2.2.1 <;> cases wB n b 7 q.2.2.1 <;> simp [y]
  · rw [if_neg (fun k => y ((srt_5 _).2.1.1 k))]
    simp [y]
theorem m_isNmF (h : RdQ n b s q) (hz : q.1 ≠ 0) : nmV s = 0 := by
  unfold nmV
  rw [(h.2.2 hz).1, if_neg (by decide)]
theorem qP_t {c : Bool} {k : Int} (hc : c = false) : qP n b c k q = q := by
  unfold qP; rw [if_neg (fun w => by rw [hc] at w; cases w.2)]
theorem qS_w {c : Bool} (hz : q.1 = 0) (hc : c = false) : qS n b c q = qP n b true 1 q := by
  unfold qS qP
  rw [if_pos hz, hc, if_neg (by decide), if_pos ⟨hz, rfl⟩]
theorem qP1_nz {k : Int} (hz : q.1 = 0) (hk : k ≠ 0) : (qP n b true k q).1 ≠ 0 := by
  unfold qP; rw [if_pos ⟨hz, rfl⟩]; exact hk
theorem m_needs {w c : Nat} (h : RdQ n b s q) (hc : c = w + 17) (hw : w < 16) : ∃ s1, X13_needs s 76 (1000000 + (c : Int)) = some (0, s1) ∧ Fm s s1 ∧ RdQ n b s1 (qS n b (wB n b w q.2.2.1) q) := by
  have hS := h.1
  have k : isK s 23 76 := ⟨by decide, kd_76 hS⟩
  unfold X13_needs X13_needs_b13
  rw [grd_t k, m_isW hS hc hw, bnd_some]
  by_cases z : q.1 = 0
  · rw [m_isWl h z]
    by_cases y : wB n b w q.2.2.1 = true
    · obtain ⟨s1, e1, f1, c1⟩ := m_goQ h (fun _ => by unfold wB at y; simp at y; omega)
      refine ⟨s1, ?_, f1, ?_⟩
      · rw [if_pos y, if_pos (by decide), grd_t k, e1, bnd_some]
      · rw [y]; exact c1
    · obtain ⟨s1, e1, f1, c1⟩ := m_flawQ (k := 1) h (by decide)
      have nz := qP1_nz (n := n) (b := b) (k := 1) z (by decide)
      obtain ⟨s2, e2, f2, c2⟩ := m_goQ c1 (fun w => absurd w nz)
      refine ⟨s2, ?_, f1.trans f2, ?_⟩
      · rw [if_neg y, if_neg (by decide), grd_t k, e1, bnd_some, grd_t (show isK s1 23 76 from ⟨by decide, kd_76 c1.1⟩), e2, bnd_some]
      · rw [qS_fz nz] at c2
        rw [qS_w z (by simpa using y)]; exact c2
  · obtain ⟨s1, e1, f1, c1⟩ := m_flawQ (k := 1) h (by decide)
    rw [qP_fz z] at c1
    obtain ⟨s2, e2, f2, c2⟩ := m_goQ c1 (fun w => absurd w z)
    refine ⟨s2, ?_, f1.trans f2, ?_⟩
    · rw [m_isWf h z, if_neg (by decide), grd_t k, e1, bnd_some, grd_t (show isK s1 23 76 from ⟨by decide, kd_76 c1.1⟩), e2, bnd_some]
    · rw [qS_fz z] at c2 ⊢; exact c2
def qWa (n : Nat) (b : Nat → Int) (lo hi : Int) (q : PQ) : PQ := qP n b (!decide (lo ≤ (tkH n b q.2.2.1 : Int) ∧ (tkH n b q.2.2.1 : Int) ≤ hi)) 4 (qP n b (!hB n b q.2.2.1) 1 q)
theorem qWa_l {lo hi : Int} (h : (qWa n b lo hi q).1 = 0) : q.1 = 0 ∧ hB n b q.2.2.1 = true ∧ (lo ≤ (tkH n b q.2.2.1 : Int) ∧ (tkH n b q.2.2.1 : Int) ≤ hi) ∧ qWa n b lo hi q = q := by
  unfold qWa at h ⊢
  obtain ⟨h1, h2, h3⟩ := qP_l (by decide) h
  obtain ⟨g1, g2, g3⟩ := qP_l (by decide) h1
  rw [h3, g3]
  exact ⟨g1, by simpa using g2, by simpa using h2, rfl⟩
theorem m_wholeAt {lo hi : Int} (h : RdQ n b s q) : ∃ r s1, X13_wholeAt s 76 lo hi = some (r, s1) ∧ Fm s s1 ∧ RdQ n b s1 (qWa n b lo hi q) ∧ ((qWa n b lo hi q).1 = 0 → r = (tkH n b q.2.2.1 : Int)) := by
  have hS := h.1
  have k : ∀ s : St, Sh s → isK s 23 76 := fun s hs => ⟨by decide, kd_76 hs⟩
  have b33 : ∀ s1 : St, RdQ n b s1 (qWa n b lo hi q) → ((qWa n b lo hi q).1 = 0 → gI s1 76 11 = (tkH n b q.2.2.1 : Int)) → ∃ r, X13_wholeAt_b33 s1 76 lo = some (r, s1) ∧ ((qWa n b lo hi q).1 = 0 → r = (tkH n b q.2.2.1 : Int)) := by
    intro s1 c1 hv
    unfold X13_wholeAt_b33 X13_wholeAt_b49
    rw [grd_t (k _ c1.1)]
    by_cases y : gI s1 76 9 = 5
    · rw [if_neg (fun w => w y)]
      exact ⟨lo, rfl, fun w => absurd w (c1.nf.1 y)⟩
    · rw [if_pos y, grd_t (k _ c1.1)]
      exact ⟨_, rfl, hv⟩
  unfold X13_wholeAt
  rw [grd_t (k _ hS)]
  by_cases z : q.1 = 0
  · obtain ⟨a0, a6, a7, a8, a9, a10, a11⟩ := (h.2.1 z).1
    by_cases y : tkK n b q.2.2.1 = 2
    · have e11 := a11 y
      have hb : hB n b q.2.2.1 = true := by unfold hB; simp [y]
      have e0 : qP n b (!hB n b q.2.2.1) 1 q = q := qP_t (by rw [hb]; rfl)
      rw [a7, if_pos ((srt_5 _).2.2.1.2 y), grd_t (k _ hS), m_in, e11, bnd_some]
      by_cases r : lo ≤ (tkH n b q.2.2.1 : Int) ∧ (tkH n b q.2.2.1 : Int) ≤ hi
      · have ew : qWa n b lo hi q = q := by unfold qWa; rw [e0, qP_t (by simp [r])]
        obtain ⟨v, e1, e2⟩ := b33 s (by rw [ew]; exact h) (fun _ => e11)
        refine ⟨v, s, ?_, Fm.refl s, by rw [ew]; exact h, e2⟩
        rw [if_pos r, if_pos (by decide)]; exact e1
      · have ew : qWa n b lo hi q = qP n b true 4 q := by
          unfold qWa; rw [e0]; congr 1; simp; omega
        obtain ⟨s1, g1, g2, g3⟩ := m_flawQ (k := 4) h (by decide)
        rw [← ew] at g3
        have nz : (qWa n b lo hi q).1 ≠ 0 := by rw [ew]; exact qP1_nz z (by decide)
        obtain ⟨v, e1, e2⟩ := b33 s1 g3 (fun w => absurd w nz)
        refine ⟨v, s1, ?_, g2, g3, e2⟩
        rw [if_neg r, if_neg (by decide), grd_t (k _ hS), g1, bnd_some]; exact e1
    · have hb : hB n b q.2.2.1 = false := by unfold hB; simp [y]
      have ew : qWa n b lo hi q = qP n b true 1 q := by
        unfold qWa
        rw [hb]
        exact qP_fz (qP1_nz z (by decide))
      obtain ⟨s1, g1, g2, g3⟩ := m_flawQ (k := 1) h (by decide)
      rw [← ew] at g3
      have nz : (qWa n b lo hi q).1 ≠ 0 := by rw [ew]; exact qP1_nz z (by decide)
      obtain ⟨v, e1, e2⟩ := b33 s1 g3 (fun w => absurd w nz)
      refine ⟨v, s1, ?_, g2, g3, e2⟩
      rw [a7, if_neg (fun w => y ((srt_5 _).2.2.1.1 w)), grd_t (k _ hS), g1, bnd_some]; exact e1
  · have ew : qWa n b lo hi q = q := by unfold qWa; rw [qP_fz (q := q) z, qP_fz z]
    obtain ⟨s1, g1, g2, g3⟩ := m_flawQ (k := 1) h (by decide)
    rw [qP_fz z, ← ew] at g3
    have nz : (qWa n b lo hi q).1 ≠ 0 := by rw [ew]; exact z
    obtain ⟨v, e1, e2⟩ := b33 s1 g3 (fun w => absurd w nz)
    refine ⟨v, s1, ?_, g2, g3, e2⟩
    rw [(h.2.2 z).1, if_neg (by decide), grd_t (k _ hS), g1, bnd_some]; exact e1
/-- the token gone over behind a check is the token taken -/
theorem qWa_S {lo hi : Int} (h : RdQ n b s (qS n b true (qWa n b lo hi q))) : RdQ n b s (qW n b lo hi q) := by
  by_cases z : q.1 = 0
  · refine h.eqv ?_ ?_ ?_ <;> unfold qWa qW qS qF qP <;> cases hB n b q.2.2.1 <;> by_cases r : lo ≤ (tkH n b q.2.2.1 : Int) ∧ (tkH n b q.2.2.1 : Int) ≤ hi <;> simp [z, r]
  · unfold qWa at h
    unfold qW
    rw [qP_fz (q := q) z, qP_fz z, qS_fz z] at h
    rw [qS_fz z, qF_fz z]
    exact h
theorem m_readWhole {lo hi : Int} (h : RdQ n b s q) : ∃ r s1, X13_readWhole s 76 lo hi = some (r, s1) ∧ Fm s s1 ∧ RdQ n b s1 (qW n b lo hi q) ∧ ((qW n b lo hi q).1 = 0 → r = (tkH n b q.2.2.1 : Int)) := by
  have hS := h.1
  have k : ∀ s : St, Sh s → isK s 23 76 := fun s hs => ⟨by decide, kd_76 hs⟩
  obtain ⟨r, s1, e1, f1, c1, v1⟩ := m_wholeAt (lo := lo) (hi := hi) h
  obtain ⟨s2, e2, f2, c2⟩ := m_goQ c1 (fun w => by
    obtain ⟨w1, w2, w3, w4⟩ := qWa_l w
    rw [w4]
    unfold hB at w2; simp at w2; omega)
  refine ⟨r, s2, ?_, f1.trans f2, qWa_S c2, fun w => v1 ?_⟩
  · unfold X13_readWhole
    rw [grd_t (k _ hS), e1, bnd_some, grd_t (k _ c1.1), e2, bnd_some]
  · obtain ⟨w1, w2, w3, w4⟩ := qW_l w
    unfold qWa
    rw [qP_t (c := !hB n b q.2.2.1) (by rw [w2]; rfl), qP_t (by simp [w3])]
    exact w1
theorem m_readPart {w c : Nat} {lo hi : Int} (h : RdQ n b s q) (hc : c = w + 17) (hw : w < 16) : ∃ r s1, X13_readPart s 76 (1000000 + (c : Int)) lo hi = some (r, s1) ∧ Fm s s1 ∧ RdQ n b s1 (qW n b lo hi (qS n b (wB n b w q.2.2.1) q)) ∧ ((qW n b lo hi (qS n b (wB n b w q.2.2.1) q)).1 = 0 → r = (tkH n b (qS n b (wB n b w q.2.2.1) q).2.2.1 : Int)) := by
  have hS := h.1
  have k : ∀ s : St, Sh s → isK s 23 76 := fun s hs => ⟨by decide, kd_76 hs⟩
  obtain ⟨s1, e1, f1, c1⟩ := m_needs h hc hw
  obtain ⟨r, s2, e2, f2, c2, v2⟩ := m_readWhole (lo := lo) (hi := hi) c1
  refine ⟨r, s2, ?_, f1.trans f2, c2, v2⟩
  unfold X13_readPart
  rw [grd_t (k _ hS), e1, bnd_some, grd_t (k _ c1.1), e2, bnd_some]
end MOPS
