/-! likes, restless as calls -/
def q_likes (W : Wd) (p q n : Int) : Int × Int := rd W (fun T => g2 ((0 ≤ p ∧ p < tP T) ∧ (0 ≤ q ∧ q < tP T) ∧ ¬ p = q) (0 ≤ n ∧ n ≤ 99)) (fun T N => if likB T N n p.toNat q.toNat = true then 1 else 0)
/-- pairs as the class counts them, and as the reference does -/
def prC (f : Nat → Nat → Bool) (n : Nat) (p : Nat) : Nat := fo (fun p a => a + cnt (fun j => f p (p + 1 + j)) (n - (p + 1))) 0 p
def prM (f : Nat → Nat → Bool) (p : Nat) : Nat := fo (fun p a => a + cnt (fun q => f p q) p) 0 p
theorem pr_eq {f : Nat → Nat → Bool} (hf : ∀ i j, f i j = f j i) : ∀ n, n ≤ 6 → prC f n n = prM f n := by
  have h : ∀ i j, (if f j i = true then 1 else 0) = (if f i j = true then 1 else 0 : Nat) := fun i j => by rw [hf]
  intro n hn
  have hc : n = 0 ∨ n = 1 ∨ n = 2 ∨ n = 3 ∨ n = 4 ∨ n = 5 ∨ n = 6 := by omega
  have h10 := h 0 1; have h20 := h 0 2; have h30 := h 0 3; have h40 := h 0 4; have h50 := h 0 5
  have h21 := h 1 2; have h31 := h 1 3; have h41 := h 1 4; have h51 := h 1 5
  have h32 := h 2 3; have h42 := h 2 4; have h52 := h 2 5
  have h43 := h 3 4; have h53 := h 3 5; have h54 := h 4 5
  rcases hc with rfl | rfl | rfl | rfl | rfl | rfl | rfl <;> simp only [prC, prM, fo, cnt, Nat.zero_add, Nat.add_zero, Nat.reduceAdd, Nat.reduceSub, Nat.sub_self] <;> omega
def q_restless (W : Wd) (n : Int) : Int × Int := rd W (fun _ => g2 True (0 ≤ n ∧ n ≤ 99)) (fun T N => (prM (likB T N n) (tP T) : Int))
theorem prC_b (f : Nat → Nat → Bool) (n : Nat) (hn : n ≤ 6) : ∀ p, prC f n p ≤ 6 * p
  | 0 => Nat.le_refl _
  | p + 1 => by
    have ih := prC_b f n hn p
    have := cnt_le (fun j => f p (p + 1 + j)) (n - (p + 1))
    show prC f n p + cnt (fun j => f p (p + 1 + j)) (n - (p + 1)) ≤ _
    omega
theorem prM_b (f : Nat → Nat → Bool) : ∀ p, p ≤ 6 → prM f p ≤ 6 * p
  | 0, _ => Nat.le_refl _
  | p + 1, h => by
    have ih := prM_b f p (by omega)
    have := cnt_le (fun q => f p q) p
    show prM f p + cnt (fun q => f p q) p ≤ _
    omega
section RESTLESS
variable {s : St} {T : Tw} {N : Nw} {t : Int} {night : Int}
theorem l_restless (hW : WC T N s) (hw : WTH s T N night) : X11_restless_b33 FU s 0 0 0 = some ((prC (likB T N night) (tP T) (tP T) : Int), s) := by
  have hS := hW.1
  have hT := hW.2.1
  have t5 := hT.1.2.2.2.2.1
  have c2 := hW.2.2.2.1.1.2.2.1
  unfold X11_restless_b33
  refine iter_run (tP T) FU (fun k : Nat => (s, (0 : Int), ((prC (likB T N night) (tP T) k : Nat) : Int), (k : Int))) (by unfold FU; omega) (fun k hk rec => ?_) (fun rec => ?_)
  · have pb := prC_b (likB T N night) (tP T) t5 k
    have es : prC (likB T N night) (tP T) (k + 1) = prC (likB T N night) (tP T) k + cnt (fun j => likB T N night k (k + 1 + j)) (tP T - (k + 1)) := rfl
    have inner : X11_restless_b49 (fun (s : St) (x0 x2 x3 : Int) => rec (s, x0, x2, x3)) FU s 0 (prC (likB T N night) (tP T) k : Int) k ((k + 1 : Nat) : Int) = rec (s, (0 : Int), ((prC (likB T N night) (tP T) (k + 1) : Nat) : Int), ((k + 1 : Nat) : Int)) := by
      rw [es]
      unfold X11_restless_b49
      rw [show (s, (0 : Int), ((prC (likB T N night) (tP T) k : Nat) : Int), (k : Int), ((k + 1 : Nat) : Int)) = (fun j : Nat => (s, (0 : Int), ((prC (likB T N night) (tP T) k + cnt (fun j => likB T N night k (k + 1 + j)) j : Nat) : Int), (k : Int), ((k + 1 + j : Nat) : Int))) 0 from rfl]
      refine iter_run (tP T - (k + 1)) FU (fun j : Nat => (s, (0 : Int), ((prC (likB T N night) (tP T) k + cnt (fun j => likB T N night k (k + 1 + j)) j : Nat) : Int), (k : Int), ((k + 1 + j : Nat) : Int))) (by unfold FU; omega) (fun j hj rec2 => ?_) (fun rec2 => ?_)
      · have g1 : ¬ (tP T : Int) ≤ ((k + 1 + j : Nat) : Int) := by omega
        have e := c_liked hS hT hw hk (q := k + 1 + j) (by omega)
        have cl := cnt_le (fun j => likB T N night k (k + 1 + j)) j
        have h6 : k + 1 + j ≤ 6000 := by omega
        have h7 : prC (likB T N night) (tP T) k + cnt (fun j => likB T N night k (k + 1 + j)) j ≤ 6000 := by omega
        have hv := wk1 h6
        have hv2 := wk1 h7
        by_cases y : likB T N night k (k + 1 + j) = true
        · have hb := cnt_s1 (P := fun j => likB T N night k (k + 1 + j)) (d := j) y
          rw [if_pos y] at e
          simp only [X11_restless_b49_body, X11_restless_b77]
          simp only [tF, isK, shF hS, c2, e, hv, hv2, hb]
          rw [if_neg g1]
          simp
          rfl
        · have hb := cnt_s0 (P := fun j => likB T N night k (k + 1 + j)) (d := j) y
          rw [if_neg y] at e
          simp only [X11_restless_b49_body, X11_restless_b77]
          simp only [tF, isK, shF hS, c2, e, hv, hb]
          rw [if_neg g1]
          simp
          rfl
      · have g1 : (tP T : Int) ≤ ((k + 1 + (tP T - (k + 1)) : Nat) : Int) := by omega
        have hv := wk1 (k := k) (by omega)
        simp only [X11_restless_b49_body]
        simp only [tF, isK, shF hS, c2, hv]
        rw [if_pos g1]
        simp
    have g1 : ¬ (tP T : Int) ≤ (k : Int) := by omega
    have hv := wk1 (k := k) (by omega)
    simp only [X11_restless_b33_body]
    simp only [tF, isK, shF hS, c2, hv]
    rw [if_neg g1]
    simp
    exact inner
  · simp [X11_restless_b33_body, tF, isK, shF hS, c2]
theorem r_restless (hM : MW T t s) (hN : NOK T N) (hx : RXf (fun j => gI s 78 j) T N) (hn : 0 ≤ night ∧ night ≤ 99) : ∃ s1, X13_restless_b38 FU s 76 night 0 0 = some ((prM (likB T N night) (tP T) : Int), fiM 0 s1) ∧ Mv s s1 := by
  have hT := hM.2.1
  have t5 := hT.1.2.2.2.2.1
  unfold X13_restless_b38
  refine iter_inv (Q := fun F => ∃ s1, F = some ((prM (likB T N night) (tP T) : Int), fiM 0 s1) ∧ Mv s s1) (fun k a => a.2 = ((76 : Int), night, ((prM (likB T N night) k : Nat) : Int), (k : Int)) ∧ Mv s a.1) (tP T) FU _ (by unfold FU; omega) ⟨rfl, Mv.refl _⟩ (fun k hk a ha => ?_) (fun a ha rec => ?_)
  · obtain ⟨s4, a2⟩ := a
    obtain ⟨a1, a2⟩ := ha
    simp only at a1
    subst a1
    simp only at a2
    have pb := prM_b (likB T N night) k (by omega)
    have es : prM (likB T N night) (k + 1) = prM (likB T N night) k + cnt (fun q => likB T N night k q) k := rfl
    have hgo := iter_go (α := St × Int × Int × Int × Int × Int) (body := fun (rk38 : St → Int → Int → Int → Int → Rs) (rec : St × Int × Int × Int × Int × Int → Rs) (a : St × Int × Int × Int × Int × Int) => X13_restless_b53_body rk38 (fun (s : St) (x0 x1 x3 x4 x5 : Int) => rec (s, x0, x1, x3, x4, x5)) a.1 a.2.1 a.2.2.1 a.2.2.2.1 a.2.2.2.2.1 a.2.2.2.2.2) (fun j a => a.2 = ((76 : Int), night, ((prM (likB T N night) k + cnt (fun q => likB T N night k q) j : Nat) : Int), (k : Int), (j : Int)) ∧ Mv s a.1) k (s4, 76, night, ((prM (likB T N night) k : Nat) : Int), k, 0) ⟨rfl, a2⟩ (fun j hj (a : St × Int × Int × Int × Int × Int) ha => by
      obtain ⟨s5, b2⟩ := a
      obtain ⟨b1, b2⟩ := ha
      simp only at b1
      subst b1
      simp only at b2
      have hM5 := hM.mv b2
      have hS5 := hM5.1
      have hx5 : RXf (fun j => gI s5 78 j) T N := by simp only [mv_x78 b2]; exact hx
      obtain ⟨s6, f1, f2⟩ := m_liked (p := k) (q := j) hM5 hN hx5 hk (by omega) (by omega) hn
      have cl := cnt_le (fun q => likB T N night k q) j
      have g1 : ¬ (k : Int) ≤ (j : Int) := by omega
      have h6 : j ≤ 6000 := by omega
      have h7 : prM (likB T N night) k + cnt (fun q => likB T N night k q) j ≤ 6000 := by omega
      refine ⟨(s6, (76 : Int), night, ((prM (likB T N night) k + cnt (fun q => likB T N night k q) (j + 1) : Nat) : Int), (k : Int), ((j + 1 : Nat) : Int)), ⟨rfl, b2.trans f2⟩, fun rk rec => ?_⟩
      have hv := wk1 h6
      have hv2 := wk1 h7
      have hv0 := wk0 h7
      by_cases y : likB T N night k j = true
      · have hb := cnt_s1 (P := fun q => likB T N night k q) (d := j) y
        rw [if_pos y] at f1
        simp only [X13_restless_b53_body, X13_restless_b78]
        rw [if_neg g1]
        simp only [tF, isK, shF hS5, f1, hv, hb]
        simp
        have hv2' := hv2
        simp at hv2'
        rw [hv2']
        simp [Int.add_assoc]
      · have hb := cnt_s0 (P := fun q => likB T N night k q) (d := j) y
        rw [if_neg y] at f1
        simp only [X13_restless_b53_body, X13_restless_b78]
        rw [if_neg g1]
        simp only [tF, isK, shF hS5, f1, hv, hb]
        simp
        have hv0' := hv0
        simp at hv0'
        rw [hv0'])
    obtain ⟨⟨s5, b0⟩, ⟨b1, b2⟩, hg⟩ := hgo
    simp only at b1
    subst b1
    simp only at b2
    have hM4 := hM.mv a2
    have hS4 := hM4.1
    have hF4 := mF hM4
    refine ⟨(s5, (76 : Int), night, ((prM (likB T N night) (k + 1) : Nat) : Int), ((k + 1 : Nat) : Int)), ⟨rfl, b2⟩, fun rec => ?_⟩
    have g1 : ¬ (tP T : Int) ≤ (k : Int) := by clear hF4; omega
    have e53 : X13_restless_b53 (fun (s : St) (x0 x1 x3 x4 : Int) => rec (s, x0, x1, x3, x4)) FU s4 76 night ((prM (likB T N night) k : Nat) : Int) k 0 = rec (s5, (76 : Int), night, ((prM (likB T N night) (k + 1) : Nat) : Int), ((k + 1 : Nat) : Int)) := by
      refine (hg _ FU (by clear hF4; unfold FU; omega)).trans ?_
      have hv := wk1 (k := k) (by clear hF4; omega)
      simp only [X13_restless_b53_body]
      rw [if_pos (Int.le_refl _), hv, es]
      rfl
    simp only [X13_restless_b38_body]
    simp only [tF, isK, shF hS4, hF4]
    rw [if_neg g1]
    simp
    exact e53
  · obtain ⟨s4, a2⟩ := a
    obtain ⟨a1, a2⟩ := ha
    simp only at a1
    subst a1
    simp only at a2
    have hM4 := hM.mv a2
    have hS4 := hM4.1
    have hF4 := mF hM4
    exact ⟨s4, by simp [X13_restless_b38_body, tF, isK, shF hS4, hF4, m_good hS4], a2⟩
end RESTLESS
section LKCALL
variable {W : Wd} {s : St}
theorem cc_likes (h : CW W s) (p q n : Int) : CR s (q_likes W p q n).1 (q_likes W p q n).2 (X11_likes s 0 p q n) := by
  obtain ⟨hS, ⟨h0, h2, h3⟩, hW⟩ := h
  have eP := c_pers hS h2
  unfold X11_likes
  rcases W with _ | ⟨T, N⟩
  · refine CR_eq ?_
    have a0 : ¬ (0 ≤ p ∧ p < 0) := by omega
    simp [tF, isK, shF hS, eP, c_night, c_ref hS, q_likes, rd, nP, a0, X11_likes_b22, X11_likes_b27]
  · have hW0 := hW T N rfl
    have hW1 := hW0.tr 2 0
    by_cases j : ((0 ≤ p ∧ p < tP T) ∧ (0 ≤ q ∧ q < tP T) ∧ ¬ p = q) ∧ (0 ≤ n ∧ n ≤ 99)
    · obtain ⟨⟨j0, j1, j2⟩, j3⟩ := j
      obtain ⟨p, rfl, hp⟩ := nat_of j0
      obtain ⟨q, rfl, hq⟩ := nat_of j1
      have j2' : ¬ p = q := by omega
      have hv : q_likes (some (T, N)) p q n = (0, if likB T N n p q = true then 1 else 0) := by simp [q_likes, rd, g2, hp, hq, j2, j3]
      rw [hv]
      obtain ⟨s4, f1, f2, f3⟩ := weigh_e hW1 j3
      have hS4 : Sh s4 := by rw [f2.sh]; exact hW1.1
      have e := c_liked hS4 hW0.2.1 f3 hp hq
      refine CR_of (s1 := s4) ?_ f2
      by_cases y : likB T N n p q = true <;>
      simp [tF, isK, shF hS, shF hS4, eP, c_night, c_ref hS, nP, hp, hq, j2, j3, X11_likes_b22, X11_likes_b27, X11_likes_b68, f1, e, y]
    · refine CR_eq ?_
      by_cases j0 : 0 ≤ p ∧ p < tP T
      · by_cases j1 : 0 ≤ q ∧ q < tP T
        · by_cases j2 : p = q
          · simp [tF, isK, shF hS, eP, c_night, c_ref hS, q_likes, rd, g2, nP, j1, j2, X11_likes_b22, X11_likes_b27]
          · have j3 : ¬ (0 ≤ n ∧ n ≤ 99) := fun z => j ⟨⟨j0, j1, j2⟩, z⟩
            simp [tF, isK, shF hS, eP, c_night, c_ref hS, q_likes, rd, g2, nP, j0, j1, j2, j3, X11_likes_b22, X11_likes_b27]
        · simp [tF, isK, shF hS, eP, c_night, c_ref hS, q_likes, rd, g2, nP, j0, j1, X11_likes_b22, X11_likes_b27]
      · simp [tF, isK, shF hS, eP, c_night, c_ref hS, q_likes, rd, g2, nP, j0, X11_likes_b22, X11_likes_b27]
theorem mm_likes (h : MWd W s) (p q n : Int) : MR s (q_likes W p q n).1 (q_likes W p q n).2 (X13_likes s 76 p q n) := by
  obtain ⟨hS, hno, hW⟩ := h
  have hS1 : Sh (pI s 76 0 0) := hS
  unfold X13_likes
  rcases W with _ | ⟨T, N⟩
  · have hn := hno rfl
    have hn1 : gR (pI s 76 0 0) 76 3 < 0 := hn
    refine MR_no ?_
    simp [tF, isK, shF hS, X13_areTwo, X13_areTwo_b25, X13_areTwo_b26, m_rn, m_refd hS1, n_pers hS1 hn1, q_likes, rd]
  · obtain ⟨t, hM, hN, hx⟩ := hW T N rfl
    have hM1 := hM.tr 0 0
    by_cases j : ((0 ≤ p ∧ p < tP T) ∧ (0 ≤ q ∧ q < tP T) ∧ ¬ p = q) ∧ (0 ≤ n ∧ n ≤ 99)
    · obtain ⟨⟨j0, j1, j2⟩, j3⟩ := j
      obtain ⟨p, rfl, hp⟩ := nat_of j0
      obtain ⟨q, rfl, hq⟩ := nat_of j1
      have j2' : ¬ p = q := by omega
      have hv : q_likes (some (T, N)) p q n = (0, if likB T N n p q = true then 1 else 0) := by simp [q_likes, rd, g2, hp, hq, j2, j3]
      rw [hv]
      obtain ⟨s4, f1, f2⟩ := m_liked (s := pI s 76 0 0) (p := p) (q := q) hM1 hN hx hp hq j2' j3
      have hS4 : Sh s4 := by rw [f2.1.sh]; exact hS1
      refine MR_of ((Mv_pI (k := 0) (x := 0) (by decide)).trans f2) ?_
      by_cases y : likB T N n p q = true <;>
      simp [tF, isK, shF hS, shF hS4, X13_areTwo, X13_areTwo_b25, X13_areTwo_b26, m_pers hM1, m_rn, hp, hq, j2, j3, X13_likes_b46, f1, y, m_good hS4]
    · refine MR_no ?_
      by_cases j0 : 0 ≤ p ∧ p < tP T
      · by_cases j1 : 0 ≤ q ∧ q < tP T
        · by_cases j2 : p = q
          · simp [tF, isK, shF hS, X13_areTwo, X13_areTwo_b25, X13_areTwo_b26, m_pers hM1, m_rn, m_refd hS1, q_likes, rd, g2, j1, j2]
          · have j3 : ¬ (0 ≤ n ∧ n ≤ 99) := fun z => j ⟨⟨j0, j1, j2⟩, z⟩
            simp [tF, isK, shF hS, X13_areTwo, X13_areTwo_b25, X13_areTwo_b26, m_pers hM1, m_rn, m_refd hS1, q_likes, rd, g2, j0, j1, j2, j3]
        · simp [tF, isK, shF hS, X13_areTwo, X13_areTwo_b25, X13_areTwo_b26, m_pers hM1, m_rn, m_refd hS1, q_likes, rd, g2, j0, j1]
      · simp [tF, isK, shF hS, X13_areTwo, X13_areTwo_b25, X13_areTwo_b26, m_pers hM1, m_rn, m_refd hS1, q_likes, rd, g2, j0]
theorem cc_restless (h : CW W s) (n : Int) : CR s (q_restless W n).1 (q_restless W n).2 (X11_restless s 0 n) := by
  obtain ⟨hS, ⟨h0, h2, h3⟩, hW⟩ := h
  have eT := c_town hS h0
  unfold X11_restless
  rcases W with _ | ⟨T, N⟩
  · refine CR_eq ?_
    simp [tF, isK, shF hS, eT, c_night, c_ref hS, q_restless, rd, nH]
  · have hW0 := hW T N rfl
    have hW1 := hW0.tr 2 0
    have hH0 : ¬ tH T = 0 := by have := hW0.2.1.1.1; omega
    by_cases j1 : 0 ≤ n ∧ n ≤ 99
    · have hv : q_restless (some (T, N)) n = (0, (prM (likB T N n) (tP T) : Int)) := by simp [q_restless, rd, g2, j1]
      rw [hv]
      obtain ⟨s4, f1, f2, f3⟩ := weigh_e hW1 j1
      have hW4 := hW1.cs f2
      have e := l_restless hW4 f3
      rw [pr_eq (likB_sym T N n) _ hW0.2.1.1.2.2.2.2.1] at e
      refine CR_of (s1 := s4) ?_ f2
      simp [tF, isK, shF hS, eT, c_night, c_ref hS, nH, hH0, j1, f1, e]
    · refine CR_eq ?_
      simp [tF, isK, shF hS, eT, c_night, c_ref hS, q_restless, rd, g2, nH, hH0, j1]
theorem mm_restless (h : MWd W s) (n : Int) : MR s (q_restless W n).1 (q_restless W n).2 (X13_restless s 76 n) := by
  obtain ⟨hS, hno, hW⟩ := h
  have hS1 : Sh (pI s 76 0 0) := hS
  unfold X13_restless
  rcases W with _ | ⟨T, N⟩
  · have hn := hno rfl
    refine MR_no ?_
    simp [tF, isK, shF hS, hn, X13_restless_b18, m_rn, m_refd hS1, q_restless, rd]
  · obtain ⟨t, hM, hN, hx⟩ := hW T N rfl
    have hM1 := hM.tr 0 0
    have hF := mF hM
    by_cases j1 : 0 ≤ n ∧ n ≤ 99
    · have hv : q_restless (some (T, N)) n = (0, (prM (likB T N n) (tP T) : Int)) := by simp [q_restless, rd, g2, j1]
      rw [hv]
      obtain ⟨s4, f1, f2⟩ := r_restless (s := pI s 76 0 0) (night := n) hM1 hN hx j1
      refine MR_of ((Mv_pI (k := 0) (x := 0) (by decide)).trans f2) ?_
      simp [tF, isK, shF hS, hF.1, X13_restless_b18, m_rn, j1, f1]
    · refine MR_no ?_
      simp [tF, isK, shF hS, hF.1, X13_restless_b18, m_rn, m_refd hS1, j1, q_restless, rd, g2]
end LKCALL
