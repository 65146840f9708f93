/-! as told, some unsure dead slipping otherwise; who isn't heard so -/
theorem iter_invF {α : Type} {body : (α → Rs) → α → Rs} {Q : Rs → Prop} (I : Nat → α → Prop) (n : Nat)
    (hs : ∀ k, k < n → ∀ a, I k a → ∃ a', I (k + 1) a' ∧ ∀ rec, body rec a = rec a') (he : ∀ a, I n a → ∀ rec, Q (body rec a)) :
    ∀ (m fuel : Nat) (a : α), m ≤ n → m < fuel → I (n - m) a → Q (iter body fuel a)
  | 0, 0, _, _, h, _ => absurd h (Nat.lt_irrefl 0)
  | 0, g + 1, a, _, _, hI => he a hI _
  | m + 1, 0, _, _, h, _ => absurd h (Nat.not_lt_zero _)
  | m + 1, g + 1, a, hn, h, hI => by
    obtain ⟨a', h1, h2⟩ := hs (n - (m + 1)) (by omega) a hI
    show Q (body (iter body g) a)
    rw [h2]
    refine iter_invF I n hs he m g a' (by omega) (by omega) ?_
    rw [show n - m = n - (m + 1) + 1 by omega]
    exact h1
theorem iter_inv {α : Type} {body : (α → Rs) → α → Rs} {Q : Rs → Prop} (I : Nat → α → Prop) (n fuel : Nat) (a : α) (hf : n < fuel) (h0 : I 0 a)
    (hs : ∀ k, k < n → ∀ a, I k a → ∃ a', I (k + 1) a' ∧ ∀ rec, body rec a = rec a') (he : ∀ a, I n a → ∀ rec, Q (body rec a)) : Q (iter body fuel a) :=
  iter_invF I n hs he n fuel a (Nat.le_refl _) hf (by rw [Nat.sub_self]; exact h0)
def bitB (x k : Nat) : Bool := decide (x / 2 ^ k % 2 = 1)
def suppK (T : Tw) (x : Nat) (k : Nat) : Nw := fo (fun k N => if bitB x k = true then sliN N (tUd T k) (tUs T k) else N) (tN T) k
def suppN (T : Tw) (x : Nat) : Nw := suppK T x (tU T)
def notT (T : Tw) (x : Nat) : Int := fnV (fun k => decide (¬ heaT T (suppN T x) (tQd T k) (tQn T k) = tQp T k)) (tQ T) (fun k => (k : Int))
/-- a town as it may be told: bounds, and where all are at first -/
def TFK (T : Tw) : Prop := TOK T ∧ NOK T (tN T) ∧ nN (tN T) = 0
theorem suppK_ok {T : Tw} (hT : TFK T) (x : Nat) : ∀ k, k ≤ tU T → NOK T (suppK T x k)
  | 0, _ => hT.2.1
  | k + 1, h => by
    have ih := suppK_ok hT x k (by omega)
    show NOK T (if bitB x k = true then sliN (suppK T x k) (tUd T k) (tUs T k) else suppK T x k)
    split
    · exact ih.sli (hT.1.2.2.1 k (by omega)).2
    · exact ih
def rwN (T : Tw) (x : Nat) (f : Nat → Int) (k : Nat) : Nat → Int := fo (fun k f => if bitB x k = true then (fun j => if j = 6 + tUd T k then tUs T k else f j) else f) f k
theorem rwN_ok {T : Tw} (hT : TFK T) {f : Nat → Int} (x : Nat) (hf : RXf f T (tN T)) : ∀ k, k ≤ tU T → RXf (rwN T x f k) T (suppK T x k)
  | 0, _ => hf
  | k + 1, h => by
    have ih := rwN_ok hT x hf k (by omega)
    show RXf (if bitB x k = true then (fun j => if j = 6 + tUd T k then tUs T k else rwN T x f k j) else rwN T x f k) T (if bitB x k = true then sliN (suppK T x k) (tUd T k) (tUs T k) else suppK T x k)
    split
    · exact ih.sli hT.1 (hT.1.2.2.1 k (by omega)).1
    · exact ih
def tf1 (s : St) (k j : Nat) : Int := if j < k then 0 else gI s 79 j
def tf2 (s : St) (t : Int) (k j : Nat) : Int := if j < k then gI s (t + 1) j else if j < 19 then 0 else gI s 79 j
def tf3 (s : St) (t : Int) (k j : Nat) : Int := if 6 ≤ j ∧ j < 6 + k then gI s (t + 3) (j - 6) else if 12 ≤ j ∧ j < 12 + k then gI s (t + 5) (j - 12) else tf2 s t 6 j
theorem tf3_ok {T : Tw} {t : Int} {s : St} (hT : TFK T) (hM : MW T t s) : RXf (tf3 s t 6) T (tN T) := by
  have t5 := hT.1.1.2.2.2.2.1
  have t6 := hT.1.1.2.2.2.2.2.1
  obtain ⟨w1, w2, w3, w4, w5, w6, w7, w8, w9, w10⟩ := hM
  refine ⟨fun p hp => ?_, fun d hd => ⟨?_, ?_⟩, ?_⟩
  · unfold tf3 tf2
    rw [if_neg (by omega), if_neg (by omega), if_pos (by omega)]
    exact w9 p hp
  · unfold tf3
    rw [if_pos (by omega), show 6 + d - 6 = d by omega]
    exact (w10 d hd).1
  · unfold tf3
    rw [if_neg (by omega), if_pos (by omega), show 12 + d - 12 = d by omega]
    exact (w10 d hd).2
  · unfold tf3 tf2
    rw [if_neg (by omega), if_neg (by omega), if_neg (by omega), if_pos (by omega)]
    exact hT.2.2.symm
section TOLD
variable {s : St} {T : Tw} {N : Nw} {t : Int} {x : Nat}
theorem t79 (h : 89 ≤ t) : (¬ t.toNat = 79 ∧ ¬ (t + 1).toNat = 79 ∧ ¬ (t + 2).toNat = 79 ∧ ¬ (t + 3).toNat = 79 ∧ ¬ (t + 4).toNat = 79 ∧ ¬ (t + 5).toNat = 79 ∧ ¬ (t + 6).toNat = 79 ∧ ¬ (t + 7).toNat = 79 ∧ ¬ (t + 8).toNat = 79 ∧ ¬ (t + 9).toNat = 79 ∧ ¬ (t + 10).toNat = 79) := by omega
theorem bit_e {k : Nat} (hx : x < 64) (hk : k < 6) : X13_bit s (x : Int) (k : Int) = some (if bitB x k = true then 1 else 0, s) := by
  rw [m_bit hx hk]
  unfold bitB
  by_cases h : x / 2 ^ k % 2 = 1 <;> simp [h]
theorem m_asTold (hT : TFK T) (hM : MW T t s) (hx : x < 64) : X13_asTold s 76 x = some (0, sR s 79 (rwN T x (tf3 s t 6) (tU T))) := by
  have hS := hM.1
  have hF := mF hM
  have h7 := t79 hM.2.2.2.1
  have t6 := hT.1.1.2.2.2.2.2.1
  have t7 := hT.1.1.2.2.2.2.2.2.1
  have l4 : X13_asTold_b102 FU (sR s 79 (tf3 s t 6)) 76 x 0 = some (0, sR s 79 (rwN T x (tf3 s t 6) (tU T))) := by
    unfold X13_asTold_b102
    refine iter_run (tU T) FU (fun k : Nat => (sR s 79 (rwN T x (tf3 s t 6) k), (76 : Int), (x : Int), (k : Int))) (by clear hF h7; unfold FU; omega) (fun k hk rec => ?_) (fun rec => ?_)
    · have g1 : ¬ tU T ≤ k := by clear hF h7; omega
      have g2 : (k : Int) < 4 := by clear hF h7; omega
      have hk6 : k ≤ 6000 := by clear hF h7; omega
      have u := hT.1.2.2.1 k hk
      obtain ⟨e1, e2⟩ := hM.2.2.2.2.2.2.1 k hk
      have g3 : (0 : Int) ≤ 6 + (tUd T k : Int) := by clear hF h7; omega
      have g4 : (6 : Int) + (tUd T k : Int) < 19 := by clear hF h7; omega
      have i1 : (6 + (tUd T k : Int)).toNat = 6 + tUd T k := by clear hF h7; omega
      have eb := bit_e (s := sR s 79 (rwN T x (tf3 s t 6) k)) hx (k := k) (by clear hF h7; omega)
      have es : rwN T x (tf3 s t 6) (k + 1) = if bitB x k = true then (fun j => if j = 6 + tUd T k then tUs T k else rwN T x (tf3 s t 6) k j) else rwN T x (tf3 s t 6) k := rfl
      have w6 : w32 (6 + (tUd T k : Int)) = 6 + (tUd T k : Int) := w32e (by clear hF h7; omega)
      have hw := wk1 hk6
      by_cases h : bitB x k = true
      · rw [if_pos h] at es
        simp [X13_asTold_b102_body, X13_asTold_b147, tF, sRF, isK, shF hS, gI_sR, hF, h7, g1, g2, eb, h, e1, e2, w6, g3, g4, i1, sR_pI, es, hw]
      · rw [if_neg h] at es
        simp [X13_asTold_b102_body, X13_asTold_b147, tF, sRF, isK, shF hS, gI_sR, hF, h7, g1, eb, h, es, hw]
    · simp [X13_asTold_b102_body, tF, sRF, isK, shF hS, gI_sR, hF, h7]
  have l3 : X13_asTold_b52 FU (sR s 79 (tf2 s t 6)) 76 x 0 = some (0, sR s 79 (rwN T x (tf3 s t 6) (tU T))) := by
    unfold X13_asTold_b52
    rw [show sR s 79 (tf2 s t 6) = sR s 79 (tf3 s t 0) by
      congr 1
      funext j
      unfold tf3
      rw [if_neg (by clear hF h7; omega), if_neg (by clear hF h7; omega)]]
    refine iter_run 6 FU (fun k : Nat => (sR s 79 (tf3 s t k), (76 : Int), (x : Int), (k : Int))) (by clear hF h7; unfold FU; omega) (fun k hk rec => ?_) (fun rec => ?_)
    · have g1 : ¬ (6 : Int) ≤ k := by clear hF h7; omega
      have g2 : (k : Int) < 6 := by clear hF h7; omega
      have hk6 : k ≤ 6000 := by clear hF h7; omega
      have g3 : (0 : Int) ≤ 6 + (k : Int) := by clear hF h7; omega
      have g4 : (6 : Int) + (k : Int) < 19 := by clear hF h7; omega
      have g5 : (0 : Int) ≤ 12 + (k : Int) := by clear hF h7; omega
      have g6 : (12 : Int) + (k : Int) < 19 := by clear hF h7; omega
      have i1 : (6 + (k : Int)).toNat = 6 + k := by clear hF h7; omega
      have i2 : (12 + (k : Int)).toNat = 12 + k := by clear hF h7; omega
      have hf : (fun j => if j = 12 + k then gI s (t + 5) k else if j = 6 + k then gI s (t + 3) k else tf3 s t k j) = tf3 s t (k + 1) := by
        funext j
        unfold tf3
        by_cases h1 : j = 12 + k
        · rw [if_pos h1, if_neg (by clear hF h7; omega), if_pos (by clear hF h7; omega), show j - 12 = k by clear hF h7; omega]
        · rw [if_neg h1]
          by_cases h2 : j = 6 + k
          · rw [if_pos h2, if_pos (by clear hF h7; omega), show j - 6 = k by clear hF h7; omega]
          · rw [if_neg h2]
            by_cases h3 : 6 ≤ j ∧ j < 6 + k
            · rw [if_pos h3, if_pos (by clear hF h7; omega)]
            · by_cases h4 : 12 ≤ j ∧ j < 12 + k
              · rw [if_neg h3, if_pos h4, if_neg (by clear hF h7; omega), if_pos (by clear hF h7; omega)]
              · rw [if_neg h3, if_neg h4, if_neg (by clear hF h7; omega), if_neg (by clear hF h7; omega)]
      have w6 : w32 (6 + (k : Int)) = 6 + (k : Int) := w32e (by clear hF h7; omega)
      have w12 : w32 (12 + (k : Int)) = 12 + (k : Int) := w32e (by clear hF h7 w6; omega)
      have hw := wk1 hk6
      simp [X13_asTold_b52_body, tF, sRF, isK, shF hS, gI_sR, hF, h7, g1, g2, w6, w12, g3, g4, g5, g6, i1, i2, sR_pI, hf, hw]
    · simp only [X13_asTold_b52_body]
      rw [if_pos (by decide)]
      exact l4
  have l2 : X13_asTold_b23 FU (sR s 79 (tf1 s 19)) 76 x 0 = some (0, sR s 79 (rwN T x (tf3 s t 6) (tU T))) := by
    unfold X13_asTold_b23
    rw [show sR s 79 (tf1 s 19) = sR s 79 (tf2 s t 0) by
      congr 1]
    refine iter_run 6 FU (fun k : Nat => (sR s 79 (tf2 s t k), (76 : Int), (x : Int), (k : Int))) (by clear hF h7; unfold FU; omega) (fun k hk rec => ?_) (fun rec => ?_)
    · have g1 : ¬ (6 : Int) ≤ k := by clear hF h7; omega
      have g2 : (k : Int) < 6 := by clear hF h7; omega
      have g3 : (k : Int) < 19 := by clear hF h7; omega
      have hk6 : k ≤ 6000 := by clear hF h7; omega
      have hf : (fun j => if j = k then gI s (t + 1) k else tf2 s t k j) = tf2 s t (k + 1) := by
        funext j
        unfold tf2
        by_cases h1 : j = k
        · rw [if_pos h1, if_pos (by clear hF h7; omega), h1]
        · rw [if_neg h1]
          by_cases h2 : j < k
          · rw [if_pos h2, if_pos (by clear hF h7; omega)]
          · rw [if_neg h2, if_neg (show ¬ j < k + 1 by clear hF h7; omega)]
      have hw := wk1 hk6
      simp [X13_asTold_b23_body, tF, sRF, isK, shF hS, gI_sR, hF, h7, g1, g2, g3, sR_pI, hf, hw]
    · simp only [X13_asTold_b23_body]
      rw [if_pos (by decide)]
      exact l3
  unfold X13_asTold X13_asTold_b2
  rw [show (s, (76 : Int), (x : Int), (0 : Int)) = (fun k : Nat => (sR s 79 (tf1 s k), (76 : Int), (x : Int), (k : Int))) 0 by
    show _ = (sR s 79 (fun j => gI s 79 j), (76 : Int), (x : Int), (0 : Int))
    rw [sR_self]]
  refine iter_run 19 FU (fun k : Nat => (sR s 79 (tf1 s k), (76 : Int), (x : Int), (k : Int))) (by clear hF h7; unfold FU; omega) (fun k hk rec => ?_) (fun rec => ?_)
  · have g1 : ¬ (19 : Int) ≤ k := by clear hF h7; omega
    have g2 : (k : Int) < 19 := by clear hF h7; omega
    have hk6 : k ≤ 6000 := by clear hF h7; omega
    have hf : (fun j => if j = k then (0 : Int) else tf1 s k j) = tf1 s (k + 1) := by
      funext j
      unfold tf1
      by_cases h1 : j = k
      · rw [if_pos h1, if_pos (by clear hF h7; omega)]
      · rw [if_neg h1]
        by_cases h2 : j < k
        · rw [if_pos h2, if_pos (by clear hF h7; omega)]
        · rw [if_neg h2, if_neg (by clear hF h7; omega)]
    have hw := wk1 hk6
    simp [X13_asTold_b2_body, tF, sRF, isK, shF hS, g1, g2, sR_pI, hf, hw]
  · simp only [X13_asTold_b2_body]
    rw [if_pos (by decide)]
    exact l2
theorem MW.sr79 (h : MW T t s) (f : Nat → Int) : MW T t (sR s 79 f) := h.fr (L := fun a => a = 79) (Fr_sR rfl) (fun a ha q => by omega)
theorem m_wrongHeard (hT : TFK T) (hM : MW T t s) (hx : x < 64) : X13_wrongHeard s 76 x = some (notT T x, sR s 79 (rwN T x (tf3 s t 6) (tU T))) := by
  have hS := hM.1
  have e0 := m_asTold hT hM hx
  have hW : WM T (suppN T x) t (sR s 79 (rwN T x (tf3 s t 6) (tU T))) := ⟨hM.sr79 _, suppK_ok hT x _ (Nat.le_refl _), by
    have : (fun j => gI (sR s 79 (rwN T x (tf3 s t 6) (tU T))) 79 j) = rwN T x (tf3 s t 6) (tU T) := by
      funext j; rw [gI_sR]; simp
    rw [this]
    exact rwN_ok hT x (tf3_ok hT hM) _ (Nat.le_refl _)⟩
  generalize sR s 79 (rwN T x (tf3 s t 6) (tU T)) = s1 at e0 hW
  have hS1 := hW.1.1
  have hF := mF hW.1
  have t8 := hT.1.1.2.2.2.2.2.2.2
  unfold X13_wrongHeard
  simp [tF, isK, shF hS, e0]
  unfold X13_wrongHeard_b7 notT
  refine (iter_fnd (fun k : Nat => (s1, (76 : Int), (k : Int))) (tQ T) (fun k => decide (¬ heaT T (suppN T x) (tQd T k) (tQn T k) = tQp T k)) (fun k => some ((k : Int), s1)) (some (-2, s1)) FU (by clear hF; unfold FU; omega) (fun k hk rec => ?_) (fun rec => ?_)).trans ?_
  · have g1 : ¬ tQ T ≤ k := by clear hF; omega
    have g2 : (k : Int) < 8 := by clear hF; omega
    have hk6 : k ≤ 6000 := by clear hF; omega
    obtain ⟨e1, e2, e3⟩ := hW.1.2.2.2.2.2.2.2.1 k hk
    obtain ⟨q1, q2, q3⟩ := hT.1.2.2.2 k hk
    have e := m_hea (night := tQn T k) hW q1 (by clear hF; omega)
    have hw := wk1 hk6
    by_cases h : heaT T (suppN T x) (tQd T k) (tQn T k) = tQp T k <;>
    simp [X13_wrongHeard_b7_body, tF, isK, shF hS1, hF, g1, g2, e1, e2, e3, e, h, hw]
  · simp [X13_wrongHeard_b7_body, tF, isK, shF hS1, hF]
  · unfold fnV
    split <;> simp_all
end TOLD
