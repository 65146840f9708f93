/-! the fits: the class; all calls on them -/
theorem fo_filter {β : Type} {P : Nat → Bool} {arr : Nat → Int} {f : Int → β → β} {a : β} : ∀ n, (∀ x, x < n → P x = true → arr (cnt P x) = (x : Int)) → fo (fun i b => f (arr i) b) a (cnt P n) = fo (fun x b => if P x = true then f (x : Int) b else b) a n
  | 0, _ => rfl
  | n + 1, h => by
    have ih := fo_filter (f := f) (a := a) n (fun x hx => h x (by omega))
    show _ = (if P n = true then f (n : Int) (fo (fun x b => if P x = true then f (x : Int) b else b) a n) else fo (fun x b => if P x = true then f (x : Int) b else b) a n)
    by_cases q : P n = true
    · rw [if_pos q, cnt_s1 q, ← ih]
      show f (arr (cnt P n)) _ = _
      rw [h n (by omega) q]
    · rw [if_neg q, cnt_s0 q, ih]
/-- what the class keeps of the fits -/
def FTc (T : Tw) (s : St) : Prop := gI s 55 1 = (ficT T : Int) ∧ gI s 55 2 = notT T 0 ∧ ∀ x, x < 2 ^ tU T → fitB T x = true → gI s 56 (cnt (fitB T) x) = (x : Int)
def lamF (T : Tw) (k : Nat) : Int := if (othF T k (2 ^ tU T) : Int) < (ficT T : Int) - (othF T k (2 ^ tU T) : Int) then (ficT T : Int) - (othF T k (2 ^ tU T) : Int) else (othF T k (2 ^ tU T) : Int)
def askF (T : Tw) (k : Nat) : Int × Int := fo (fun k b => if lamF T k < b.2 then ((k : Int), lamF T k) else b) ((-2 : Int), (1000000 : Int)) k
def askT (T : Tw) : Int := if ficT T = 0 then -2 else (askF T (tU T)).1
def leaT (T : Tw) : Int := if ficT T = 0 then -2 else if (askF T (tU T)).1 = -2 then -2 else (askF T (tU T)).2
theorem fic_16 {T : Tw} (h : tU T ≤ 4) : ficT T ≤ 16 := Nat.le_trans (cnt_le _ _) (pow4 h)
theorem oth_fic (T : Tw) (k : Nat) : ∀ n, othF T k n ≤ cnt (fitB T) n
  | 0 => Nat.le_refl _
  | n + 1 => by
    have ih := oth_fic T k n
    show cnt (fun x => fitB T x && bitB x k) n + (if (fitB T n && bitB n k) = true then 1 else 0) ≤ cnt (fitB T) n + (if fitB T n = true then 1 else 0)
    unfold othF at ih
    by_cases h : fitB T n = true
    · simp [h]; split <;> omega
    · simp [h]; exact ih
theorem lam_b {T : Tw} (h : tU T ≤ 4) (k : Nat) : 0 ≤ lamF T k ∧ lamF T k ≤ 16 := by
  have h1 := fic_16 h
  have h2 := oth_fic T k (2 ^ tU T)
  unfold lamF ficT at *
  split <;> omega
theorem askF_1 {T : Tw} {k : Nat} (h : lamF T k < (askF T k).2) : askF T (k + 1) = ((k : Int), lamF T k) := by
  show (if lamF T k < (askF T k).2 then ((k : Int), lamF T k) else askF T k) = _
  rw [if_pos h]
theorem askF_0 {T : Tw} {k : Nat} (h : ¬ lamF T k < (askF T k).2) : askF T (k + 1) = askF T k := by
  show (if lamF T k < (askF T k).2 then ((k : Int), lamF T k) else askF T k) = _
  rw [if_neg h]
theorem askF_inv {T : Tw} (hT : tU T ≤ 4) : ∀ k, (k = 0 ∧ askF T k = (-2, 1000000)) ∨ (0 < k ∧ ∃ j : Nat, j < k ∧ askF T k = ((j : Int), lamF T j))
  | 0 => Or.inl ⟨rfl, rfl⟩
  | k + 1 => by
    right
    refine ⟨Nat.succ_pos _, ?_⟩
    by_cases h : lamF T k < (askF T k).2
    · exact ⟨k, by omega, askF_1 h⟩
    · rcases askF_inv hT k with ⟨q, q2⟩ | ⟨-, j, q1, q2⟩
      · exfalso
        rw [q2] at h
        have := lam_b hT k
        simp only at h
        omega
      · exact ⟨j, by omega, (askF_0 h).trans q2⟩
theorem som_fold {T : Tw} : ∀ n, n ≤ 16 → fo (fun x b => if fitB T x = true then or32 b (x : Int) else b) (0 : Int) n = (somF T n : Int)
  | 0, _ => rfl
  | n + 1, h => by
    have ih := som_fold (T := T) n (by omega)
    show (if fitB T n = true then or32 (fo (fun x b => if fitB T x = true then or32 b (x : Int) else b) (0 : Int) n) (n : Int) else fo (fun x b => if fitB T x = true then or32 b (x : Int) else b) (0 : Int) n) = ((if fitB T n = true then somF T n ||| n else somF T n : Nat) : Int)
    rw [ih]
    split
    · exact or16 _ (somF_b T n (by omega)) n (by omega)
    · rfl
theorem andm1 : ∀ x : Nat, x < 16 → and32 (-1) (x : Int) = (x : Int) := by decide +kernel
theorem andfull : ∀ u : Nat, u ≤ 4 → ∀ x : Nat, x < 2 ^ u → (2 ^ u - 1) &&& x = x := by decide +kernel
theorem eve_start {T : Tw} : ∀ n, cnt (fitB T) n = 0 → eveF T n = 2 ^ tU T - 1
  | 0, _ => rfl
  | n + 1, h => by
    have hn : ¬ fitB T n = true := fun q => by rw [cnt_s1 q] at h; omega
    rw [cnt_s0 hn] at h
    show (if fitB T n = true then eveF T n &&& n else eveF T n) = _
    rw [if_neg hn, eve_start n h]
theorem eve_fold {T : Tw} (hT : tU T ≤ 4) : ∀ n, n ≤ 2 ^ tU T → fo (fun x b => if fitB T x = true then and32 b (x : Int) else b) (-1 : Int) n = if cnt (fitB T) n = 0 then -1 else (eveF T n : Int)
  | 0, _ => rfl
  | n + 1, h => by
    have ih := eve_fold hT n (by omega)
    have p4 := pow4 hT
    show (if fitB T n = true then and32 (fo (fun x b => if fitB T x = true then and32 b (x : Int) else b) (-1 : Int) n) (n : Int) else fo (fun x b => if fitB T x = true then and32 b (x : Int) else b) (-1 : Int) n) = _
    rw [ih]
    by_cases q : fitB T n = true
    · rw [if_pos q, cnt_s1 q, if_neg (show ¬ cnt (fitB T) n + 1 = 0 by omega)]
      have e : eveF T (n + 1) = eveF T n &&& n := by
        show (if fitB T n = true then eveF T n &&& n else eveF T n) = _
        rw [if_pos q]
      rw [e]
      by_cases z : cnt (fitB T) n = 0
      · rw [if_pos z, eve_start n z, andfull _ hT n (by omega), andm1 n (by omega)]
      · rw [if_neg z]
        exact and16 _ (eveF_b hT n) n (by omega)
    · rw [if_neg q, cnt_s0 q]
      have e : eveF T (n + 1) = eveF T n := by
        show (if fitB T n = true then eveF T n &&& n else eveF T n) = _
        rw [if_neg q]
      rw [e]
theorem oth_fold {T : Tw} {k : Nat} : ∀ n, fo (fun x b => if fitB T x = true then b + (if bitB x k = true then (1 : Int) else 0) else b) (0 : Int) n = (othF T k n : Int)
  | 0 => rfl
  | n + 1 => by
    have ih := oth_fold (T := T) (k := k) n
    show (if fitB T n = true then fo (fun x b => if fitB T x = true then b + (if bitB x k = true then (1 : Int) else 0) else b) (0 : Int) n + (if bitB n k = true then (1 : Int) else 0) else fo (fun x b => if fitB T x = true then b + (if bitB x k = true then (1 : Int) else 0) else b) (0 : Int) n) = ((cnt (fun x => fitB T x && bitB x k) n + (if (fitB T n && bitB n k) = true then 1 else 0) : Nat) : Int)
    rw [ih]
    unfold othF
    by_cases q : fitB T n = true <;> by_cases z : bitB n k = true <;> simp [q, z]
theorem fou_spec (T : Tw) (i : Int) : ∀ n, (∃ x : Nat, x < n ∧ fitB T x = true ∧ ((cnt (fitB T) x : Nat) : Int) = i ∧ fouF T i n = (x : Int)) ∨ (fouF T i n = -1 ∧ ¬ (0 ≤ i ∧ i < ((cnt (fitB T) n : Nat) : Int)))
  | 0 => Or.inr ⟨rfl, fun q => by have : ((cnt (fitB T) 0 : Nat) : Int) = 0 := rfl; omega⟩
  | n + 1 => by
    have e : fouF T i (n + 1) = if fitB T n = true ∧ ((cnt (fitB T) n : Nat) : Int) = i then (n : Int) else fouF T i n := rfl
    by_cases q : fitB T n = true ∧ ((cnt (fitB T) n : Nat) : Int) = i
    · rw [if_pos q] at e
      exact Or.inl ⟨n, by omega, q.1, q.2, e⟩
    · rw [if_neg q] at e
      rcases fou_spec T i n with ⟨x, a1, a2, a3, a4⟩ | ⟨a1, a2⟩
      · exact Or.inl ⟨x, by omega, a2, a3, e.trans a4⟩
      · refine Or.inr ⟨e.trans a1, fun z => a2 ?_⟩
        by_cases w : fitB T n = true
        · rw [cnt_s1 w] at z
          have : ¬ ((cnt (fitB T) n : Nat) : Int) = i := fun y => q ⟨w, y⟩
          omega
        · rw [cnt_s0 w] at z
          exact z
section FITS
variable {s : St} {T : Tw} {N : Nw} {t : Int} {k : Nat}
theorem inSome_e (hS : Sh s) (hT : tU T ≤ 4) (hQ : FTc T s) : X1_inSome s 55 = some ((somF T (2 ^ tU T) : Int), s) := by
  obtain ⟨q1, q2, q3⟩ := hQ
  have f16 := fic_16 hT
  have e : fo (fun i b => or32 b (gI s 56 i)) (0 : Int) (ficT T) = (somF T (2 ^ tU T) : Int) := (fo_filter (P := fitB T) (arr := fun i => gI s 56 i) (f := fun x b => or32 b x) _ q3).trans (som_fold _ (pow4 hT))
  rw [← e]
  unfold X1_inSome X1_inSome_b4
  refine iter_run (ficT T) FU (fun i : Nat => (s, (55 : Int), fo (fun i b => or32 b (gI s 56 i)) (0 : Int) i, (i : Int))) (by unfold FU; omega) (fun i hi rec => ?_) (fun rec => ?_)
  · have g1 : ¬ ficT T ≤ i := by omega
    have g2 : (i : Int) < 16 := by omega
    have hk6 : i ≤ 6000 := by omega
    have es : fo (fun i b => or32 b (gI s 56 i)) (0 : Int) (i + 1) = or32 (fo (fun i b => or32 b (gI s 56 i)) (0 : Int) i) (gI s 56 i) := rfl
    have hw := wk1 hk6
    simp [X1_inSome_b4_body, tF, isK, shF hS, q1, g1, g2, es, hw]
  · simp [X1_inSome_b4_body, tF, isK, shF hS, q1]
theorem inAll_e (hS : Sh s) (hT : tU T ≤ 4) (hQ : FTc T s) : X1_inAll s 55 = some (if ficT T = 0 then 0 else (eveF T (2 ^ tU T) : Int), s) := by
  obtain ⟨q1, q2, q3⟩ := hQ
  have f16 := fic_16 hT
  have e : fo (fun i b => and32 b (gI s 56 i)) (-1 : Int) (ficT T) = if ficT T = 0 then -1 else (eveF T (2 ^ tU T) : Int) := (fo_filter (P := fitB T) (arr := fun i => gI s 56 i) (f := fun x b => and32 b x) _ q3).trans (eve_fold hT _ (Nat.le_refl _))
  have lp : ∀ a : Int, X1_inAll_b15 FU s 55 a 0 = some (fo (fun i b => and32 b (gI s 56 i)) a (ficT T), s) := by
    intro a
    unfold X1_inAll_b15
    refine iter_run (ficT T) FU (fun i : Nat => (s, (55 : Int), fo (fun i b => and32 b (gI s 56 i)) a i, (i : Int))) (by unfold FU; omega) (fun i hi rec => ?_) (fun rec => ?_)
    · have g1 : ¬ ficT T ≤ i := by omega
      have g2 : (i : Int) < 16 := by omega
      have hk6 : i ≤ 6000 := by omega
      have es : fo (fun i b => and32 b (gI s 56 i)) a (i + 1) = and32 (fo (fun i b => and32 b (gI s 56 i)) a i) (gI s 56 i) := rfl
      have hw := wk1 hk6
      simp [X1_inAll_b15_body, tF, isK, shF hS, q1, g1, g2, es, hw]
    · simp [X1_inAll_b15_body, tF, isK, shF hS, q1]
  have hk : isK s 11 55 := by simp [isK, shF hS]
  unfold X1_inAll X1_inAll_b12
  rw [grd_t hk, q1]
  by_cases z : ficT T = 0
  · rw [if_neg (by omega), lp, if_pos z, z]
    rfl
  · rw [if_pos (by omega), lp, e, if_neg z, if_neg z]
theorem leftAtMost_e (hS : Sh s) (hT : tU T ≤ 4) (hQ : FTc T s) (hk : k < 4) : X1_leftAtMost s 55 k = some (lamF T k, s) := by
  obtain ⟨q1, q2, q3⟩ := hQ
  have f16 := fic_16 hT
  have p4 := pow4 hT
  have of := oth_fic T k (2 ^ tU T)
  have off : othF T k (2 ^ tU T) ≤ ficT T := of
  have e : fo (fun i b => b + and32 (shr32 (gI s 56 i) (k : Int)) 1) (0 : Int) (ficT T) = (othF T k (2 ^ tU T) : Int) := by
    refine (fo_filter (P := fitB T) (arr := fun i => gI s 56 i) (f := fun x b => b + and32 (shr32 x (k : Int)) 1) _ q3).trans ?_
    rw [← oth_fold]
    refine fo_cg _ fun x hx b => ?_
    have mb := m_bit_k x (by omega) k (by omega)
    have e2 : ((x / 2 ^ k % 2 : Nat) : Int) = if bitB x k = true then 1 else 0 := by
      unfold bitB
      by_cases z : x / 2 ^ k % 2 = 1
      · rw [z]; simp
      · have : x / 2 ^ k % 2 = 0 := by omega
        rw [this]; simp
    rw [mb, e2]
  have bd : ∀ n, n ≤ ficT T → 0 ≤ fo (fun i b => b + and32 (shr32 (gI s 56 i) (k : Int)) 1) (0 : Int) n ∧ fo (fun i b => b + and32 (shr32 (gI s 56 i) (k : Int)) 1) (0 : Int) n ≤ n := by
    intro n
    induction n with
    | zero => intro _; exact ⟨Int.le_refl _, Int.le_refl _⟩
    | succ n ih =>
      intro hn
      obtain ⟨i1, i2⟩ := ih (by omega)
      have hb : 0 ≤ and32 (shr32 (gI s 56 n) (k : Int)) 1 ∧ and32 (shr32 (gI s 56 n) (k : Int)) 1 ≤ 1 := by
        rcases fou_spec T (n : Int) (2 ^ tU T) with ⟨x, a1, a2, a3, a4⟩ | ⟨a1, a2⟩
        · have hc : cnt (fitB T) x = n := by omega
          have := q3 x a1 a2
          rw [hc] at this
          rw [this, m_bit_k x (by omega) k (by omega)]
          omega
        · exact absurd ⟨by omega, by show (n : Int) < (ficT T : Int); omega⟩ a2
      show 0 ≤ fo (fun i b => b + and32 (shr32 (gI s 56 i) (k : Int)) 1) (0 : Int) n + and32 (shr32 (gI s 56 n) (k : Int)) 1 ∧ fo (fun i b => b + and32 (shr32 (gI s 56 i) (k : Int)) 1) (0 : Int) n + and32 (shr32 (gI s 56 n) (k : Int)) 1 ≤ ((n + 1 : Nat) : Int)
      omega
  unfold X1_leftAtMost X1_leftAtMost_b4
  refine iter_run (ficT T) FU (fun i : Nat => (s, (55 : Int), (k : Int), fo (fun i b => b + and32 (shr32 (gI s 56 i) (k : Int)) 1) (0 : Int) i, (i : Int))) (by unfold FU; omega) (fun i hi rec => ?_) (fun rec => ?_)
  · have g1 : ¬ ficT T ≤ i := by omega
    have g2 : (i : Int) < 16 := by omega
    have hk6 : i ≤ 6000 := by omega
    have es : fo (fun i b => b + and32 (shr32 (gI s 56 i) (k : Int)) 1) (0 : Int) (i + 1) = fo (fun i b => b + and32 (shr32 (gI s 56 i) (k : Int)) 1) (0 : Int) i + and32 (shr32 (gI s 56 i) (k : Int)) 1 := rfl
    have b1 := bd (i + 1) (by omega)
    rw [es] at b1
    have w1 : w32 (fo (fun i b => b + and32 (shr32 (gI s 56 i) (k : Int)) 1) (0 : Int) i + and32 (shr32 (gI s 56 i) (k : Int)) 1) = fo (fun i b => b + and32 (shr32 (gI s 56 i) (k : Int)) 1) (0 : Int) i + and32 (shr32 (gI s 56 i) (k : Int)) 1 := w32e (by omega)
    have hw := wk1 hk6
    simp [X1_leftAtMost_b4_body, tF, isK, shF hS, q1, g1, g2, es, hw, w1]
  · simp only [X1_leftAtMost_b4_body, e]
    have w1 : w32 ((ficT T : Int) - (othF T k (2 ^ tU T) : Int)) = (ficT T : Int) - (othF T k (2 ^ tU T) : Int) := w32e (by omega)
    unfold lamF
    by_cases z : (othF T k (2 ^ tU T) : Int) < (ficT T : Int) - (othF T k (2 ^ tU T) : Int) <;>
    simp [tF, isK, shF hS, q1, JM_max, JM_max_b10, w1, z]
theorem whom_e (hS : Sh s) (hT : tU T ≤ 4) (hQ : FTc T s) : X1_whomToAsk s 55 (tU T) = some (askT T, s) := by
  have q1 := hQ.1
  unfold X1_whomToAsk askT
  by_cases z : ficT T = 0
  · rw [if_pos z]
    unfold X1_whomToAsk_b9
    refine iter_run 0 FU (fun k : Nat => (s, (55 : Int), (tU T : Int), (-2 : Int), (1000000 : Int), (0 : Int))) (by unfold FU; omega) (fun k hk rec => by omega) (fun rec => ?_)
    by_cases y : (tU T : Int) ≤ 0 <;>
    simp [X1_whomToAsk_b9_body, X1_whomToAsk_b48, tF, isK, shF hS, q1, z, y]
  · rw [if_neg z]
    unfold X1_whomToAsk_b9
    refine iter_run (tU T) FU (fun k : Nat => (s, (55 : Int), (tU T : Int), (askF T k).1, (askF T k).2, (k : Int))) (by unfold FU; omega) (fun k hk rec => ?_) (fun rec => ?_)
    · have g1 : ¬ tU T ≤ k := by omega
      have g2 : ¬ (ficT T : Int) ≤ 0 := by omega
      have hk6 : k ≤ 6000 := by omega
      have e := leftAtMost_e hS hT hQ (k := k) (by omega)
      have hw := wk1 hk6
      by_cases y : lamF T k < (askF T k).2
      · have hb := askF_1 y
        simp [X1_whomToAsk_b9_body, X1_whomToAsk_b42, tF, isK, shF hS, q1, g1, g2, z, e, hb, hw, Int.not_le.mpr y]
      · have hb := askF_0 y
        simp [X1_whomToAsk_b9_body, X1_whomToAsk_b42, tF, isK, shF hS, q1, g1, g2, z, e, hb, hw, Int.not_lt.mp y]
    · simp [X1_whomToAsk_b9_body, X1_whomToAsk_b48]
theorem m_asks (hT : TFK T) (hM : MW T t s) : ∃ s1, X13_asks s 76 = some (askT T, s1) ∧ Mv s s1 ∧ gI s1 76 30 = leaT T := by
  have t7 := hT.1.1.2.2.2.2.2.2.1
  obtain ⟨s2, e1, v1, f26, f27, f28, f86⟩ := m_fitting hT hM (-1)
  have hM2 := hM.mv v1
  have hS2 := hM2.1
  have hF := mF hM2
  have f16 := fic_16 t7
  have h8 : ¬ t.toNat = 76 := by have := hM.2.2.2.1; clear hF; omega
  refine ⟨pI s2 76 30 (leaT T), ?_, v1.trans (Mv_pI (by decide)), by rw [gI_pI]; simp⟩
  unfold X13_asks
  simp [tF, isK, shF hM.1, e1]
  simp only [tF, isK, shF hS2]
  simp
  unfold askT leaT
  by_cases z : ficT T = 0
  · rw [if_pos z, if_pos z]
    unfold X13_asks_b17
    refine iter_run 0 FU (fun k : Nat => (pI s2 76 30 (-2), (76 : Int), (-2 : Int), (0 : Int))) (by clear hF; unfold FU; omega) (fun k hk rec => by omega) (fun rec => ?_)
    by_cases y : (tU T : Int) ≤ 0 <;>
    simp [X13_asks_b17_body, X13_asks_b106, tF, isK, shF hS2, hF, gI_pI, h8, f26, z, y]
  · rw [if_neg z, if_neg z]
    unfold X13_asks_b17
    refine iter_run (tU T) FU (fun k : Nat => (pI s2 76 30 (if (askF T k).1 = -2 then -2 else (askF T k).2), (76 : Int), (askF T k).1, (k : Int))) (by clear hF; unfold FU; omega) (fun k hk rec => ?_) (fun rec => ?_)
    · have g1 : ¬ tU T ≤ k := by clear hF; omega
      have g2 : (k : Int) < 4 := by clear hF; omega
      have g3 : ¬ (ficT T : Int) ≤ 0 := by clear hF; omega
      have hk6 : k ≤ 6000 := by clear hF; omega
      have e86 := f86 k hk
      have off : othF T k (2 ^ tU T) ≤ ficT T := oth_fic T k (2 ^ tU T)
      have inv := askF_inv t7 k
      have lb := lam_b t7 (T := T) k
      have el : (if (othF T k (2 ^ tU T) : Int) ≤ (ficT T : Int) - (othF T k (2 ^ tU T) : Int) then (ficT T : Int) - (othF T k (2 ^ tU T) : Int) else (othF T k (2 ^ tU T) : Int)) = lamF T k := by
        unfold lamF
        clear hF
        split <;> split <;> omega
      have w1 : w32 ((ficT T : Int) - (othF T k (2 ^ tU T) : Int)) = (ficT T : Int) - (othF T k (2 ^ tU T) : Int) := w32e (by clear hF el; omega)
      have hw := wk1 hk6
      have step : ∀ k0 : Int, k0 = lamF T k → X13_asks_b75 (fun (s : St) (x0 x1 x2 : Int) => rec (s, x0, x1, x2)) (pI s2 76 30 (if (askF T k).1 = -2 then -2 else (askF T k).2)) 76 (askF T k).1 k k0 = rec (pI s2 76 30 (if (askF T (k + 1)).1 = -2 then -2 else (askF T (k + 1)).2), (76 : Int), (askF T (k + 1)).1, ((k + 1 : Nat) : Int)) := by
        intro k0 hk0
        subst hk0
        rcases inv with ⟨q, q2⟩ | ⟨-, j, q1, q2⟩
        · have hb := askF_1 (T := T) (k := k) (by rw [q2]; clear hF w1 hw; show lamF T k < 1000000; omega)
          have n2 : ¬ (k : Int) = -2 := by clear hF w1 hw; omega
          rw [q2, hb]
          simp [X13_asks_b75, X13_asks_b93, X13_asks_b100, tF, isK, shF hS2, pI_pI, hw, n2]
        · have n1 : ¬ (j : Int) = -2 := by clear hF w1 hw; omega
          have n2 : ¬ (k : Int) = -2 := by clear hF w1 hw; omega
          by_cases y : lamF T k < (askF T k).2
          · have hb := askF_1 y
            rw [q2] at y
            simp only at y
            rw [hb, q2]
            simp [X13_asks_b75, X13_asks_b93, X13_asks_b100, tF, isK, shF hS2, pI_pI, gI_pI, hw, n1, n2, y]
          · have hb := askF_0 y
            rw [q2] at y
            simp only at y
            rw [hb, q2]
            simp [X13_asks_b75, X13_asks_b93, X13_asks_b100, tF, isK, shF hS2, pI_pI, gI_pI, hw, n1, y]
      have hx : gI (pI s2 76 30 (if (askF T k).1 = -2 then -2 else (askF T k).2)) 76 26 = (ficT T : Int) := by rw [gI_pI, if_neg (by clear hF w1 hw; simp)]; exact f26
      have hy : gI (pI s2 76 30 (if (askF T k).1 = -2 then -2 else (askF T k).2)) 86 k = (othF T k (2 ^ tU T) : Int) := by rw [gI_pI, if_neg (by clear hF w1 hw; simp)]; exact e86
      have hu : gI (pI s2 76 30 (if (askF T k).1 = -2 then -2 else (askF T k).2)) t 5 = (tU T : Int) := by rw [gI_pI, if_neg (by clear hF w1 hw; simp)]; exact hF.2.2.2.2.2.2.2.2.2.2.1
      generalize (if (askF T k).1 = -2 then -2 else (askF T k).2) = cc at step hx hy hu
      by_cases y : (othF T k (2 ^ tU T) : Int) ≤ (ficT T : Int) - (othF T k (2 ^ tU T) : Int)
      · rw [if_pos y] at el
        have st := step _ el
        simp [X13_asks_b17_body, tF, isK, shF hS2, hF.1, hu, hx, hy, g1, g2, g3, z, w1, y, st]
      · rw [if_neg y] at el
        have st := step _ el
        simp [X13_asks_b17_body, tF, isK, shF hS2, hF.1, hu, hx, hy, g1, g2, g3, z, w1, y, st]
    · have hu : gI (pI s2 76 30 (if (askF T (tU T)).1 = -2 then -2 else (askF T (tU T)).2)) t 5 = (tU T : Int) := by rw [gI_pI, if_neg (by clear hF; simp)]; exact hF.2.2.2.2.2.2.2.2.2.2.1
      simp [X13_asks_b17_body, X13_asks_b106, tF, isK, shF hS2, hF.1, hu]
end FITS
