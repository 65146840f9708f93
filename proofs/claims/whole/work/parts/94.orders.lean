/-! orders by their number; the best, the first best -/
def fac : Nat → Nat
  | 0 => 1
  | n + 1 => (n + 1) * fac n
theorem fac_pos : ∀ n, 0 < fac n
  | 0 => Nat.one_pos
  | n + 1 => Nat.mul_pos (Nat.succ_pos n) (fac_pos n)
def nfO : Nat → Nat → Nat → Nat → Option Nat
  | 0, _, _, _ => none
  | f + 1, U, n, k => if U.testBit k = true then nfO f U n (k + 1) else if n = 0 then some k else nfO f U (n - 1) (k + 1)
def nfU (U n : Nat) : Nat := (nfO 7 U n 0).getD 0
def rkU (U k : Nat) : Nat := cnt (fun j => !(U.testBit j)) k
theorem nf_1 : ∀ P : Nat, P < 7 → ∀ U : Nat, U < 2 ^ P → ∀ n : Nat, n < 6 → n + pcn U < P → nfO 7 U n 0 = some (nfU U n) := by decide +kernel
theorem nf_2 : ∀ P : Nat, P < 7 → ∀ U : Nat, U < 2 ^ P → ∀ n : Nat, n < 6 → n + pcn U < P → nfU U n < P := by decide +kernel
theorem nf_3 : ∀ P : Nat, P < 7 → ∀ U : Nat, U < 2 ^ P → ∀ n : Nat, n < 6 → n + pcn U < P → U.testBit (nfU U n) = false := by decide +kernel
theorem rk_1 : ∀ P : Nat, P < 7 → ∀ U : Nat, U < 2 ^ P → ∀ k : Nat, k < P → U.testBit k = false → nfU U (rkU U k) = k := by decide +kernel
theorem rk_2 : ∀ P : Nat, P < 7 → ∀ U : Nat, U < 2 ^ P → ∀ k : Nat, k < P → U.testBit k = false → rkU U k + pcn U < P := by decide +kernel
theorem rk_3 : ∀ U : Nat, U < 64 → ∀ k : Nat, k < 6 → ∀ n : Nat, n < rkU U k → nfU U n < k := by decide +kernel
theorem or_ok : ∀ P : Nat, P < 7 → ∀ U : Nat, U < 2 ^ P → ∀ k : Nat, k < P → U.testBit k = false → pcn (U ||| 2 ^ k) = pcn U + 1 ∧ U ||| 2 ^ k < 2 ^ P := by decide +kernel
theorem nf_ok : ∀ P : Nat, P < 7 → ∀ U : Nat, U < 2 ^ P → ∀ n : Nat, n < 6 → n + pcn U < P → (nfO 7 U n 0 = some (nfU U n) ∧ nfU U n < P ∧ U.testBit (nfU U n) = false) ∧ pcn (U ||| 2 ^ nfU U n) = pcn U + 1 ∧ U ||| 2 ^ nfU U n < 2 ^ P := fun P hP U hU n hn h =>
  ⟨⟨nf_1 P hP U hU n hn h, nf_2 P hP U hU n hn h, nf_3 P hP U hU n hn h⟩, or_ok P hP U hU _ (nf_2 P hP U hU n hn h) (nf_3 P hP U hU n hn h)⟩
theorem rk_ok : ∀ P : Nat, P < 7 → ∀ U : Nat, U < 2 ^ P → ∀ k : Nat, k < P → U.testBit k = false → nfU U (rkU U k) = k ∧ rkU U k + pcn U < P ∧ ∀ n : Nat, n < rkU U k → nfU U n < k := fun P hP U hU k hk h =>
  ⟨rk_1 P hP U hU k hk h, rk_2 P hP U hU k hk h, rk_3 U (Nat.lt_of_lt_of_le hU (pow6 (by omega))) k (by omega)⟩
theorem pc_ex : ∀ P : Nat, P < 7 → ∀ U : Nat, U < 2 ^ P → pcn U < P → ∃ k : Nat, k < P ∧ U.testBit k = false := by
  intro P hP U hU h
  have := nf_ok P hP U hU 0 (by decide) (by omega)
  exact ⟨_, this.1.2.1, this.1.2.2⟩
theorem pc_all : ∀ P : Nat, P < 7 → ∀ U : Nat, U < 2 ^ P → pcn U = P → ∀ k : Nat, k < P → U.testBit k = true := by decide +kernel
theorem mx_spec {S : Nat → Prop} [∀ p, Decidable (S p)] {a : Nat → Nat} : ∀ P, (∀ p, p < P → ¬ S p → a p ≤ fo (fun p m => if S p then m else max m (a p)) 0 P) ∧ (fo (fun p m => if S p then m else max m (a p)) 0 P = 0 ∨ ∃ p, p < P ∧ ¬ S p ∧ fo (fun p m => if S p then m else max m (a p)) 0 P = a p)
  | 0 => ⟨fun p hp => by omega, Or.inl rfl⟩
  | P + 1 => by
    obtain ⟨h1, h3⟩ := mx_spec (S := S) (a := a) P
    have e : fo (fun p m => if S p then m else max m (a p)) 0 (P + 1) = if S P then fo (fun p m => if S p then m else max m (a p)) 0 P else max (fo (fun p m => if S p then m else max m (a p)) 0 P) (a P) := rfl
    rw [e]
    generalize fo (fun p m => if S p then m else max m (a p)) 0 P = m at h1 h3
    by_cases q : S P
    · rw [if_pos q]
      refine ⟨fun p hp hs => ?_, ?_⟩
      · by_cases z : p = P
        · subst z; exact absurd q hs
        · exact h1 p (by omega) hs
      · rcases h3 with h3 | ⟨p, p1, p2, p3⟩
        · exact Or.inl h3
        · exact Or.inr ⟨p, by omega, p2, p3⟩
    · rw [if_neg q]
      refine ⟨fun p hp hs => ?_, ?_⟩
      · by_cases y : p = P
        · subst y; exact Nat.le_max_right _ _
        · exact Nat.le_trans (h1 p (by omega) hs) (Nat.le_max_left _ _)
      · by_cases z : m ≤ a P
        · exact Or.inr ⟨P, by omega, q, Nat.max_eq_right z⟩
        · have e2 : max m (a P) = m := Nat.max_eq_left (by omega)
          rw [e2]
          rcases h3 with h3 | ⟨p, p1, p2, p3⟩
          · exact Or.inl h3
          · exact Or.inr ⟨p, by omega, p2, p3⟩
section ORDERS
variable (w : Nat → Nat → Nat) (P : Nat)
/-- the i-th seat's index in an order, of those not used -/
def kp : Nat → Nat → Nat → Nat → Nat
  | 0, _, _, _ => 0
  | m + 1, U, o, i => match i with
    | 0 => nfU U (o / fac m)
    | i + 1 => kp m (U ||| 2 ^ nfU U (o / fac m)) (o % fac m) i
def smU : Nat → Nat → Nat → Nat
  | 0, _, _ => 0
  | m + 1, U, o => w (P - (m + 1)) (nfU U (o / fac m)) + smU m (U ||| 2 ^ nfU U (o / fac m)) (o % fac m)
def bU : Nat → Nat → Nat
  | 0, _ => 0
  | m + 1, U => fo (fun k a => if U.testBit k = true then a else max a (w (P - (m + 1)) k + bU m (U ||| 2 ^ k))) 0 P
/-- the first best next one -/
def gkB (m U k : Nat) : Bool := !(U.testBit k) && decide (w (P - (m + 1)) k + bU w P m (U ||| 2 ^ k) = bU w P (m + 1) U)
def gk (m U : Nat) : Nat := (fnd (gkB w P m U) P).getD 0
def gp : Nat → Nat → Nat → Nat
  | 0, _, _ => 0
  | m + 1, U, i => match i with
    | 0 => gk w P m U
    | i + 1 => gp m (U ||| 2 ^ gk w P m U) i
def gO : Nat → Nat → Nat
  | 0, _ => 0
  | m + 1, U => rkU U (gk w P m U) * fac m + gO m (U ||| 2 ^ gk w P m U)
variable {w} {P}
theorem bU_s (m U : Nat) : bU w P (m + 1) U = fo (fun k a => if U.testBit k = true then a else max a (w (P - (m + 1)) k + bU w P m (U ||| 2 ^ k))) 0 P := rfl
theorem bU_ge {m U k : Nat} (hk : k < P) (hu : U.testBit k = false) : w (P - (m + 1)) k + bU w P m (U ||| 2 ^ k) ≤ bU w P (m + 1) U := by
  rw [bU_s]
  exact (mx_spec (S := fun k => U.testBit k = true) (a := fun k => w (P - (m + 1)) k + bU w P m (U ||| 2 ^ k)) P).1 k hk (by rw [hu]; decide)
theorem bU_at {m U : Nat} (hP : P < 7) (hU : U < 2 ^ P) (hm : pcn U + (m + 1) = P) : ∃ k, k < P ∧ U.testBit k = false ∧ w (P - (m + 1)) k + bU w P m (U ||| 2 ^ k) = bU w P (m + 1) U := by
  have sp := mx_spec (S := fun k => U.testBit k = true) (a := fun k => w (P - (m + 1)) k + bU w P m (U ||| 2 ^ k)) P
  rw [← bU_s] at sp
  rcases sp.2 with h | ⟨p, p1, p2, p3⟩
  · obtain ⟨k, k1, k2⟩ := pc_ex P hP U hU (by omega)
    have g := bU_ge (w := w) (m := m) k1 k2
    exact ⟨k, k1, k2, by omega⟩
  · exact ⟨p, p1, by simpa using p2, p3.symm⟩
theorem gk_ok {m U : Nat} (hP : P < 7) (hU : U < 2 ^ P) (hm : pcn U + (m + 1) = P) : (gk w P m U < P ∧ U.testBit (gk w P m U) = false ∧ w (P - (m + 1)) (gk w P m U) + bU w P m (U ||| 2 ^ gk w P m U) = bU w P (m + 1) U) ∧ ∀ k, k < gk w P m U → U.testBit k = false → w (P - (m + 1)) k + bU w P m (U ||| 2 ^ k) ≠ bU w P (m + 1) U := by
  obtain ⟨k, k1, k2, k3⟩ := bU_at (w := w) hP hU hm
  cases e : fnd (gkB w P m U) P with
  | none =>
    have := fnd_none e k k1
    unfold gkB at this
    simp [k2, k3] at this
  | some q =>
    obtain ⟨a1, a2, a3⟩ := fnd_some e
    have eq : gk w P m U = q := by unfold gk; rw [e]; rfl
    rw [eq]
    unfold gkB at a2
    simp at a2
    refine ⟨⟨a1, a2.1, a2.2⟩, fun j hj hu => ?_⟩
    have := a3 j hj
    unfold gkB at this
    simp [hu] at this
    exact this
theorem bU_le (hw : ∀ p k, w p k ≤ 6) : ∀ m U, bU w P m U ≤ 6 * m
  | 0, _ => Nat.le_refl _
  | m + 1, U => by
    have sp := mx_spec (S := fun k => U.testBit k = true) (a := fun k => w (P - (m + 1)) k + bU w P m (U ||| 2 ^ k)) P
    rw [← bU_s] at sp
    rcases sp.2 with h | ⟨p, p1, p2, p3⟩
    · omega
    · have := bU_le hw m (U ||| 2 ^ p)
      have := hw (P - (m + 1)) p
      omega
theorem orders_ok (hP : P < 7) : ∀ m U, U < 2 ^ P → pcn U + m = P → gO w P m U < fac m ∧ smU w P m U (gO w P m U) = bU w P m U ∧ (∀ o, o < gO w P m U → smU w P m U o < bU w P m U) ∧ (∀ o, o < fac m → smU w P m U o ≤ bU w P m U) ∧ ∀ i, i < m → kp m U (gO w P m U) i = gp w P m U i
  | 0, U, _, _ => ⟨Nat.one_pos, rfl, fun o h => absurd h (Nat.not_lt_zero _), fun o _ => Nat.le_refl _, fun i h => absurd h (Nat.not_lt_zero _)⟩
  | m + 1, U, hU, hm => by
    obtain ⟨⟨a1, a2, a3⟩, a4⟩ := gk_ok (w := w) hP hU hm
    obtain ⟨r1, r2, r3⟩ := rk_ok P hP U hU _ a1 a2
    obtain ⟨o1, o2⟩ := or_ok P hP U hU _ a1 a2
    obtain ⟨i1, i2, i3, i4, i5⟩ := orders_ok hP m (U ||| 2 ^ gk w P m U) o2 (by omega)
    have fp := fac_pos m
    have eO : gO w P (m + 1) U = rkU U (gk w P m U) * fac m + gO w P m (U ||| 2 ^ gk w P m U) := rfl
    have d1 : gO w P (m + 1) U / fac m = rkU U (gk w P m U) := by
      rw [eO, Nat.add_comm, Nat.add_mul_div_right _ _ fp, Nat.div_eq_of_lt i1, Nat.zero_add]
    have d2 : gO w P (m + 1) U % fac m = gO w P m (U ||| 2 ^ gk w P m U) := by
      rw [eO, Nat.add_comm, Nat.add_mul_mod_self_right, Nat.mod_eq_of_lt i1]
    have lt : gO w P (m + 1) U < fac (m + 1) := by
      show _ < (m + 1) * fac m
      have : rkU U (gk w P m U) + 1 ≤ m + 1 := by omega
      have h2 := Nat.mul_le_mul_right (fac m) this
      rw [Nat.add_mul, Nat.one_mul] at h2
      omega
    have sm : ∀ o, smU w P (m + 1) U o = w (P - (m + 1)) (nfU U (o / fac m)) + smU w P m (U ||| 2 ^ nfU U (o / fac m)) (o % fac m) := fun _ => rfl
    have le : ∀ o, o < fac (m + 1) → smU w P (m + 1) U o ≤ bU w P (m + 1) U ∧ (nfU U (o / fac m) < gk w P m U → smU w P (m + 1) U o < bU w P (m + 1) U) := by
      intro o ho
      have hn : o / fac m < m + 1 := Nat.div_lt_of_lt_mul (by rw [Nat.mul_comm]; exact ho)
      obtain ⟨⟨b1, b2, b3⟩, b4, b5⟩ := nf_ok P hP U hU (o / fac m) (by omega) (by omega)
      have j4 := (orders_ok hP m (U ||| 2 ^ nfU U (o / fac m)) b5 (by omega)).2.2.2.1 (o % fac m) (Nat.mod_lt _ fp)
      have g := bU_ge (w := w) (m := m) b2 b3
      rw [sm]
      refine ⟨by omega, fun hlt => ?_⟩
      have := a4 _ hlt b3
      omega
    refine ⟨lt, ?_, fun o ho => ?_, fun o ho => (le o ho).1, fun i hi => ?_⟩
    · rw [sm, d1, d2, r1, i2, a3]
    · have l := le o (by omega)
      have hn : o / fac m ≤ rkU U (gk w P m U) := by rw [← d1]; exact Nat.div_le_div_right (by omega)
      by_cases z : o / fac m = rkU U (gk w P m U)
      · have e1 := Nat.div_add_mod o (fac m)
        rw [z, Nat.mul_comm] at e1
        have := i3 (o % fac m) (by omega)
        rw [sm, z, r1]
        omega
      · exact l.2 (r3 _ (by omega))
    · cases i with
      | zero =>
        show nfU U (gO w P (m + 1) U / fac m) = gk w P m U
        rw [d1, r1]
      | succ i =>
        show kp m (U ||| 2 ^ nfU U (gO w P (m + 1) U / fac m)) (gO w P (m + 1) U % fac m) i = gp w P m (U ||| 2 ^ gk w P m U) i
        rw [d1, d2, r1]
        exact i5 i (by omega)
theorem tb_or (U k j : Nat) : (U ||| 2 ^ k).testBit j = (U.testBit j || decide (k = j)) := by rw [Nat.testBit_or, Nat.testBit_two_pow]
/-- an order gives each index once -/
theorem kp_ok (hP : P < 7) : ∀ m U o, U < 2 ^ P → pcn U + m = P → o < fac m → (∀ i, i < m → kp m U o i < P ∧ U.testBit (kp m U o i) = false) ∧ (∀ i j, i < j → j < m → kp m U o i ≠ kp m U o j) ∧ ∀ k, k < P → U.testBit k = false → ∃ i, i < m ∧ kp m U o i = k
  | 0, U, o, hU, hm, ho => ⟨fun i h => absurd h (Nat.not_lt_zero _), fun i j _ h => absurd h (Nat.not_lt_zero _), fun k hk hu => by
      rw [pc_all P hP U hU (by omega) k hk] at hu
      cases hu⟩
  | m + 1, U, o, hU, hm, ho => by
    have fp := fac_pos m
    have hn : o / fac m < m + 1 := Nat.div_lt_of_lt_mul (by rw [Nat.mul_comm]; exact ho)
    obtain ⟨⟨b1, b2, b3⟩, b4, b5⟩ := nf_ok P hP U hU (o / fac m) (by omega) (by omega)
    obtain ⟨i1, i2, i3⟩ := kp_ok hP m (U ||| 2 ^ nfU U (o / fac m)) (o % fac m) b5 (by omega) (Nat.mod_lt _ fp)
    have e0 : kp (m + 1) U o 0 = nfU U (o / fac m) := rfl
    have es : ∀ i, kp (m + 1) U o (i + 1) = kp m (U ||| 2 ^ nfU U (o / fac m)) (o % fac m) i := fun _ => rfl
    have key : ∀ i, i < m → U.testBit (kp m (U ||| 2 ^ nfU U (o / fac m)) (o % fac m) i) = false ∧ ¬ nfU U (o / fac m) = kp m (U ||| 2 ^ nfU U (o / fac m)) (o % fac m) i := fun i hi => by
      have := (i1 i hi).2
      rw [tb_or] at this
      simpa using this
    refine ⟨fun i hi => ?_, fun i j hij hj => ?_, fun k hk hu => ?_⟩
    · cases i with
      | zero => rw [e0]; exact ⟨b2, b3⟩
      | succ i => rw [es]; exact ⟨(i1 i (by omega)).1, (key i (by omega)).1⟩
    · cases j with
      | zero => omega
      | succ j =>
        cases i with
        | zero => rw [e0, es]; exact (key j (by omega)).2
        | succ i => rw [es, es]; exact i2 i j (by omega) (by omega)
    · by_cases z : nfU U (o / fac m) = k
      · exact ⟨0, by omega, z⟩
      · obtain ⟨i, j1, j2⟩ := i3 k hk (by rw [tb_or, hu]; simp [z])
        exact ⟨i + 1, by omega, j2⟩
/-- the sum over an order -/
def smF (f : Nat → Nat) (n : Nat) : Nat := fo (fun p a => a + f p) 0 n
theorem smF_sh (f : Nat → Nat) : ∀ n, smF f (n + 1) = f 0 + smF (fun i => f (i + 1)) n
  | 0 => by show 0 + f 0 = f 0 + 0; omega
  | n + 1 => by
    have ih := smF_sh f n
    show smF f (n + 1) + f (n + 1) = f 0 + (smF (fun i => f (i + 1)) n + f (n + 1))
    omega
theorem smF_cg {f g : Nat → Nat} : ∀ n, (∀ i, i < n → f i = g i) → smF f n = smF g n
  | 0, _ => rfl
  | n + 1, h => by
    show smF f n + f n = smF g n + g n
    rw [smF_cg n (fun i hi => h i (by omega)), h n (by omega)]
theorem sm_kp : ∀ m U o, m ≤ P → smU w P m U o = smF (fun i => w (P - m + i) (kp m U o i)) m
  | 0, _, _, _ => rfl
  | m + 1, U, o, hm => by
    have ih := sm_kp m (U ||| 2 ^ nfU U (o / fac m)) (o % fac m) (by omega)
    rw [smF_sh]
    show w (P - (m + 1)) (nfU U (o / fac m)) + smU w P m (U ||| 2 ^ nfU U (o / fac m)) (o % fac m) = w (P - (m + 1) + 0) (nfU U (o / fac m)) + smF (fun i => w (P - (m + 1) + (i + 1)) (kp m (U ||| 2 ^ nfU U (o / fac m)) (o % fac m) i)) m
    rw [ih]
    congr 1
    refine smF_cg m (fun i hi => ?_)
    rw [show P - m + i = P - (m + 1) + (i + 1) by omega]
end ORDERS
/-- the first largest -/
def amF (f : Nat → Nat) (n : Nat) : Nat × Int := fo (fun o a => if a.2 < (f o : Int) then (o, (f o : Int)) else a) (0, -1) n
theorem am_ok {f : Nat → Nat} {n g b : Nat} (hg : g < n) (h1 : f g = b) (h2 : ∀ o, o < g → f o < b) (h3 : ∀ o, o < n → f o ≤ b) : amF f n = (g, (b : Int)) := by
  have es : ∀ k, amF f (k + 1) = if (amF f k).2 < (f k : Int) then (k, (f k : Int)) else amF f k := fun _ => rfl
  have lo : ∀ k, k ≤ g → (amF f k).2 < (b : Int) := by
    intro k
    induction k with
    | zero => intro _; show (-1 : Int) < b; omega
    | succ k ih =>
      intro h
      have ih := ih (by omega)
      have := h2 k (by omega)
      rw [es]
      split
      · show (f k : Int) < b; omega
      · exact ih
  have hi : ∀ k, g < k → k ≤ n → amF f k = (g, (b : Int)) := by
    intro k
    induction k with
    | zero => intro h _; omega
    | succ k ih =>
      intro h hn
      rw [es]
      by_cases z : k = g
      · subst z
        have := lo k (Nat.le_refl _)
        rw [if_pos (by omega), h1]
      · have ih := ih (by omega) (by omega)
        have := h3 k (by omega)
        rw [ih, if_neg (by show ¬ (b : Int) < f k; omega)]
  exact hi n hg (Nat.le_refl _)
