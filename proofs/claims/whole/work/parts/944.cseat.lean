/-! the best seating on the class: sets of places -/
theorem and_bit64 : ∀ a : Nat, a < 64 → ∀ k : Nat, k < 6 → (and32 (a : Int) (shl32 1 (k : Int)) = 0 ↔ a.testBit k = false) := by decide +kernel
theorem or_bit64 {a k : Nat} (ha : a < 64) (hk : k < 6) : or32 (a : Int) (shl32 1 (k : Int)) = ((a ||| 2 ^ k : Nat) : Int) := by
  rw [shlSix k hk]
  exact or64 _ ha _ (Nat.pow_lt_pow_right (n := 6) (by decide) (by omega))
theorem shl1_6 : ∀ k : Nat, k < 7 → shl32 1 (k : Int) = ((2 ^ k : Nat) : Int) := by decide +kernel
theorem pc_lt : ∀ P : Nat, P < 7 → ∀ U : Nat, U < 2 ^ P → (pcn U ≤ P ∧ (U + 1 < 2 ^ P → pcn U < P)) := by decide +kernel
theorem pc_top : ∀ P : Nat, P < 7 → pcn (2 ^ P - 1) = P := by decide +kernel
theorem max_e (s : St) (a b : Int) : JM_max s a b = some (if a < b then b else a, s) := by
  unfold JM_max JM_max_b10; split <;> rfl
section CSEAT
variable {s : St} {T : Tw} {N : Nw} {night : Int}
/-- the places taken, by the order of their houses -/
def imS (T : Tw) (N : Nw) (x : Nat) : Nat := mkN (fun k => x.testBit (ins (nHo N) (tP T) k)) (tP T)
def beT (T : Tw) (N : Nw) (night : Int) (x : Nat) : Nat := bU (wSo T N night) (tP T) (tP T - pcn x) (imS T N x)
theorem im_tb (x k : Nat) (hk : k < tP T) : (imS T N x).testBit k = x.testBit (ins (nHo N) (tP T) k) := by
  unfold imS; rw [mk_tb]; simp [hk]
theorem mk_lt2 (f : Nat → Bool) : ∀ n, mkN f n < 2 ^ n
  | 0 => by show 0 < 1; decide
  | n + 1 => by
    have ih := mk_lt2 f n
    have h2 : mkN f n < 2 ^ (n + 1) := Nat.lt_of_lt_of_le ih (Nat.pow_le_pow_right (by decide) (Nat.le_succ n))
    show (if f n = true then mkN f n ||| 2 ^ n else mkN f n) < 2 ^ (n + 1)
    split
    · exact Nat.or_lt_two_pow h2 (Nat.pow_lt_pow_right (by decide) (Nat.lt_succ_self n))
    · exact h2
theorem im_lt (x : Nat) : imS T N x < 2 ^ tP T := mk_lt2 _ _
theorem im_0 : imS T N 0 = 0 := by
  apply Nat.eq_of_testBit_eq; intro i
  unfold imS; rw [mk_tb]; simp
theorem im_or (hN : NOK T N) {x k : Nat} (hk : k < tP T) : imS T N (x ||| 2 ^ ins (nHo N) (tP T) k) = imS T N x ||| 2 ^ k := by
  apply Nat.eq_of_testBit_eq; intro i
  rw [tb_or]
  unfold imS
  rw [mk_tb, mk_tb]
  by_cases hi : i < tP T
  · have e : (ins (nHo N) (tP T) k = ins (nHo N) (tP T) i) ↔ k = i := ⟨fun z => ins_inj hN.2.2.1 hk hi z, fun z => by rw [z]⟩
    simp only [hi, decide_true, Bool.true_and, tb_or]
    by_cases z : k = i
    · simp [z]
    · have z2 : ¬ ins (nHo N) (tP T) k = ins (nHo N) (tP T) i := fun w => z (e.1 w)
      simp [z, z2]
  · have : ¬ k = i := by omega
    simp [hi, this]
theorem im_pc (hT : TOK T) (hN : NOK T N) : ∀ m x, x < 2 ^ tP T → pcn x = m → pcn (imS T N x) = m := by
  have t5 := hT.1.2.2.2.2.1
  obtain ⟨io1, io2, io3⟩ := ins_ok hN.2.2.1 (tP T) (Nat.le_refl _)
  have main : ∀ r x, x < 2 ^ tP T → pcn x + r = tP T → pcn (imS T N x) + r ≤ tP T := by
    intro r
    induction r with
    | zero => intro x hx h; have := (pc_lt (tP T) (by omega) _ (im_lt (T := T) (N := N) x)).1; omega
    | succ r ih =>
      intro x hx h
      obtain ⟨q, q1, q2⟩ := pc_ex (tP T) (by omega) x hx (by omega)
      obtain ⟨k, k1, k2⟩ := io2 q q1
      have o := or_ok (tP T) (by omega) x hx q q1 q2
      have i1 : (imS T N x).testBit k = false := by rw [im_tb x k k1, k2]; exact q2
      have o2 := or_ok (tP T) (by omega) _ (im_lt (T := T) (N := N) x) k k1 i1
      have := ih (x ||| 2 ^ q) o.2 (by omega)
      rw [← k2, im_or hN k1] at this
      omega
  have low : ∀ m x, x < 2 ^ tP T → pcn x = m → m ≤ pcn (imS T N x) := by
    intro m x hx h
    have all : ∀ r x, x < 2 ^ tP T → pcn x + r = tP T → tP T ≤ pcn (imS T N x) + r := by
      intro r
      induction r with
      | zero =>
        intro x hx h
        have al := pc_all (tP T) (by omega) x hx (by omega)
        rcases Nat.lt_or_ge (pcn (imS T N x)) (tP T) with z | z
        · obtain ⟨k, k1, k2⟩ := pc_ex (tP T) (by omega) _ (im_lt (T := T) (N := N) x) z
          rw [im_tb x k k1, al _ (io1 k k1)] at k2
          cases k2
        · omega
      | succ r ih =>
        intro x hx h
        obtain ⟨q, q1, q2⟩ := pc_ex (tP T) (by omega) x hx (by omega)
        obtain ⟨k, k1, k2⟩ := io2 q q1
        have o := or_ok (tP T) (by omega) x hx q q1 q2
        have i1 : (imS T N x).testBit k = false := by rw [im_tb x k k1, k2]; exact q2
        have o2 := or_ok (tP T) (by omega) _ (im_lt (T := T) (N := N) x) k k1 i1
        have := ih (x ||| 2 ^ q) o.2 (by omega)
        rw [← k2, im_or hN k1] at this
        omega
    have l := (pc_lt (tP T) (by omega) x hx).1
    have := all (tP T - pcn x) x hx (by omega)
    omega
  intro m x hx h
  have l := (pc_lt (tP T) (by omega) x hx).1
  have a := main (tP T - pcn x) x hx (by omega)
  have b := low m x hx h
  omega
theorem wSo_le (hT : TOK T) (N : Nw) (night : Int) (p k : Nat) : wSo T N night p k ≤ 6 := wrT_b hT N night p _
theorem beT_le (hT : TOK T) (N : Nw) (night : Int) (x : Nat) : beT T N night x ≤ 36 := by
  have := bU_le (P := tP T) (wSo_le hT N night) (tP T - pcn x) (imS T N x)
  have t5 := hT.1.2.2.2.2.1
  unfold beT
  omega
/-- the best for a set of places, by the class's loop over places -/
theorem be_eq (hT : TOK T) (hN : NOK T N) {x : Nat} (hx : x < 2 ^ tP T) (hp : pcn x < tP T) : fo (fun q a => if x.testBit q = true then a else max a (wrT T N night (pcn x) q + beT T N night (x ||| 2 ^ q))) 0 (tP T) = beT T N night x := by
  have t5 := hT.1.2.2.2.2.1
  obtain ⟨io1, io2, io3⟩ := ins_ok hN.2.2.1 (tP T) (Nat.le_refl _)
  obtain ⟨m, hm⟩ : ∃ m, tP T - pcn x = m + 1 := ⟨tP T - pcn x - 1, by omega⟩
  have ip := im_pc hT hN (pcn x) x hx rfl
  have val : ∀ k, k < tP T → x.testBit (ins (nHo N) (tP T) k) = false → wrT T N night (pcn x) (ins (nHo N) (tP T) k) + beT T N night (x ||| 2 ^ ins (nHo N) (tP T) k) = wSo T N night (tP T - (m + 1)) k + bU (wSo T N night) (tP T) m (imS T N x ||| 2 ^ k) := by
    intro k hk hu
    have o := or_ok (tP T) (by omega) x hx _ (io1 k hk) hu
    unfold beT
    rw [o.1, im_or hN hk, show tP T - (pcn x + 1) = m by omega, show tP T - (m + 1) = pcn x by omega]
    rfl
  have s1 := mx_spec (S := fun q => x.testBit q = true) (a := fun q => wrT T N night (pcn x) q + beT T N night (x ||| 2 ^ q)) (tP T)
  have s2 := mx_spec (S := fun k => (imS T N x).testBit k = true) (a := fun k => wSo T N night (tP T - (m + 1)) k + bU (wSo T N night) (tP T) m (imS T N x ||| 2 ^ k)) (tP T)
  have eb : beT T N night x = fo (fun k a => if (imS T N x).testBit k = true then a else max a (wSo T N night (tP T - (m + 1)) k + bU (wSo T N night) (tP T) m (imS T N x ||| 2 ^ k))) 0 (tP T) := by
    unfold beT
    rw [hm]
    rfl
  rw [eb]
  generalize fo (fun q a => if x.testBit q = true then a else max a (wrT T N night (pcn x) q + beT T N night (x ||| 2 ^ q))) 0 (tP T) = X at s1 ⊢
  generalize fo (fun k a => if (imS T N x).testBit k = true then a else max a (wSo T N night (tP T - (m + 1)) k + bU (wSo T N night) (tP T) m (imS T N x ||| 2 ^ k))) 0 (tP T) = Y at s2 ⊢
  apply Nat.le_antisymm
  · rcases s1.2 with z | ⟨q, q1, q2, q3⟩
    · omega
    · obtain ⟨k, k1, k2⟩ := io2 q q1
      have hu : x.testBit (ins (nHo N) (tP T) k) = false := by rw [k2]; simpa using q2
      have v := val k k1 hu
      have l := s2.1 k k1 (by rw [im_tb x k k1, hu]; decide)
      rw [k2] at v
      omega
  · rcases s2.2 with z | ⟨k, k1, k2, k3⟩
    · omega
    · have hu : x.testBit (ins (nHo N) (tP T) k) = false := by rw [← im_tb x k k1]; simpa using k2
      have v := val k k1 hu
      have l := s1.1 _ (io1 k k1) (by rw [hu]; decide)
      omega
/-- best is right from lo on -/
def BRo (s : St) (T : Tw) (N : Nw) (night : Int) (lo : Nat) : Prop := ∀ x, lo ≤ x → x < 2 ^ tP T → gI s 49 x = (beT T N night x : Int)
theorem or_gt : ∀ x : Nat, x < 64 → ∀ q : Nat, q < 6 → x.testBit q = false → x < x ||| 2 ^ q := by decide +kernel
theorem c_best_in {x : Nat} (rk : St → Int → Int → Rs) (hS : Sh s) (hT : TOK T) (hN : NOK T N) (hw : WTH s T N night) (hB : BRo s T N night (x + 1)) (hx : x + 1 < 2 ^ tP T) : X5_mostRight_b35 rk FU s 47 x (pcn x) 0 0 = rk (pI s 49 x (beT T N night x : Int)) 47 ((x : Int) - 1) := by
  have t5 := hT.1.2.2.2.2.1
  have x64 : x < 64 := by have := pow6 t5; omega
  have hx2 : x < 2 ^ tP T := by omega
  have hpc := (pc_lt (tP T) (by omega) x hx2).2 hx
  have c2 := hw.1
  have he := be_eq (night := night) hT hN hx2 hpc
  unfold X5_mostRight_b35
  refine iter_fo (fun (q : Nat) (a : Nat) => if x.testBit q = true then a else max a (wrT T N night (pcn x) q + beT T N night (x ||| 2 ^ q))) 0 (fun k b => (s, (47 : Int), (x : Int), (pcn x : Int), (b : Int), (k : Int))) (tP T) FU (by unfold FU; omega) (fun k hk b rec hb => ?_) (fun rec => ?_)
  · have g1 : ¬ (tP T : Int) ≤ (k : Int) := by omega
    have ab := and_bit64 x x64 k (by omega)
    have ob := or_bit64 (a := x) (k := k) x64 (by omega)
    have wo := worthOf_e hS hT hw (p := pcn x) (q := k) hpc hk
    have wb := wrT_b hT N night (pcn x) k
    have hwk := wk1 (k := k) (by omega)
    by_cases y : x.testBit k = true
    · have y2 : ¬ and32 (x : Int) (shl32 1 (k : Int)) = 0 := fun z => by rw [ab.1 z] at y; cases y
      simp only [X5_mostRight_b35_body, X5_mostRight_b79]
      rw [c2, if_neg g1, if_pos y2, hwk, if_pos y]
      simp [tF, isK, shF hS]
    · have y1 : x.testBit k = false := by simpa using y
      have y2 := ab.2 y1
      have gt := or_gt x x64 k (by clear hwk; omega) y1
      have ok := or_ok (tP T) (by clear hwk; omega) x hx2 k hk y1
      have eb := hB (x ||| 2 ^ k) (by clear hwk; omega) ok.2
      have bl := beT_le hT N night (x ||| 2 ^ k)
      have p64 := pow6 t5
      have gi : ((x ||| 2 ^ k : Nat) : Int) < 64 := by clear hwk; omega
      have w1 : w32 ((wrT T N night (pcn x) k : Int) + (beT T N night (x ||| 2 ^ k) : Int)) = ((wrT T N night (pcn x) k + beT T N night (x ||| 2 ^ k) : Nat) : Int) := (w32e (by clear hwk; omega)).trans (by clear hwk; omega)
      have mx : (if (b : Int) < ((wrT T N night (pcn x) k + beT T N night (x ||| 2 ^ k) : Nat) : Int) then ((wrT T N night (pcn x) k + beT T N night (x ||| 2 ^ k) : Nat) : Int) else (b : Int)) = ((max b (wrT T N night (pcn x) k + beT T N night (x ||| 2 ^ k)) : Nat) : Int) := by
        clear hwk w1
        split <;> omega
      simp only [X5_mostRight_b35_body, X5_mostRight_b79]
      rw [c2, if_neg g1, if_neg (fun z => z y2), wo, bnd_some, hwk, if_neg y, ob]
      generalize (x ||| 2 ^ k) = z at *
      simp only [isK, shF hS, grd_if, Int.toNat_natCast, eb, w1, max_e, bnd_some, mx]
      simp [gi]
  · rw [he]
    have g1 : (tP T : Int) ≤ (tP T : Int) := Int.le_refl _
    have gx : (x : Int) < 64 := by omega
    have hwk := wkm (k := x) (by omega)
    simp only [X5_mostRight_b35_body]
    rw [c2, if_pos g1, hwk]
    simp [tF, isK, shF hS, gx]
theorem WTH.f49 {s1 : St} (hw : WTH s T N night) (hf : Fr (fun a => a = 49) s s1) : WTH s1 T N night := by
  unfold WTH at hw ⊢
  rw [hf.nu (a := 47) (by decide)]
  refine ⟨hw.1, fun p hp q hq => ?_⟩
  rw [hf.nu (a := 48) (by decide)]
  exact hw.2 p hp q hq
theorem c_most (hS : Sh s) (hT : TOK T) (hN : NOK T N) (hw : WTH s T N night) : ∃ s1, X5_mostRight s 47 = some ((seB T N night : Int), s1) ∧ Fr (fun a => a = 49) s s1 ∧ BRo s1 T N night 0 := by
  have t4 := hT.1.2.2.2.1
  have t5 := hT.1.2.2.2.2.1
  have p64 := pow6 t5
  have pp : 0 < 2 ^ tP T := Nat.two_pow_pos _
  have c2 := hw.1
  obtain ⟨A, hA⟩ : ∃ A, 2 ^ tP T = A + 1 := ⟨2 ^ tP T - 1, by omega⟩
  have e1 : w32 (((2 ^ tP T : Nat) : Int) - 1) = (A : Int) := (w32e (by omega)).trans (by omega)
  have e2 : w32 ((A : Int) - 1) = (A : Int) - 1 := w32e (by clear e1; omega)
  have sh := shl1_6 (tP T) (by clear e1 e2; omega)
  have gA : (A : Int) < 64 := by clear e1 e2; omega
  have topB : beT T N night A = 0 := by
    unfold beT
    have := pc_top (tP T) (by clear e1 e2; omega)
    rw [show 2 ^ tP T - 1 = A by clear e1 e2; omega] at this
    rw [this, Nat.sub_self]
    rfl
  have loop : ∃ s1, X5_mostRight_b20 FU (pI s 49 A 0) 47 ((A : Int) - 1) = some ((seB T N night : Int), s1) ∧ Fr (fun a => a = 49) s s1 ∧ BRo s1 T N night 0 := by
    clear e1 e2
    unfold X5_mostRight_b20
    refine iter_inv (Q := fun G => ∃ s1, G = some ((seB T N night : Int), s1) ∧ Fr (fun a => a = 49) s s1 ∧ BRo s1 T N night 0)
      (fun (k : Nat) (a : St × Int × Int) => ∃ s2, a = (s2, 47, (A : Int) - 1 - (k : Int)) ∧ Fr (fun a => a = 49) s s2 ∧ BRo s2 T N night (A - k))
      A FU (pI s 49 A 0, 47, (A : Int) - 1) (by unfold FU; omega) ⟨pI s 49 A 0, by simp, Fr_pI rfl, fun x h1 h2 => ?_⟩ (fun k hk a ha => ?_) (fun a ha rec => ?_)
    · have : x = A := by omega
      rw [gI_pI, if_pos ⟨rfl, this⟩, this, topB]
      rfl
    · obtain ⟨s2, rfl, hf2, hB2⟩ := ha
      have hS2 : Sh s2 := by rw [hf2.sh]; exact hS
      have hw2 := hw.f49 hf2
      obtain ⟨x, hx⟩ : ∃ x : Nat, A = x + 1 + k := ⟨A - 1 - k, by omega⟩
      have ex : (A : Int) - 1 - (k : Int) = (x : Int) := by omega
      have en : (A : Int) - 1 - ((k + 1 : Nat) : Int) = (x : Int) - 1 := by omega
      have g0 : ¬ (x : Int) < 0 := by omega
      have bc := bitCount_e (s := s2) (x := x) (by omega)
      have ci := fun (rk : St → Int → Int → Rs) => c_best_in (x := x) rk hS2 hT hN hw2 (by rw [show x + 1 = A - k by omega]; exact hB2) (by omega)
      refine ⟨(pI s2 49 x (beT T N night x : Int), 47, (A : Int) - 1 - ((k + 1 : Nat) : Int)), ⟨_, rfl, hf2.trans (Fr_pI rfl), fun y h1 h2 => ?_⟩, fun rec => ?_⟩
      · rw [gI_pI]
        by_cases z : y = x
        · rw [if_pos ⟨rfl, z⟩, z]
        · rw [if_neg (fun w => z w.2)]
          exact hB2 y (by omega) h2
      · rw [ex, en]
        simp only [X5_mostRight_b20_body]
        rw [if_neg g0, bc, bnd_some, ci]
    · obtain ⟨s2, rfl, hf2, hB2⟩ := ha
      have hS2 : Sh s2 := by rw [hf2.sh]; exact hS
      rw [Nat.sub_self] at hB2
      have g0 : (A : Int) - 1 - (A : Int) < 0 := by omega
      have e0 := hB2 0 (Nat.le_refl _) pp
      have es : beT T N night 0 = seB T N night := by
        unfold beT seB
        rw [im_0]
        rfl
      rw [es] at e0
      refine ⟨s2, ?_, hf2, hB2⟩
      simp only [X5_mostRight_b20_body]
      rw [if_pos g0]
      simp [tF, isK, shF hS2, e0]
  obtain ⟨s1, l1, l2, l3⟩ := loop
  refine ⟨s1, ?_, l2, l3⟩
  unfold X5_mostRight
  rw [c2, sh, e1, letv_e, e2]
  simp [tF, isK, shF hS, gA, l1]
end CSEAT
