/-! the class's suppositions, listed; a town copied -/
section LISTS
variable {s s1 : St} {T : Tw} {N : Nw} {x : Nat}
def fT (a : Nat) : Prop := 40 ≤ a ∧ a ≤ 46
theorem CT.ft {L : Nat → Prop} (hC : CT s T) (hf : Fr L s s1) (hL : ∀ a, 19 ≤ a → a ≤ 30 → ¬ L a) : CT s1 T := hC.sm (hf.sm hL)
theorem bitB_t (x k : Nat) : bitB x k = x.testBit k := by unfold bitB; exact Nat.testBit_eq_decide_div_mod_eq.symm
theorem suppK_s (T : Tw) (x k : Nat) : suppK T x (k + 1) = if bitB x k = true then sliN (suppK T x k) (tUd T k) (tUs T k) else suppK T x k := rfl
theorem c_suppose (hS : Sh s) (hT : TFK T) (hC : CT s T) (h20 : gI s 20 0 = 0) (hx : x < 16) : ∃ s1, X1_suppose s 19 39 x = some (0, s1) ∧ Fr fT s s1 ∧ CV s1 T (suppN T x) 41 42 43 44 45 46 := by
  have u4 := hT.1.1.2.2.2.2.2.2.1
  have hR : SR s 20 T (tN T) := ⟨h20.trans hT.2.2.symm, fun p hp => hC.2.2.2.2.1 p hp, fun d hd => hC.2.2.2.2.2 d hd⟩
  obtain ⟨s1, e1, f1, c1, n1⟩ := settle_e (y := 20) vc2 hS hT.1 hT.2.1 hC (by simp [stC]) (by decide) hR
  have f1' : Fr fT s s1 := f1.mono (fun a ha => ha)
  have loop : ∃ s2, X1_suppose_b10 FU s1 19 39 x 0 = some (0, s2) ∧ Fr fT s s2 ∧ CV s2 T (suppN T x) 41 42 43 44 45 46 := by
    unfold X1_suppose_b10
    refine iter_inv (Q := fun G => ∃ s2, G = some (0, s2) ∧ Fr fT s s2 ∧ CV s2 T (suppN T x) 41 42 43 44 45 46)
      (fun (k : Nat) (a : St × Int × Int × Int × Int) => ∃ s2, a = (s2, 19, 39, (x : Int), (k : Int)) ∧ Fr fT s s2 ∧ CV s2 T (suppK T x k) 41 42 43 44 45 46)
      (tU T) FU (s1, 19, 39, (x : Int), 0) (by unfold FU; omega) ⟨s1, rfl, f1', c1⟩ (fun k hk a ha => ?_) (fun a ha rec => ?_)
    · obtain ⟨s2, rfl, f2, c2⟩ := ha
      have hS2 : Sh s2 := by rw [f2.sh]; exact hS
      have hC2 := hC.ft f2 (fun a h1 h2 z => by unfold fT at z; omega)
      have g1 : ¬ tU T ≤ k := by omega
      have g4 : (k : Int) < 4 := by omega
      have ab := and_bit64 x (by omega) k (by omega)
      have hd := hT.1.2.2.1 k hk
      have d6 := hT.1.1.2.2.2.2.2.1
      have ed := (hC2.2.2.1 k hk).1
      have es := (hC2.2.2.1 k hk).2
      have gd : ((tUd T k : Nat) : Int) < 6 := by omega
      have cU := hC2.1.2.2.2.2.1
      have hw := wk1 (k := k) (by omega)
      rw [suppK_s, bitB_t]
      by_cases y : x.testBit k = true
      · have y2 : ¬ and32 (x : Int) (shl32 1 (k : Int)) = 0 := fun z => by rw [ab.1 z] at y; cases y
        rw [if_pos y]
        refine ⟨(pI s2 42 (tUd T k) (tUs T k), 19, 39, (x : Int), ((k + 1 : Nat) : Int)), ⟨_, rfl, f2.trans (Fr_pI (by show fT 42; unfold fT; omega)), ?_⟩, fun rec => ?_⟩
        · obtain ⟨a1, a2, a3⟩ := c2
          refine ⟨fun p hp => ?_, fun d hd => ?_, ?_⟩
          · have := a1 p hp; simp [gI_pI]; exact this
          · have := a2 d hd
            show gI _ 42 d = (if d = tUd T k then tUs T k else nSl (suppK T x k) d) ∧ gI _ 43 d = nMi (suppK T x k) d
            by_cases z : d = tUd T k
            · simp [gI_pI, z]
              rw [← z]; exact this.2
            · simp [gI_pI, z, this]
          · obtain ⟨b1, b2, b3⟩ := a3
            exact ⟨by simp [gI_pI, b1], fun j hj => by simp [gI_pI]; exact b2 j hj, fun j hj => by simp [gI_pI]; exact b3 j hj⟩
        · simp [X1_suppose_b10_body, X1_suppose_b46, tF, isK, shF hS2, cU, g1, y2, g4, ed, es, gd, hw]
      · have y2 := ab.2 (by simpa using y)
        rw [if_neg y]
        refine ⟨(s2, 19, 39, (x : Int), ((k + 1 : Nat) : Int)), ⟨_, rfl, f2, c2⟩, fun rec => ?_⟩
        simp [X1_suppose_b10_body, X1_suppose_b46, tF, isK, shF hS2, cU, g1, y2, hw]
    · obtain ⟨s2, rfl, f2, c2⟩ := ha
      have hS2 : Sh s2 := by rw [f2.sh]; exact hS
      have hC2 := hC.ft f2 (fun a h1 h2 z => by unfold fT at z; omega)
      have cU := hC2.1.2.2.2.2.1
      refine ⟨s2, ?_, f2, c2⟩
      simp [X1_suppose_b10_body, tF, isK, shF hS2, cU]
  obtain ⟨s2, l1, l2⟩ := loop
  refine ⟨s2, ?_, l2⟩
  unfold X1_suppose
  simp [tF, isK, shF hS, e1, l1]
theorem c_notSo (hS : Sh s) (hT : TFK T) (hC : CT s T) (hV : CV s T (suppN T x) 41 42 43 44 45 46) : X1_notSoBy s 19 39 = some (notT T x, s) := by
  have q8 := hT.1.1.2.2.2.2.2.2.2
  have hN : NOK T (suppN T x) := suppK_ok hT x (tU T) (Nat.le_refl _)
  have cQ := hC.1.2.2.2.2.2
  unfold X1_notSoBy X1_notSoBy_b2 notT
  refine (iter_fnd (fun k : Nat => (s, (19 : Int), (39 : Int), (k : Int))) (tQ T) (fun k => decide (¬ heaT T (suppN T x) (tQd T k) (tQn T k) = tQp T k)) (fun k => some ((k : Int), s)) (some (-2, s)) FU (by unfold FU; omega) (fun k hk rec => ?_) (fun rec => ?_)).trans ?_
  · have hq := hT.1.2.2.2 k hk
    have e := hC.2.2.2.1 k hk
    have el := listener_e (d := tQd T k) (night := tQn T k) vc2 hS hT.1 hN hC hV hq.1 ⟨hq.2.1, by omega⟩
    have g1 : ¬ tQ T ≤ k := by omega
    have g2 : (k : Int) < 8 := by omega
    have hw := wk1 (k := k) (by omega)
    by_cases y : heaT T (suppN T x) (tQd T k) (tQn T k) = tQp T k <;> simp [X1_notSoBy_b2_body, tF, isK, shF hS, cQ, g1, g2, e, el, y, hw]
  · simp [X1_notSoBy_b2_body, tF, isK, shF hS, cQ]
  · unfold fnV
    cases fnd (fun k => decide (¬ heaT T (suppN T x) (tQd T k) (tQn T k) = tQp T k)) (tQ T) <;> rfl
theorem notT_s (T : Tw) (x : Nat) : 0 ≤ notT T x ↔ ¬ fitB T x = true := by
  unfold fitB notT fnV
  cases fnd (fun k => decide (¬ heaT T (suppN T x) (tQd T k) (tQn T k) = tQp T k)) (tQ T) with
  | none => simp
  | some k => simp
def fL5 (a : Nat) : Prop := fT a ∨ a = 55 ∨ a = 56
theorem c_list (hS : Sh s) (hT : TFK T) (hC : CT s T) (h20 : gI s 20 0 = 0) : ∃ s1, X1_list s 55 19 39 = some (0, s1) ∧ Fr fL5 s s1 ∧ FTc T s1 := by
  have u4 := hT.1.1.2.2.2.2.2.2.1
  have p4 : 2 ^ tU T ≤ 16 := Nat.pow_le_pow_right (n := 2) (by decide) u4
  have sh := shl1_6 (tU T) (by omega)
  have nL : ∀ a, 19 ≤ a → a ≤ 30 → ¬ fL5 a := fun a h1 h2 z => by unfold fL5 fT at z; omega
  have loop : ∃ s1, X1_list_b7 FU (pI s 55 1 0) 55 19 39 0 = some (0, s1) ∧ Fr fL5 s s1 ∧ FTc T s1 := by
    unfold X1_list_b7
    refine iter_inv (Q := fun G => ∃ s1, G = some (0, s1) ∧ Fr fL5 s s1 ∧ FTc T s1)
      (fun (k : Nat) (a : St × Int × Int × Int × Int) => ∃ s2, a = (s2, 55, 19, 39, (k : Int)) ∧ Fr fL5 s s2 ∧ gI s2 55 1 = (cnt (fitB T) k : Int) ∧ (0 < k → gI s2 55 2 = notT T 0) ∧ ∀ y, y < k → fitB T y = true → gI s2 56 (cnt (fitB T) y) = (y : Int))
      (2 ^ tU T) FU (pI s 55 1 0, 55, 19, 39, 0) (by unfold FU; omega) ⟨_, rfl, Fr_pI (Or.inr (Or.inl rfl)), by simp [gI_pI]; rfl, fun z => absurd z (Nat.lt_irrefl _), fun y hy => absurd hy (Nat.not_lt_zero _)⟩ (fun k hk a ha => ?_) (fun a ha rec => ?_)
    · obtain ⟨s2, rfl, f2, a1, a2, a3⟩ := ha
      have hS2 : Sh s2 := by rw [f2.sh]; exact hS
      have hC2 := hC.ft f2 nL
      have h202 : gI s2 20 0 = 0 := (f2.nu (nL _ (by decide) (by decide))).trans h20
      obtain ⟨s3, e3, f3, c3⟩ := c_suppose (x := k) hS2 hT hC2 h202 (by omega)
      have f3' : Fr fL5 s2 s3 := f3.mono (fun a ha => Or.inl ha)
      have hS3 : Sh s3 := by rw [f3.sh]; exact hS2
      have hC3 := hC2.ft f3' nL
      have e4 := c_notSo hS3 hT hC3 c3
      have cU := hC2.1.2.2.2.2.1
      have b1 : gI s3 55 1 = (cnt (fitB T) k : Int) := (f3.nu (by show ¬ fT 55; unfold fT; omega)).trans a1
      have b2 : 0 < k → gI s3 55 2 = notT T 0 := fun z => (f3.nu (by show ¬ fT 55; unfold fT; omega)).trans (a2 z)
      have b3 : ∀ y, y < k → fitB T y = true → gI s3 56 (cnt (fitB T) y) = (y : Int) := fun y hy hf => (f3.nu (by show ¬ fT 56; unfold fT; omega)).trans (a3 y hy hf)
      have g1 : ¬ ((2 ^ tU T : Nat) : Int) ≤ (k : Int) := by omega
      have cl := cnt_le (fitB T) k
      have c16 : (cnt (fitB T) k : Int) < 16 := by omega
      have hw := wk1 (k := k) (by omega)
      have hwc := wk1 (k := cnt (fitB T) k) (by clear hw; omega)
      obtain ⟨s5, hs5, f5, d1, d2, d3, hb⟩ : ∃ s5, Sh s5 ∧ Fr fL5 s s5 ∧ gI s5 55 1 = (cnt (fitB T) k : Int) ∧ gI s5 55 2 = notT T 0 ∧ (∀ y, y < k → fitB T y = true → gI s5 56 (cnt (fitB T) y) = (y : Int)) ∧ ∀ rk : St → Int → Int → Int → Int → Rs, X1_list_b7_body rk s2 55 19 39 k = X1_list_b40 rk s5 55 19 39 k (notT T k) := by
        by_cases z : k = 0
        · refine ⟨pI s3 55 2 (notT T k), hS3, (f2.trans f3').trans (Fr_pI (Or.inr (Or.inl rfl))), by simp [gI_pI, b1], by simp [gI_pI, z], (fun y hy => by rw [z] at hy; exact absurd hy (Nat.not_lt_zero _)), fun rk => ?_⟩
          have zi : (k : Int) = 0 := by clear hw hwc; omega
          unfold X1_list_b7_body
          rw [cU, sh, if_neg g1, e3, bnd_some, e4, bnd_some, if_neg (fun w => w zi)]
          simp [tF, isK, shF hS2, shF hS3]
        · refine ⟨s3, hS3, f2.trans f3', b1, b2 (by clear hw hwc; omega), b3, fun rk => ?_⟩
          have zi : ¬ (k : Int) = 0 := by clear hw hwc; omega
          unfold X1_list_b7_body
          rw [cU, sh, if_neg g1, e3, bnd_some, e4, bnd_some, if_pos zi]
          simp [tF, isK, shF hS2]
      by_cases y : fitB T k = true
      · have y0 : ¬ 0 ≤ notT T k := fun z => (notT_s T k).1 z y
        refine ⟨(pI (pI s5 56 (cnt (fitB T) k) (k : Int)) 55 1 ((cnt (fitB T) k + 1 : Nat) : Int), 55, 19, 39, ((k + 1 : Nat) : Int)), ⟨_, rfl, (f5.trans (Fr_pI (Or.inr (Or.inr rfl)))).trans (Fr_pI (Or.inr (Or.inl rfl))), ?_, fun _ => by simp [gI_pI, d2], fun z hz hf => ?_⟩, fun rec => ?_⟩
        · rw [cnt_s1 y]; simp [gI_pI]
        · by_cases w : z = k
          · rw [w]; simp [gI_pI]
          · have mono : ∀ m z, z < m → fitB T z = true → cnt (fitB T) z < cnt (fitB T) m := by
              intro m
              induction m with
              | zero => intro z h; omega
              | succ m ih =>
                intro z h hf
                by_cases q : z = m
                · rw [q, cnt_s1 (by rw [← q]; exact hf)]; omega
                · have := ih z (by omega) hf
                  have e : cnt (fitB T) (m + 1) = cnt (fitB T) m + (if fitB T m = true then 1 else 0) := rfl
                  rw [e]; omega
            have lt := mono k z (by clear hw hwc; omega) hf
            have ne : ¬ cnt (fitB T) z = cnt (fitB T) k := by clear hw hwc; omega
            simp [gI_pI, ne]
            exact d3 z (by clear hw hwc; omega) hf
        · refine (hb _).trans ?_
          unfold X1_list_b40 X1_list_b65
          rw [if_neg y0, d1]
          simp [tF, isK, shF hs5, gI_pI, d1, c16, hw, hwc]
      · have y0 : 0 ≤ notT T k := (notT_s T k).2 y
        refine ⟨(s5, 55, 19, 39, ((k + 1 : Nat) : Int)), ⟨_, rfl, f5, ?_, fun _ => d2, fun z hz hf => ?_⟩, fun rec => ?_⟩
        · rw [cnt_s0 y]; exact d1
        · by_cases w : z = k
          · rw [w] at hf; exact absurd hf y
          · exact d3 z (by clear hw hwc; omega) hf
        · refine (hb _).trans ?_
          unfold X1_list_b40 X1_list_b65
          rw [if_pos y0, hw]
          rfl
    · obtain ⟨s2, rfl, f2, a1, a2, a3⟩ := ha
      have hS2 : Sh s2 := by rw [f2.sh]; exact hS
      have hC2 := hC.ft f2 nL
      have cU := hC2.1.2.2.2.2.1
      refine ⟨s2, ?_, f2, a1, a2 (Nat.two_pow_pos _), a3⟩
      show X1_list_b7_body _ s2 55 19 39 ((2 ^ tU T : Nat) : Int) = _
      unfold X1_list_b7_body
      rw [cU, sh, if_pos (Int.le_refl _)]
      simp [tF, isK, shF hS2]
  obtain ⟨s1, l1, l2⟩ := loop
  refine ⟨s1, ?_, l2⟩
  unfold X1_list
  simp [tF, isK, shF hS, l1]
end LISTS
