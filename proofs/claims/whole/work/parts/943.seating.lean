/-! the seating, on the reference -/
section SEATING
variable {s : St} {T : Tw} {N : Nw} {t : Int} {night : Int}
/-- what person p is worth in the k-th least of the houses -/
def wSo (T : Tw) (N : Nw) (night : Int) (p k : Nat) : Nat := wrT T N night p (ins (nHo N) (tP T) k)
/-- people in houses by an order -/
def perN (N : Nw) (σ : Nat → Nat) : Nw := (N.1, (fun p => nHo N (σ p)), N.2.2.1, N.2.2.2)
theorem sm_one {f : Nat → Nat} {q : Nat} {c : Nat → Prop} [∀ p, Decidable (c p)] : ∀ P, smF (fun p => f p + (if q = p ∧ c p then 1 else 0)) P = smF f P + (if q < P ∧ c q then 1 else 0)
  | 0 => by show 0 = 0 + _; rw [if_neg (by omega)]
  | P + 1 => by
    have ih := sm_one (f := f) (q := q) (c := c) P
    show smF (fun p => f p + (if q = p ∧ c p then 1 else 0)) P + (f P + (if q = P ∧ c P then 1 else 0)) = smF f P + f P + (if q < P + 1 ∧ c q then 1 else 0)
    rw [ih]
    by_cases h1 : q = P
    · subst h1
      by_cases h2 : c q
      · rw [if_neg (fun z => Nat.lt_irrefl _ z.1), if_pos ⟨rfl, h2⟩, if_pos ⟨Nat.lt_succ_self _, h2⟩]; omega
      · rw [if_neg (fun z => h2 z.2), if_neg (fun z => h2 z.2), if_neg (fun z => h2 z.2)]; omega
    · rw [if_neg (show ¬ (q = P ∧ c P) from fun z => h1 z.1)]
      by_cases h2 : q < P ∧ c q
      · rw [if_pos h2, if_pos ⟨by omega, h2.2⟩]; omega
      · rw [if_neg h2, if_neg (fun z => h2 ⟨by omega, z.2⟩)]; omega
/-- how many are right with people in each other's houses -/
theorem ric_perm {σ : Nat → Nat} (hT : TOK T) (hN : NOK T N) (hσ : ∀ p, p < tP T → σ p < tP T) (hinj : ∀ p q, p < tP T → q < p → σ q ≠ σ p) (hsur : ∀ r, r < tP T → ∃ p, p < tP T ∧ σ p = r) : NOK T (perN N σ) ∧ ricT T (perN N σ) night = smF (fun p => wrT T N night p (σ p)) (tP T) := by
  have hs : ∀ p, p < tP T → σ p < tP T ∧ nHo (perN N σ) p = nHo N (σ p) := fun p hp => ⟨hσ p hp, rfl⟩
  have hN2 : NOK T (perN N σ) := hN.perm (σ := σ) hs hinj rfl rfl rfl
  refine ⟨hN2, ?_⟩
  have key : ∀ D, D ≤ tD T → cnt (fun d => rigT T (perN N σ) d night) D = smF (fun p => wrD T N night p (σ p) D) (tP T) := by
    intro D
    induction D with
    | zero =>
      intro _
      have z : ∀ P, smF (fun p => wrD T N night p (σ p) 0) P = 0 := by
        intro P
        induction P with
        | zero => rfl
        | succ P ih => show smF _ P + 0 = 0; rw [ih]
      rw [z]; rfl
    | succ D ih =>
      intro hD
      have er := rig_perm (σ := σ) (night := night) (d := D) hT hN hN2 hs hsur rfl rfl (by omega)
      have l3 := (hT.2.1 D (by omega)).2.2
      have e : cnt (fun d => rigT T (perN N σ) d night) (D + 1) = cnt (fun d => rigT T (perN N σ) d night) D + (if rigT T (perN N σ) D night = true then 1 else 0) := rfl
      have e2 : smF (fun p => wrD T N night p (σ p) (D + 1)) (tP T) = smF (fun p => wrD T N night p (σ p) D + (if tFo T D = p ∧ lisT T N (outT T N D (nHo N (σ p)) night) = ((σ p : Nat) : Int) then 1 else 0)) (tP T) := smF_cg _ (fun p _ => wrD_s p (σ p) D)
      rw [e, e2, sm_one (f := fun p => wrD T N night p (σ p) D) (q := tFo T D) (c := fun p => lisT T N (outT T N D (nHo N (σ p)) night) = ((σ p : Nat) : Int)), ih (by omega), er]
      congr 1
      by_cases z : lisT T N (outT T N D (nHo N (σ (tFo T D))) night) = ((σ (tFo T D) : Nat) : Int)
      · rw [if_pos (by simp [z]), if_pos ⟨l3, z⟩]
      · rw [if_neg (by simp [z]), if_neg (fun w => z w.2)]
  exact key (tD T) (Nat.le_refl _)
def seF (T : Tw) (N : Nw) (night : Int) (o : Nat) : Nat := smU (wSo T N night) (tP T) (tP T) 0 o
def seB (T : Tw) (N : Nw) (night : Int) : Nat := bU (wSo T N night) (tP T) (tP T) 0
def seO (T : Tw) (N : Nw) (night : Int) : Nat := gO (wSo T N night) (tP T) (tP T) 0
/-- the house of a person in the first best order -/
def seH (T : Tw) (N : Nw) (night : Int) (p : Nat) : Int := nHo N (ins (nHo N) (tP T) (gp (wSo T N night) (tP T) (tP T) 0 p))
theorem se_ok (hT : TOK T) : amF (seF T N night) (fac (tP T)) = (seO T N night, (seB T N night : Int)) ∧ seO T N night < fac (tP T) ∧ ∀ i, i < tP T → kp (tP T) 0 (seO T N night) i = gp (wSo T N night) (tP T) (tP T) 0 i := by
  have t5 := hT.1.2.2.2.2.1
  obtain ⟨h1, h2, h3, h4, h5⟩ := orders_ok (w := wSo T N night) (P := tP T) (by omega) (tP T) 0 (Nat.two_pow_pos _) (by show 0 + tP T = tP T; omega)
  exact ⟨am_ok h1 h2 h3 h4, h1, h5⟩
theorem m_seating_cp {o : Nat} {n : Int} (rk : St → Int → Int → Int → Int → Rs) (hM : MW T t s) (ho : o ≤ 720) : X13_seating_b81 rk FU s 76 night n o 0 = rk (sR s 83 (fun j => if j < tP T then gI s 79 j else gI s 83 j)) 76 night n ((o + 1 : Nat) : Int) := by
  have hS := hM.1
  have hF := mF hM
  have t5 := hM.2.1.1.2.2.2.2.1
  have h89 : ¬ t.toNat = 83 := by have := hM.2.2.2.1; clear hF; omega
  unfold X13_seating_b81
  rw [show (s, (76 : Int), night, n, (o : Int), (0 : Int)) = (fun k : Nat => (sR s 83 (fun j => if j < k then gI s 79 j else gI s 83 j), (76 : Int), night, n, (o : Int), (k : Int))) 0 by simp [sR_self]]
  refine iter_run (tP T) FU (fun k : Nat => (sR s 83 (fun j => if j < k then gI s 79 j else gI s 83 j), (76 : Int), night, n, (o : Int), (k : Int))) (by clear hF; unfold FU; omega) (fun k hk rec => ?_) (fun rec => ?_)
  · have g1 : ¬ tP T ≤ k := by clear hF; omega
    have g2 : (k : Int) < 19 := by clear hF; omega
    have g3 : (k : Int) < 6 := by clear hF; omega
    have hw := wk1 (k := k) (by clear hF; omega)
    have hf : (fun j => if j = k then gI s 79 k else if j < k then gI s 79 j else gI s 83 j) = fun j => if j < k + 1 then gI s 79 j else gI s 83 j := by
      funext j
      clear hF hw
      by_cases h1 : j = k
      · rw [if_pos h1, if_pos (by omega), h1]
      · rw [if_neg h1]
        by_cases h2 : j < k
        · rw [if_pos h2, if_pos (by omega)]
        · rw [if_neg h2, if_neg (by omega)]
    simp [X13_seating_b81_body, tF, sRF, isK, shF hS, hF, h89, gI_sR, g1, g2, g3, sR_pI, hf, hw]
  · have hw := wk1 (k := o) (by clear hF; omega)
    simp [X13_seating_b81_body, X13_seating_b113, tF, sRF, isK, shF hS, hF, h89, gI_sR, hw]
theorem MW.f83 {f : Nat → Int} (hM : MW T t s) : MW T t (sR s 83 f) := hM.fr (L := fun a => a = 83) (Fr_sR rfl) (fun a ha q => by omega)
theorem MW.f79 {f : Nat → Int} (hM : MW T t s) : MW T t (sR s 79 f) := hM.fr (L := fun a => a = 79) (Fr_sR rfl) (fun a ha q => by omega)
theorem m_seating_l (hM : MW T t s) (hN : NOK T N) (hx : RXf (fun j => gI s 79 j) T N) (hr : ∀ j, j < tP T → gI s 82 j = nHo N (ins (nHo N) (tP T) j)) (h23 : gI s 76 23 = -1) (hn : 0 ≤ night ∧ night ≤ 99) :
    ∃ s1, X13_seating_b40 FU s 76 night ((fac (tP T) : Nat) : Int) 0 = some (0, s1) ∧ Mv s s1 ∧ gI s1 76 23 = (seB T N night : Int) ∧ ∀ p, p < tP T → gI s1 83 p = seH T N night p := by
  have hT := hM.2.1
  have t5 := hT.1.2.2.2.2.1
  have t6 := hT.1.2.2.2.2.2.1
  have hP : tP T < 7 := by omega
  have fl := fac_le (tP T) hP
  have fpos := fac_pos (tP T)
  obtain ⟨se1, se2, se3⟩ := se_ok (N := N) (night := night) hT
  obtain ⟨io1, io2, io3⟩ := ins_ok hN.2.2.1 (tP T) (Nat.le_refl _)
  unfold X13_seating_b40
  refine iter_inv (Q := fun G => ∃ s1, G = some (0, s1) ∧ Mv s s1 ∧ gI s1 76 23 = (seB T N night : Int) ∧ ∀ p, p < tP T → gI s1 83 p = seH T N night p)
    (fun (k : Nat) (a : St × Int × Int × Int × Int) => ∃ s2, a = (s2, 76, night, ((fac (tP T) : Nat) : Int), (k : Int)) ∧ Mv s s2 ∧ gI s2 76 23 = (amF (seF T N night) k).2 ∧ (0 < k → ∀ p, p < tP T → gI s2 83 p = nHo N (ins (nHo N) (tP T) (kp (tP T) 0 (amF (seF T N night) k).1 p))) ∧ (∀ j, 6 ≤ j → gI s2 79 j = gI s 79 j) ∧ ∀ j, j < tP T → gI s2 82 j = nHo N (ins (nHo N) (tP T) j))
    (fac (tP T)) FU (s, 76, night, ((fac (tP T) : Nat) : Int), 0) (by unfold FU; omega) ⟨s, rfl, Mv.refl s, h23, fun z => absurd z (Nat.lt_irrefl _), fun j _ => rfl, hr⟩ (fun k hk a ha => ?_) (fun a ha rec => ?_)
  · obtain ⟨s2, rfl, hv2, a23, a83, a79, a82⟩ := ha
    have hM2 := hM.mv hv2
    have hS := hM2.1
    have es := m_seats (o := k) hM2 hk
    obtain ⟨k1, k2, k3⟩ := kp_ok (P := tP T) hP (tP T) 0 k (Nat.two_pow_pos _) (by show 0 + tP T = tP T; omega) hk
    have hric := ric_perm (σ := fun p => ins (nHo N) (tP T) (kp (tP T) 0 k p)) (night := night) hT hN (fun p hp => io1 _ (k1 p hp).1) (fun p q hp hq z => k2 q p hq hp (ins_inj hN.2.2.1 (k1 q (by omega)).1 (k1 p hp).1 z)) (fun r hr => by
      obtain ⟨kk, q1, q2⟩ := io2 r hr
      obtain ⟨i, j1, j2⟩ := k3 kk q1 (by simp)
      exact ⟨i, j1, by show ins (nHo N) (tP T) (kp (tP T) 0 k i) = r; rw [j2, q2]⟩)
    generalize hN2 : perN N (fun p => ins (nHo N) (tP T) (kp (tP T) 0 k p)) = N2 at hric
    have eric : ricT T N2 night = seF T N night k := by
      rw [hric.2]
      unfold seF
      rw [sm_kp _ _ _ (Nat.le_refl _)]
      refine smF_cg _ (fun i hi => ?_)
      rw [Nat.sub_self, Nat.zero_add]
      rfl
    generalize hs3 : sR s2 79 (fun j => if j < tP T then gI s2 82 (kp (tP T) 0 k j) else gI s2 79 j) = s3 at es
    have hv3 : Mv s2 s3 := by rw [← hs3]; exact Mv_fr (L := fun a => a = 79) (Fr_sR rfl) (fun a ha => Or.inl ha)
    have hM3 := hM2.mv hv3
    have hS3 := hM3.1
    have x3 : ∀ j, gI s3 79 j = if j < tP T then gI s2 82 (kp (tP T) 0 k j) else gI s2 79 j := fun j => by rw [← hs3, gI_sR, if_pos rfl]
    have x3p : ∀ p, p < tP T → gI s3 79 p = nHo N (ins (nHo N) (tP T) (kp (tP T) 0 k p)) := fun p hp => by rw [x3, if_pos hp]; exact a82 _ (k1 p hp).1
    have x36 : ∀ j, 6 ≤ j → gI s3 79 j = gI s 79 j := fun j hj => by rw [x3, if_neg (by omega)]; exact a79 j hj
    have hW3 : WM T N2 t s3 := by
      refine ⟨hM3, hric.1, fun p hp => ?_, fun d hd => ⟨?_, ?_⟩, ?_⟩
      · show gI s3 79 p = nHo N2 p
        rw [x3p p hp, ← hN2]; rfl
      · show gI s3 79 (6 + d) = nSl N2 d
        rw [x36 _ (by omega), ← hN2]; exact (hx.2.1 d hd).1
      · show gI s3 79 (12 + d) = nMi N2 d
        rw [x36 _ (by omega), ← hN2]; exact (hx.2.1 d hd).2
      · show gI s3 79 18 = nN N2
        rw [x36 _ (by omega), ← hN2]; exact hx.2.2
    have er := m_rightOn hW3 hn
    have eb := m_bitsR (s := s3) (night := night) hT N2
    rw [eric] at eb
    have e23 : gI s3 76 23 = (amF (seF T N night) k).2 := by rw [← hs3, gI_sR, if_neg (by simp)]; exact a23
    have e82 : ∀ j, gI s3 82 j = gI s2 82 j := fun j => by rw [← hs3, gI_sR, if_neg (by simp)]
    have e83 : ∀ j, gI s3 83 j = gI s2 83 j := fun j => by rw [← hs3, gI_sR, if_neg (by simp)]
    have am : amF (seF T N night) (k + 1) = if (amF (seF T N night) k).2 < (seF T N night k : Int) then (k, (seF T N night k : Int)) else amF (seF T N night) k := rfl
    have g1 : ¬ ((fac (tP T) : Nat) : Int) ≤ (k : Int) := by omega
    have hw := wk1 (k := k) (by omega)
    by_cases y : (amF (seF T N night) k).2 < (seF T N night k : Int)
    · rw [if_pos y] at am
      have hM4 : MW T t (pI s3 76 23 (seF T N night k : Int)) := hM3.tr 23 _
      have cp := fun (rk : St → Int → Int → Int → Int → Rs) => m_seating_cp (night := night) (n := ((fac (tP T) : Nat) : Int)) (o := k) rk hM4 (by clear hw; omega)
      refine ⟨(sR (pI s3 76 23 (seF T N night k : Int)) 83 (fun j => if j < tP T then gI (pI s3 76 23 (seF T N night k : Int)) 79 j else gI (pI s3 76 23 (seF T N night k : Int)) 83 j), 76, night, ((fac (tP T) : Nat) : Int), ((k + 1 : Nat) : Int)), ⟨_, rfl, ((hv2.trans hv3).trans (Mv_pI (by decide))).trans (Mv_fr (L := fun a => a = 83) (Fr_sR rfl) (fun a ha => Or.inr (by omega))), ?_, fun _ p hp => ?_, fun j hj => ?_, fun j hj => ?_⟩, fun rec => ?_⟩
      · rw [am, gI_sR, if_neg (by simp), gI_pI, if_pos ⟨rfl, rfl⟩]
      · rw [am, gI_sR, if_pos rfl, if_pos hp, gI_pI, if_neg (by simp)]
        exact x3p p hp
      · rw [gI_sR, if_neg (by simp), gI_pI, if_neg (by simp)]
        exact x36 j hj
      · rw [gI_sR, if_neg (by simp), gI_pI, if_neg (by simp), e82]
        exact a82 j hj
      · simp only [X13_seating_b40_body]
        rw [if_neg g1, es, bnd_some, er, bnd_some, eb, bnd_some, e23, lets_e, cp]
        simp [tF, isK, shF hS, shF hS3, y]
    · rw [if_neg y] at am
      have hk0 : 0 < k := by
        rcases Nat.eq_zero_or_pos k with z | z
        · exfalso
          apply y
          rw [z]
          show (-1 : Int) < _
          clear hw
          omega
        · exact z
      refine ⟨(s3, 76, night, ((fac (tP T) : Nat) : Int), ((k + 1 : Nat) : Int)), ⟨s3, rfl, hv2.trans hv3, ?_, fun _ p hp => ?_, x36, fun j hj => ?_⟩, fun rec => ?_⟩
      · rw [am]; exact e23
      · rw [am, e83]; exact a83 hk0 p hp
      · rw [e82]; exact a82 j hj
      · simp only [X13_seating_b40_body, X13_seating_b113]
        rw [if_neg g1, es, bnd_some, er, bnd_some, eb, bnd_some, e23, hw]
        simp [tF, isK, shF hS, shF hS3, y]
  · obtain ⟨s2, rfl, hv2, a23, a83, a79, a82⟩ := ha
    refine ⟨s2, ?_, hv2, ?_, fun p hp => ?_⟩
    · simp only [X13_seating_b40_body]
      rw [if_pos (Int.le_refl _)]
    · rw [a23, se1]
    · rw [a83 fpos p hp, se1]
      unfold seH
      rw [se3 p hp]
theorem m_seating (hM : MW T t s) (hN : NOK T N) (hx : RXf (fun j => gI s 78 j) T N) (hn : 0 ≤ night ∧ night ≤ 99) :
    ∃ s1, X13_seating s 76 night = some (0, s1) ∧ Mv s s1 ∧ gI s1 76 23 = (seB T N night : Int) ∧ ∀ p, p < tP T → gI s1 83 p = seH T N night p := by
  have hS := hM.1
  have t4 := hM.2.1.1.2.2.2.1
  have t5 := hM.2.1.1.2.2.2.2.1
  have hX : WM T N t (wk s) := by
    have := wk_world hM hN hx 0 (gI s 76 0)
    rw [pI_self] at this
    exact this
  have x78 : RXf (fun j => gI (wk s) 78 j) T N := hx
  obtain ⟨s2, e2, f2, l2⟩ := m_frees hX.1 hN x78
  have hM2 : MW T t s2 := hX.1.fr f2 (fun a ha q => by omega)
  have hS2 := hM2.1
  have hM3 : MW T t (pI s2 76 23 (-1)) := hM2.tr 23 (-1)
  have x79 : (fun j => gI (pI s2 76 23 (-1)) 79 j) = fun j => gI (wk s) 79 j := by
    funext j
    rw [gI_pI, if_neg (by simp)]
    exact f2.nu (by decide)
  obtain ⟨s4, e4, v4, b4, c4⟩ := m_seating_l (night := night) hM3 hN (by rw [x79]; exact hX.2.2) (fun j hj => by rw [gI_pI, if_neg (by simp)]; exact l2 j hj) (by rw [gI_pI, if_pos ⟨rfl, rfl⟩]) hn
  refine ⟨s4, ?_, ((((Mv_wk s).trans (Mv_fr f2 (fun a ha => Or.inr (by omega)))).trans (Mv_pI (by decide)))).trans v4, b4, c4⟩
  have loop : X13_seating_b17 FU (pI s2 76 23 (-1)) 76 night 1 2 = some (0, s4) := by
    have hF := mF hM3
    have hS3 := hM3.1
    unfold X13_seating_b17
    rw [show (pI s2 76 23 (-1), (76 : Int), night, (1 : Int), (2 : Int)) = (fun k : Nat => (pI s2 76 23 (-1), (76 : Int), night, ((fac (1 + k) : Nat) : Int), ((2 + k : Nat) : Int))) 0 from rfl]
    refine iter_run (tP T - 1) FU (fun k : Nat => (pI s2 76 23 (-1), (76 : Int), night, ((fac (1 + k) : Nat) : Int), ((2 + k : Nat) : Int))) (by clear hF; unfold FU; omega) (fun k hk rec => ?_) (fun rec => ?_)
    · have f2 := fac_le (1 + (k + 1)) (by clear hF; omega)
      have ef : fac (1 + (k + 1)) = (2 + k) * fac (1 + k) := by
        rw [show 1 + (k + 1) = (1 + k) + 1 by clear hF; omega]
        show (1 + k + 1) * fac (1 + k) = _
        rw [show 1 + k + 1 = 2 + k by clear hF; omega]
      have em : ((fac (1 + k) : Nat) : Int) * ((2 + k : Nat) : Int) = ((fac (1 + (k + 1)) : Nat) : Int) := by
        rw [ef, Int.mul_comm]; simp
      have w1 : w32 (((fac (1 + k) : Nat) : Int) * ((2 + k : Nat) : Int)) = ((fac (1 + (k + 1)) : Nat) : Int) := by
        rw [em]; exact wk0 (by clear hF; omega)
      have w2 := wk1 (k := 2 + k) (by clear hF w1; omega)
      have g1 : ¬ (tP T : Int) < ((2 + k : Nat) : Int) := by clear hF w1 w2; omega
      simp only [X13_seating_b17_body]
      rw [w1, w2]
      simp only [isK, shF hS3, hF, grd_if]
      rw [if_neg g1]
      simp
      rfl
    · have g1 : (tP T : Int) < ((2 + (tP T - 1) : Nat) : Int) := by clear hF; omega
      have e1 : 1 + (tP T - 1) = tP T := by clear hF; omega
      simp only [X13_seating_b17_body]
      rw [e1, e4]
      simp only [isK, shF hS3, hF, grd_if]
      rw [if_pos g1]
      simp
  unfold X13_seating
  simp [tF, wkF, isK, shF hS, shF hS2, m_works hS, e2, loop]
end SEATING
