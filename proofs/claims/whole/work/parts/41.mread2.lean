/-! the reference's reading calls, second group -/
section MTWO
variable {s : St} {T : Tw} {N : Nw} {t : Int} {d : Nat} {night aim p soot : Int}
theorem m_apart {a b : Int} (hM : MW T t s) (ha : 0 ≤ a ∧ a ≤ 100) (hb : 0 ≤ b ∧ b ≤ 100) : X13_apart s 76 a b = some (dstF (tH T) a b, s) := by
  have hS := hM.1
  have hF := mF hM
  have t1 := hM.2.1.1.1
  have t2 := hM.2.1.1.2.1
  have c0 := hM.2.2.2.2.1.1
  have m1 := Int.emod_nonneg (b - a) (b := (tH T : Int)) (by omega)
  have m2 := Int.emod_lt_of_pos (b - a) (b := (tH T : Int)) (by omega)
  have ea := m_around (x := b - a) hS hF.1.1 ⟨⟨hF.1.2.2.1, hF.1.2.2.2.1⟩, hF.1.2.1⟩ ⟨by omega, by omega⟩ (by omega) (by omega)
  rw [c0] at ea
  have w1 := w32e (x := (tH T : Int) - (b - a) % (tH T : Int)) (by omega)
  have w2 := w32e (x := b - a) (by omega)
  unfold X13_apart dstF X13_apart_b35
  simp only [w2, ea]
  rcases Int.lt_trichotomy ((tH T : Int) - (b - a) % (tH T : Int)) ((b - a) % (tH T : Int)) with h | h | h
  · simp [tF, isK, shF hS, hF, w1, h, Int.le_of_lt h]
  · rw [h] at w1
    simp [tF, isK, shF hS, hF, w1, h]
  · have h2 : ¬ (tH T : Int) - (b - a) % (tH T : Int) < (b - a) % (tH T : Int) := by clear w1 w2; omega
    have h3 : ¬ (tH T : Int) - (b - a) % (tH T : Int) ≤ (b - a) % (tH T : Int) := by clear w1 w2; omega
    simp [tF, isK, shF hS, hF, w1, h2, h3]
theorem m_soot (hM : MW T t s) (n : Int) : X13_refusesSoot s 76 n = some (if 0 ≤ n ∧ n ≤ 9 then 0 else 2, s) := by
  have hS := hM.1
  have hF := mF hM
  unfold X13_refusesSoot X13_refusesSoot_b26
  by_cases h : 0 ≤ n ∧ n ≤ 9 <;> simp [tF, isK, shF hS, hF, m_in, h]
theorem n_soot (hS : Sh s) (h : gR s 76 3 < 0) (n : Int) : X13_refusesSoot s 76 n = some (1, s) := by
  unfold X13_refusesSoot X13_refusesSoot_b26
  simp [tF, isK, shF hS, h]
theorem m_chatted {a b : Int} (hs : 0 ≤ soot ∧ soot ≤ 9) : X13_chatted s soot a b = some (gainF a b soot, s) := by
  have w1 := w32e (x := 2 - soot) (by omega)
  unfold X13_chatted X13_chatted_b27 gainF
  by_cases h1 : a = 0 <;> by_cases h2 : b = 0 <;> simp [h1, h2, w1]
theorem m_isRest {k : Nat} (hk : k < 4) (hs : 0 ≤ soot ∧ soot ≤ 9) : X13_isRest s soot k = some (if restF soot k = true then 1 else 0, s) := by
  have e : ∀ (s : St) (a b : Int), X13_chatted s soot a b = some (gainF a b soot, s) := fun s a b => m_chatted hs
  have hc : k = 0 ∨ k = 1 ∨ k = 2 ∨ k = 3 := by omega
  have hq : soot = 0 ∨ soot = 1 ∨ soot = 2 ∨ soot = 3 ∨ soot = 4 ∨ soot = 5 ∨ soot = 6 ∨ soot = 7 ∨ soot = 8 ∨ soot = 9 := by omega
  rcases hq with rfl | rfl | rfl | rfl | rfl | rfl | rfl | rfl | rfl | rfl <;> rcases hc with rfl | rfl | rfl | rfl <;>
  simp [X13_isRest, X13_isRest_b10, X13_isRest_b23, X13_isRest_b34, X13_isRest_b57, X13_isRest_b74, X13_isRest_b75, tF, e, gainF, restF]
theorem r_rests (hS : Sh s) (hs : 0 ≤ soot ∧ soot ≤ 9) : X13_rests_b26 FU s 76 soot 0 0 = some (((cnt (fun k => restF soot k) 4 : Nat) : Int), fiM 0 s) := by
  unfold X13_rests_b26
  refine iter_run (4) FU (fun k : Nat => (s, 76, soot, ((cnt (fun k => restF soot k) k : Nat) : Int), (k : Int))) (by unfold FU; omega) (fun k hk rec => ?_) (fun rec => ?_)
  · have hk0 := hk
    have hg0 : ¬ (4 : Int) ≤ k := by omega
    have e := m_isRest (s := s) hk hs
    have hc := cnt_le (fun k => restF soot k) k
    have hc6 : cnt (fun k => restF soot k) k ≤ 6000 := by omega
    have hk6 : k ≤ 6000 := by omega
    have hw2 := wk1 hc6
    have hw3 := wk0 hc6
    have hw := wk1 hk6
    by_cases h : restF soot k = true
    · have hb := cnt_s1 (P := (fun k => restF soot k)) (d := k) (by simp [h])
      simp [X13_rests_b26_body, X13_rests_b47, tF, isK, shF hS, m_good hS, e, h, hb, hw, hw2, hw3, hg0]
    · have hb := cnt_s0 (P := (fun k => restF soot k)) (d := k) (by simp [h])
      simp [X13_rests_b26_body, X13_rests_b47, tF, isK, shF hS, m_good hS, e, h, hb, hw, hw2, hw3, hg0]
  · simp [X13_rests_b26_body, X13_rests_b47, tF, isK, shF hS, m_good hS]
theorem rest_w {k : Nat} (hk : k < 4) : w32 (w32 (10 * w32 (Int.tdiv (k : Int) 2)) + Int.tmod (k : Int) 2) = 10 * ((k : Int) / 2) + (k : Int) % 2 := by
  have hc : k = 0 ∨ k = 1 ∨ k = 2 ∨ k = 3 := by omega
  rcases hc with rfl | rfl | rfl | rfl <;> decide
theorem rest_w2 {k : Nat} (hk : k < 4) : w32 (w32 (10 * w32 ((k : Int) / 2)) + Int.tmod (k : Int) 2) = 10 * ((k : Int) / 2) + (k : Int) % 2 := by
  have hc : k = 0 ∨ k = 1 ∨ k = 2 ∨ k = 3 := by omega
  rcases hc with rfl | rfl | rfl | rfl <;> decide
theorem r_rest (hS : Sh s) (hs : 0 ≤ soot ∧ soot ≤ 9) : X13_rest_b23 FU s 76 soot 0 = some (fnV (fun k => restF soot k) 4 (fun k => 10 * ((k : Int) / 2) + (k : Int) % 2), fiM 0 s) := by
  unfold X13_rest_b23
  refine (iter_fnd (fun k : Nat => (s, 76, soot, (k : Int))) (4) (fun k => restF soot k) (fun k => some (10 * ((k : Int) / 2) + (k : Int) % 2, fiM 0 s)) (some (-2, fiM 0 s)) FU (by unfold FU; omega) (fun k hk rec => ?_) (fun rec => ?_)).trans ?_
  · have hk0 := hk
    have hg0 : ¬ (4 : Int) ≤ k := by omega
    have e := m_isRest (s := s) hk hs
    have e2 := rest_w2 hk
    have hw := wk1 (k := k) (by omega)
    by_cases h : restF soot k = true <;>
    simp [X13_rest_b23_body, tF, isK, shF hS, m_good hS, e, e2, h, hw, hg0]
  · simp [X13_rest_b23_body, tF, isK, shF hS, m_good hS]
  · unfold fnV
    split <;> simp_all
theorem m_firstDead (hW : WM T N t s) (p : Int) : X13_firstDead s 76 p = some (fdfT T p, s) := by
  have hS := hW.1.1
  have hM := mF hW.1
  have t6 := hW.1.2.1.1.2.2.2.2.2.1
  unfold X13_firstDead X13_firstDead_b2
  refine (iter_fnd (fun k : Nat => (s, (76 : Int), p, (k : Int))) (tD T) (fun d => decide ((tFo T d : Int) = p)) (fun k => some ((k : Int), s)) (some (-2, s)) FU (fuel7 (by omega)) (fun k hk rec => ?_) (fun rec => ?_)).trans ?_
  · have e := (hW.1.2.2.2.2.2.1 k hk).2
    have g1 : ¬ tD T ≤ k := by omega
    have g2 : (k : Int) < 6 := by omega
    have hk6 : k ≤ 6000 := by omega
    have hw := wk1 hk6
    by_cases h : (tFo T k : Int) = p <;>
    simp [X13_firstDead_b2_body, tF, isK, shF hS, hM, e, h, hw, g1, g2]
  · simp [X13_firstDead_b2_body, tF, isK, shF hS, hM]
  · unfold fdfT
    split <;> simp_all
theorem m_nextOf (hW : WM T N t s) (p : Int) (hn : 0 ≤ night ∧ night ≤ 99) : X13_nextOf s 76 p night = some (nxtT T N p night, s) := by
  have hS := hW.1.1
  have e := m_firstDead hW p
  unfold X13_nextOf nxtT fdfT at *
  cases h : fnd (fun d => decide ((tFo T d : Int) = p)) (tD T) with
  | none =>
    rw [h] at e
    simp [tF, isK, shF hS, e, X13_nextOf_b23]
  | some q =>
    rw [h] at e
    have e2 := m_hea hW (fnd_some h).1 hn
    simp [tF, isK, shF hS, e, e2, X13_nextOf_b23]
theorem nxt_none (T : Tw) (N : Nw) (night : Int) : nxtT T N (-2) night = -2 := by
  unfold nxtT
  rw [fnd_no (fun j hj => by simp)]
theorem itN_none {q : Nat} {j : Nat} (h : itN T N night q j = -2) : ∀ k, itN T N night q (j + k) = -2
  | 0 => h
  | k + 1 => by
    show nxtT T N (itN T N night q (j + k)) night = -2
    rw [itN_none h k, nxt_none]
theorem m_ringOf {q : Nat} (hW : WM T N t s) (hn : 0 ≤ night ∧ night ≤ 99) : X13_ringOf s 76 q night = some (ringT T N q night, s) := by
  have hS := hW.1.1
  have hM := mF hW.1
  have t5 := hW.1.2.1.1.2.2.2.2.1
  unfold X13_ringOf X13_ringOf_b5
  rw [show (s, (76 : Int), (q : Int), night, (q : Int), (1 : Int)) = (fun k : Nat => (s, (76 : Int), (q : Int), night, itN T N night q k, (k : Int) + 1)) 0 from rfl]
  refine (iter_fnd (fun k : Nat => (s, (76 : Int), (q : Int), night, itN T N night q k, (k : Int) + 1)) (tP T) (fun k => decide (itN T N night q (k + 1) = (q : Int) ∨ itN T N night q (k + 1) = -2)) (fun k => some (if itN T N night q (k + 1) = -2 then -2 else (k : Int) + 1, s)) (some (-2, s)) FU (by unfold FU; omega) (fun k hk rec => ?_) (fun rec => ?_)).trans ?_
  · have hg : ¬ (tP T : Int) < (k : Int) + 1 := by omega
    have hk6 : k + 1 ≤ 6000 := by omega
    have e := m_nextOf hW (itN T N night q k) hn
    have ei : itN T N night q (k + 1) = nxtT T N (itN T N night q k) night := rfl
    have hw := wk1 hk6
    rw [show ((k + 1 : Nat) : Int) = (k : Int) + 1 by simp] at hw
    by_cases h : nxtT T N (itN T N night q k) night = (q : Int) <;> by_cases h2 : nxtT T N (itN T N night q k) night = -2 <;>
    simp [X13_ringOf_b5_body, tF, isK, shF hS, hM, e, ei, h, h2, hw, hg]
  · have hg : (tP T : Int) < (tP T : Int) + 1 := by omega
    simp [X13_ringOf_b5_body, tF, isK, shF hS, hM, hg]
  · unfold ringT fnV
    cases h : fnd (fun k => decide (itN T N night q (k + 1) = (q : Int) ∨ itN T N night q (k + 1) = -2)) (tP T) with
    | none =>
      rw [fnd_no (fun j hj => by have := fnd_none h j hj; simp at this; simp; exact this.1)]
    | some k =>
      obtain ⟨a1, a2, a3⟩ := fnd_some h
      simp at a2
      rcases a2 with a2 | a2
      · rw [fnd_is (k := k) a1 (by simp [a2]) (fun j hj => by have := a3 j hj; simp at this; simp; exact this.1)]
        simp [a2]
      · rw [fnd_no (fun j hj => ?_)]
        · simp [a2]
        · simp
          by_cases hjk : j < k
          · have := a3 j hjk; simp at this; exact this.1
          · have := itN_none a2 (j - k)
            rw [show k + 1 + (j - k) = j + 1 by omega] at this
            rw [this]; omega
theorem r_ringAt {q i : Nat} (hW : WM T N t s) (hn : 0 ≤ night ∧ night ≤ 99) (hi : i ≤ 6) : X13_ringAt_b59 FU s 76 night i q 0 = some (itN T N night q i, fiM 0 s) := by
  have hS := hW.1.1
  unfold X13_ringAt_b59
  refine iter_run i FU (fun k : Nat => (s, (76 : Int), night, (i : Int), itN T N night q k, (k : Int))) (by unfold FU; omega) (fun k hk rec => ?_) (fun rec => ?_)
  · have hg : ¬ (i : Int) ≤ k := by omega
    have hg' : ¬ i ≤ k := by omega
    have hk6 : k ≤ 6000 := by omega
    have e := m_nextOf hW (itN T N night q k) hn
    have ei : itN T N night q (k + 1) = nxtT T N (itN T N night q k) night := rfl
    have hw := wk1 hk6
    simp [X13_ringAt_b59_body, tF, isK, shF hS, e, ei, hw, hg, hg']
  · simp [X13_ringAt_b59_body, tF, isK, shF hS, m_good hS]
theorem emod_sub_iff {a b H : Int} : a % H = b % H ↔ (a - b) % H = 0 := Int.emod_eq_emod_iff_emod_sub_eq_zero
theorem emod_neg0 {a H : Int} : (-a) % H = 0 ↔ a % H = 0 := by
  constructor <;> intro h
  · have := Int.dvd_of_emod_eq_zero h
    exact Int.emod_eq_zero_of_dvd (by have := Int.dvd_neg.mpr this; rwa [Int.neg_neg] at this)
  · exact Int.emod_eq_zero_of_dvd (Int.dvd_neg.mpr (Int.dvd_of_emod_eq_zero h))
theorem out_iff {H law slip mir aim n1 n2 : Int} : outF H law slip mir aim n1 = outF H law slip mir aim n2 ↔ (shiftF law slip n1 - shiftF law slip n2) % H = 0 := by
  unfold outF
  by_cases h : mir < 0
  · rw [if_pos h, if_pos h, emod_sub_iff, show aim + shiftF law slip n1 - (aim + shiftF law slip n2) = shiftF law slip n1 - shiftF law slip n2 by omega]
  · rw [if_neg h, if_neg h, emod_sub_iff, show 2 * mir - (aim + shiftF law slip n1) - (2 * mir - (aim + shiftF law slip n2)) = -(shiftF law slip n1 - shiftF law slip n2) by omega, emod_neg0]
/-- whether a saying comes out alike b nights on -/
def crT (T : Tw) (N : Nw) (d b : Nat) : Prop := outT T N d (aimT T N d) 0 = outT T N d (aimT T N d) (b : Int) ∧ outT T N d (aimT T N d) 1 = outT T N d (aimT T N d) (1 + (b : Int))
theorem m_comesRound {b : Nat} (hW : WM T N t s) (hd : d < tD T) (hb : b ≤ 41) : X13_comesRound s 76 d b = some (if outT T N d (aimT T N d) 0 = outT T N d (aimT T N d) (b : Int) ∧ outT T N d (aimT T N d) 1 = outT T N d (aimT T N d) (1 + (b : Int)) then 1 else 0, s) := by
  have hS := hW.1.1
  unfold X13_comesRound X13_comesRound_b2
  have e1 := m_aim hW hd
  have ab := aimT_b hW.2.1 hW.1.2.1 hd
  refine (iter_fnd (fun k : Nat => (s, (76 : Int), (d : Int), (b : Int), (k : Int))) 2 (fun k => decide (¬ outT T N d (aimT T N d) (k : Int) = outT T N d (aimT T N d) ((k : Int) + (b : Int)))) (fun k => some (0, s)) (some (1, s)) FU (by unfold FU; omega) (fun k hk rec => ?_) (fun rec => ?_)).trans ?_
  · have g1 : ¬ (2 : Int) ≤ k := by omega
    have g2 : ¬ 2 ≤ k := by omega
    have hk6 : k ≤ 6000 := by omega
    have e2 := m_out (night := (k : Int)) hW hd ab (by omega)
    have e3 := m_out (night := (k : Int) + (b : Int)) hW hd ab (by omega)
    have w2 := w32e (x := (k : Int) + (b : Int)) (by omega)
    have hw := wk1 hk6
    by_cases h : outT T N d (aimT T N d) (k : Int) = outT T N d (aimT T N d) ((k : Int) + (b : Int))
    · simp [X13_comesRound_b2_body, tF, isK, shF hS, e1, e2, e3, w2, h, hw, g1]
    · simp [X13_comesRound_b2_body, tF, isK, shF hS, e1, e2, e3, w2, h, hw, g1]
  · simp [X13_comesRound_b2_body, tF]
  · by_cases h0 : outT T N d (aimT T N d) 0 = outT T N d (aimT T N d) (b : Int) <;> by_cases h1 : outT T N d (aimT T N d) 1 = outT T N d (aimT T N d) (1 + (b : Int)) <;>
    simp [fnd, fndF, h0, h1]
theorem crT_iff {b : Nat} : crT T N d b ↔ (shiftF (tLaw T d) (nSl N d) 0 - shiftF (tLaw T d) (nSl N d) (b : Int)) % (tH T : Int) = 0 ∧ (shiftF (tLaw T d) (nSl N d) 1 - shiftF (tLaw T d) (nSl N d) (1 + (b : Int))) % (tH T : Int) = 0 := by
  unfold crT outT
  rw [out_iff, out_iff]
theorem cr_drift {b : Nat} (h : tLaw T d = 2) : crT T N d b ↔ (nSl N d * (b : Int)) % (tH T : Int) = 0 := by
  rw [crT_iff]
  unfold shiftF
  simp only [h]
  simp
  rw [show nSl N d - nSl N d * (1 + (b : Int)) = -(nSl N d * (b : Int)) by rw [Int.mul_add]; omega]
  simp [emod_neg0]
theorem rou_spec (hT : TOK T) (hd : d < tD T) : ∃ b : Nat, rouT T N d = (b : Int) + 1 ∧ b ≤ 40 ∧ crT T N d (b + 1) ∧ ∀ j, j < b → ¬ crT T N d (j + 1) := by
  obtain ⟨l1, l2, l3⟩ := hT.2.1 d hd
  have t1 := hT.1.1
  have t2 := hT.1.2.1
  by_cases k2 : tLaw T d = 2
  · have ru : rouT T N d = (match fnd (fun k => decide ((nSl N d * ((k : Int) + 1)) % (tH T : Int) = 0)) (tH T - 1) with | some k => (k : Int) + 1 | none => (tH T : Int)) := by
      unfold rouT
      rw [if_neg (by omega), if_pos k2]
      rfl
    cases h : fnd (fun k => decide ((nSl N d * ((k : Int) + 1)) % (tH T : Int) = 0)) (tH T - 1) with
    | none =>
      rw [h] at ru
      refine ⟨tH T - 1, by rw [ru]; simp; omega, by omega, (cr_drift k2).mpr ?_, fun j hj q => ?_⟩
      · rw [show tH T - 1 + 1 = tH T by omega]
        exact Int.mul_emod_left _ _
      · have := fnd_none h j hj
        simp at this
        have q2 := (cr_drift k2).mp q
        rw [show ((j + 1 : Nat) : Int) = (j : Int) + 1 by simp] at q2
        exact this q2
    | some k =>
      obtain ⟨a1, a2, a3⟩ := fnd_some h
      rw [h] at ru
      simp at a2
      refine ⟨k, ru, by omega, (cr_drift k2).mpr ?_, fun j hj q => ?_⟩
      · rw [show ((k + 1 : Nat) : Int) = (k : Int) + 1 by simp]; exact a2
      · have := a3 j hj
        simp at this
        have q2 := (cr_drift k2).mp q
        rw [show ((j + 1 : Nat) : Int) = (j : Int) + 1 by simp] at q2
        exact this q2
  · by_cases k3 : tLaw T d = 3
    · by_cases k1 : (2 * nSl N d) % (tH T : Int) = 0
      · refine ⟨0, by unfold rouT; rw [if_pos k3, if_pos k1]; rfl, by omega, ?_, fun j hj => by omega⟩
        rw [crT_iff]
        unfold shiftF
        simp [k3]
        have e1 : nSl N d + nSl N d = 2 * nSl N d := by omega
        have e2 : -nSl N d - nSl N d = -(2 * nSl N d) := by omega
        rw [e1, e2, emod_neg0]
        exact ⟨k1, k1⟩
      · refine ⟨1, by unfold rouT; rw [if_pos k3, if_neg k1]; rfl, by omega, ?_, fun j hj q => ?_⟩
        · rw [crT_iff]
          unfold shiftF
          simp [k3]
        · have : j = 0 := by omega
          subst this
          rw [crT_iff] at q
          unfold shiftF at q
          simp [k3] at q
          apply k1
          rw [show 2 * nSl N d = nSl N d + nSl N d by omega]
          exact q.1
    · refine ⟨0, by unfold rouT; rw [if_neg k3, if_neg k2]; rfl, by omega, ?_, fun j hj => by omega⟩
      rw [crT_iff]
      unfold shiftF
      have hc : tLaw T d = 0 ∨ tLaw T d = 1 := by omega
      rcases hc with hc | hc <;> simp [hc]
theorem r_round (hW : WM T N t s) (hd : d < tD T) : X13_round_b25 FU s 76 d 1 = some (rouT T N d, fiM 0 s) := by
  have hS := hW.1.1
  obtain ⟨b, b1, b2, b3, b4⟩ := rou_spec (N := N) hW.1.2.1 hd
  unfold X13_round_b25
  rw [show (s, (76 : Int), (d : Int), (1 : Int)) = (fun k : Nat => (s, (76 : Int), (d : Int), ((k + 1 : Nat) : Int))) 0 from rfl, b1]
  refine iter_run b FU (fun k : Nat => (s, (76 : Int), (d : Int), ((k + 1 : Nat) : Int))) (by unfold FU; omega) (fun k hk rec => ?_) (fun rec => ?_)
  · have e := m_comesRound (b := k + 1) hW hd (by omega)
    have h := b4 k hk
    unfold crT at h
    rw [if_neg h] at e
    have hw := wk1 (k := k + 1) (by omega)
    simp only [X13_round_b25_body]
    rw [e, hw]
    simp [tF, isK, shF hS]
  · have e := m_comesRound (b := b + 1) hW hd (by omega)
    unfold crT at b3
    rw [if_pos b3] at e
    simp only [X13_round_b25_body]
    rw [e]
    simp [tF, isK, shF hS, m_good hS]
end MTWO
section MREAD2
variable {W : Wd} {s : St}
theorem mm_off (h : MWd W s) (d n : Int) : MR s (q_off W d n).1 (q_off W d n).2 (X13_off s 76 d n) := by
  obtain ⟨hS, hno, hW⟩ := h
  have hS1 : Sh (pI s 76 0 0) := hS
  unfold X13_off
  rcases W with _ | ⟨T, N⟩
  · have hn := hno rfl
    have hn1 : gR (pI s 76 0 0) 76 3 < 0 := hn
    refine MR_no ?_
    simp [tF, sRF, wkF, isK, shF hS, m_rn, m_in, m_refd hS1, m_works hS1, q_off, rd, g2, hn, n_dead hS1 hn1, n_pers hS1 hn1, n_hous hS1 hn1]
  · obtain ⟨t, hM, hN, hx⟩ := hW T N rfl
    have hM1 := hM.tr 0 0
    have hF := mF hM
    have hX := wk_world hM hN hx 0 0
    have hSx := hX.1.1
    by_cases j0 : (0 ≤ d ∧ d < tD T) <;> by_cases j1 : 0 ≤ n ∧ n ≤ 99
    · obtain ⟨d, rfl, j0'⟩ := nat_of j0
      have e1 := m_hea hX j0' j1
      have e2 := m_aim hX j0'
      have e3 := m_out hX j0' (aimT_b hN hM.2.1 j0') j1
      obtain ⟨q, hq1, hq2⟩ := nat_of (lisT_b hM.2.1 hN (outT T N d (aimT T N d) n))
      have hq3 : heaT T N d n = (q : Int) := hq1
      have gx : gI (wk (pI s 76 0 0)) 79 q = nHo N q := hX.2.2.1 q hq2
      have ob := outT_b hM.2.1 N d (aimT T N d) n
      have nb := hN.2.1 q hq2
      have t5 := hM.2.1.1.2.2.2.2.1
      have t1 := hM.2.1.1.1
      have t2 := hM.2.1.1.2.1
      have hFx := mF hX.1
      have c0 := hX.1.2.2.2.2.1.1
      have ea := m_around (s := wk (pI s 76 0 0)) (x := nHo N q - outT T N d (aimT T N d) n) hSx hFx.1.1 ⟨⟨hFx.1.2.2.1, hFx.1.2.2.2.1⟩, hFx.1.2.1⟩ ⟨by omega, by omega⟩ (by rw [c0]; omega) (by rw [c0]; omega)
      rw [c0] at ea
      rw [hq3] at e1
      have hq6 : (q : Int) < 19 := by omega
      have e4 := w32e (x := nHo N q - outT T N d (aimT T N d) n) (by omega)
      have e5 := hq2
      refine MR_ok ?_
      simp [tF, sRF, wkF, isK, shF hS, m_rn, m_in, m_refd hS1, m_works hS1, q_off, rd, g2, hF.1, m_dead hM1, m_pers hM1, m_hous hM1, m_good hSx, j0', j1, e1, e2, e3, e4, e5, hq3, hq6, ea, gx]
    all_goals (refine MR_no ?_; simp [tF, sRF, wkF, isK, shF hS, m_rn, m_in, m_refd hS1, m_works hS1, q_off, rd, g2, hF.1, m_dead hM1, m_pers hM1, m_hous hM1, j0, j1] <;> intros <;> omega)
theorem mm_dead (h : MWd W s) (d what : Int) : MR s (q_dead W d what).1 (q_dead W d what).2 (X13_dead s 76 d what) := by
  obtain ⟨hS, hno, hW⟩ := h
  have hS1 : Sh (pI s 76 0 0) := hS
  unfold X13_dead
  rcases W with _ | ⟨T, N⟩
  · have hn := hno rfl
    have hn1 : gR (pI s 76 0 0) 76 3 < 0 := hn
    refine MR_no ?_
    simp [tF, sRF, wkF, isK, shF hS, m_rn, m_in, m_refd hS1, m_works hS1, q_dead, rd, g2, X13_dead_b22, X13_dead_b88, hn, n_dead hS1 hn1, n_pers hS1 hn1, n_hous hS1 hn1]
  · obtain ⟨t, hM, hN, hx⟩ := hW T N rfl
    have hM1 := hM.tr 0 0
    have hF := mF hM
    have hX := wk_world hM hN hx 0 0
    have hSx := hX.1.1
    by_cases j0 : (0 ≤ d ∧ d < tD T) <;> by_cases j1 : (0 ≤ what ∧ what ≤ 3)
    · obtain ⟨d, rfl, j0'⟩ := nat_of j0
      have t6 := hM.2.1.1.2.2.2.2.2.1
      obtain ⟨e1, e2⟩ := hM1.2.2.2.2.2.1 d j0'
      have e3 : gI (pI s 76 0 0) 78 (6 + d) = nSl N d := (hx.2.1 d j0').1
      have e4 : gI (pI s 76 0 0) 78 (12 + d) = nMi N d := (hx.2.1 d j0').2
      have e5 : (6 + (d : Int)).toNat = 6 + d := by omega
      have e6 : (12 + (d : Int)).toNat = 12 + d := by omega
      have u1 : (d : Int) < 6 := by omega
      have u2 : (0 : Int) ≤ 6 + d := by omega
      have u3 : (6 : Int) + d < 19 := by omega
      have u4 : (0 : Int) ≤ 12 + d := by omega
      have u5 : (12 : Int) + d < 19 := by omega
      have u6 := j0'
      have hc : what = 0 ∨ what = 1 ∨ what = 2 ∨ what = 3 := by omega
      have w6 := w32e (x := 6 + (d : Int)) (by omega)
      have w12 := w32e (x := 12 + (d : Int)) (by clear w6; omega)
      rcases hc with rfl | rfl | rfl | rfl <;> refine MR_no ?_ <;>
      simp [tF, sRF, wkF, isK, shF hS, m_rn, m_in, m_refd hS1, m_works hS1, q_dead, rd, g2, X13_dead_b22, X13_dead_b88, hF.1, m_dead hM1, m_pers hM1, m_hous hM1, m_good hSx, j0', j1, hF, e1, e2, e3, e4, e5, e6, u1, u2, u3, u4, u5, u6, m_good hS1, w6, w12]
    all_goals (refine MR_no ?_; simp [tF, sRF, wkF, isK, shF hS, m_rn, m_in, m_refd hS1, m_works hS1, q_dead, rd, g2, X13_dead_b22, X13_dead_b88, hF.1, m_dead hM1, m_pers hM1, m_hous hM1, j0, j1] <;> intros <;> omega)
theorem mm_steps (h : MWd W s) (a b : Int) : MR s (q_steps W a b).1 (q_steps W a b).2 (X13_steps s 76 a b) := by
  obtain ⟨hS, hno, hW⟩ := h
  have hS1 : Sh (pI s 76 0 0) := hS
  unfold X13_steps
  rcases W with _ | ⟨T, N⟩
  · have hn := hno rfl
    have hn1 : gR (pI s 76 0 0) 76 3 < 0 := hn
    refine MR_no ?_
    simp [tF, sRF, wkF, isK, shF hS, m_rn, m_in, m_refd hS1, m_works hS1, q_steps, rd, g2, X13_steps_b39, X13_steps_b34, hn, n_dead hS1 hn1, n_pers hS1 hn1, n_hous hS1 hn1]
  · obtain ⟨t, hM, hN, hx⟩ := hW T N rfl
    have hM1 := hM.tr 0 0
    have hF := mF hM
    have hX := wk_world hM hN hx 0 0
    have hSx := hX.1.1
    by_cases j0 : (0 ≤ a ∧ a < tH T) <;> by_cases j1 : (0 ≤ b ∧ b < tH T)
    · obtain ⟨a, rfl, j0'⟩ := nat_of j0
      obtain ⟨b, rfl, j1'⟩ := nat_of j1
      refine MR_no ?_
      simp [tF, sRF, wkF, isK, shF hS, m_rn, m_in, m_refd hS1, m_works hS1, q_steps, rd, g2, X13_steps_b39, X13_steps_b34, hF.1, m_dead hM1, m_pers hM1, m_hous hM1, m_good hSx, j0', j1', m_apart hM1 (a := (a : Int)) (b := (b : Int)) (by have := hM.2.1.1.2.1; omega) (by have := hM.2.1.1.2.1; omega), m_good hS1]
    all_goals (refine MR_no ?_; simp [tF, sRF, wkF, isK, shF hS, m_rn, m_in, m_refd hS1, m_works hS1, q_steps, rd, g2, X13_steps_b39, X13_steps_b34, hF.1, m_dead hM1, m_pers hM1, m_hous hM1, j0, j1] <;> intros <;> omega)
theorem mm_round (h : MWd W s) (d : Int) : MR s (q_round W d).1 (q_round W d).2 (X13_round s 76 d) := by
  obtain ⟨hS, hno, hW⟩ := h
  have hS1 : Sh (pI s 76 0 0) := hS
  unfold X13_round
  rcases W with _ | ⟨T, N⟩
  · have hn := hno rfl
    have hn1 : gR (pI s 76 0 0) 76 3 < 0 := hn
    refine MR_no ?_
    simp [tF, sRF, wkF, isK, shF hS, m_rn, m_in, m_refd hS1, m_works hS1, q_round, rd, g2, hn, n_dead hS1 hn1, n_pers hS1 hn1, n_hous hS1 hn1]
  · obtain ⟨t, hM, hN, hx⟩ := hW T N rfl
    have hM1 := hM.tr 0 0
    have hF := mF hM
    have hX := wk_world hM hN hx 0 0
    have hSx := hX.1.1
    by_cases j0 : (0 ≤ d ∧ d < tD T)
    · obtain ⟨d, rfl, j0'⟩ := nat_of j0
      refine MR_ok ?_
      simp [tF, sRF, wkF, isK, shF hS, m_rn, m_in, m_refd hS1, m_works hS1, q_round, rd, g2, hF.1, m_dead hM1, m_pers hM1, m_hous hM1, m_good hSx, j0', r_round hX j0']
    all_goals (refine MR_no ?_; simp [tF, sRF, wkF, isK, shF hS, m_rn, m_in, m_refd hS1, m_works hS1, q_round, rd, g2, hF.1, m_dead hM1, m_pers hM1, m_hous hM1, j0] <;> intros <;> omega)
theorem mm_ring (h : MWd W s) (p n : Int) : MR s (q_ring W p n).1 (q_ring W p n).2 (X13_ring s 76 p n) := by
  obtain ⟨hS, hno, hW⟩ := h
  have hS1 : Sh (pI s 76 0 0) := hS
  unfold X13_ring
  rcases W with _ | ⟨T, N⟩
  · have hn := hno rfl
    have hn1 : gR (pI s 76 0 0) 76 3 < 0 := hn
    refine MR_no ?_
    simp [tF, sRF, wkF, isK, shF hS, m_rn, m_in, m_refd hS1, m_works hS1, q_ring, rd, g2, hn, n_dead hS1 hn1, n_pers hS1 hn1, n_hous hS1 hn1]
  · obtain ⟨t, hM, hN, hx⟩ := hW T N rfl
    have hM1 := hM.tr 0 0
    have hF := mF hM
    have hX := wk_world hM hN hx 0 0
    have hSx := hX.1.1
    by_cases j0 : (0 ≤ p ∧ p < tP T) <;> by_cases j1 : 0 ≤ n ∧ n ≤ 99
    · obtain ⟨p, rfl, j0'⟩ := nat_of j0
      refine MR_ok ?_
      simp [tF, sRF, wkF, isK, shF hS, m_rn, m_in, m_refd hS1, m_works hS1, q_ring, rd, g2, hF.1, m_dead hM1, m_pers hM1, m_hous hM1, m_good hSx, j0', j1, m_ringOf hX j1]
    all_goals (refine MR_no ?_; simp [tF, sRF, wkF, isK, shF hS, m_rn, m_in, m_refd hS1, m_works hS1, q_ring, rd, g2, hF.1, m_dead hM1, m_pers hM1, m_hous hM1, j0, j1] <;> intros <;> omega)
theorem mm_rests (h : MWd W s) (n : Int) : MR s (q_rests W n).1 (q_rests W n).2 (X13_rests s 76 n) := by
  obtain ⟨hS, hno, hW⟩ := h
  have hS1 : Sh (pI s 76 0 0) := hS
  unfold X13_rests
  rcases W with _ | ⟨T, N⟩
  · have hn := hno rfl
    have hn1 : gR (pI s 76 0 0) 76 3 < 0 := hn
    refine MR_no ?_
    simp [tF, sRF, wkF, isK, shF hS, m_rn, m_in, m_refd hS1, m_works hS1, q_rests, rd, g2, n_soot hS1 hn1, hn, n_dead hS1 hn1, n_pers hS1 hn1, n_hous hS1 hn1]
  · obtain ⟨t, hM, hN, hx⟩ := hW T N rfl
    have hM1 := hM.tr 0 0
    have hF := mF hM
    have hX := wk_world hM hN hx 0 0
    have hSx := hX.1.1
    by_cases j0 : 0 ≤ n ∧ n ≤ 9
    · refine MR_no ?_
      simp [tF, sRF, wkF, isK, shF hS, m_rn, m_in, m_refd hS1, m_works hS1, q_rests, rd, g2, m_soot hM1, hF.1, m_dead hM1, m_pers hM1, m_hous hM1, m_good hSx, j0, m_soot hM1, r_rests hS1 j0]
    all_goals (refine MR_no ?_; simp [tF, sRF, wkF, isK, shF hS, m_rn, m_in, m_refd hS1, m_works hS1, q_rests, rd, g2, m_soot hM1, hF.1, m_dead hM1, m_pers hM1, m_hous hM1, j0] <;> intros <;> omega)
theorem mm_rest (h : MWd W s) (n : Int) : MR s (q_rest W n).1 (q_rest W n).2 (X13_rest s 76 n) := by
  obtain ⟨hS, hno, hW⟩ := h
  have hS1 : Sh (pI s 76 0 0) := hS
  unfold X13_rest
  rcases W with _ | ⟨T, N⟩
  · have hn := hno rfl
    have hn1 : gR (pI s 76 0 0) 76 3 < 0 := hn
    refine MR_no ?_
    simp [tF, sRF, wkF, isK, shF hS, m_rn, m_in, m_refd hS1, m_works hS1, q_rest, rd, g2, n_soot hS1 hn1, hn, n_dead hS1 hn1, n_pers hS1 hn1, n_hous hS1 hn1]
  · obtain ⟨t, hM, hN, hx⟩ := hW T N rfl
    have hM1 := hM.tr 0 0
    have hF := mF hM
    have hX := wk_world hM hN hx 0 0
    have hSx := hX.1.1
    by_cases j0 : 0 ≤ n ∧ n ≤ 9
    · refine MR_no ?_
      simp [tF, sRF, wkF, isK, shF hS, m_rn, m_in, m_refd hS1, m_works hS1, q_rest, rd, g2, m_soot hM1, hF.1, m_dead hM1, m_pers hM1, m_hous hM1, m_good hSx, j0, m_soot hM1, r_rest hS1 j0]
    all_goals (refine MR_no ?_; simp [tF, sRF, wkF, isK, shF hS, m_rn, m_in, m_refd hS1, m_works hS1, q_rest, rd, g2, m_soot hM1, hF.1, m_dead hM1, m_pers hM1, m_hous hM1, j0] <;> intros <;> omega)
theorem mm_chat (h : MWd W s) (n b w o : Int) : MR s (q_chat W n b w o).1 (q_chat W n b w o).2 (X13_chat s 76 n b w o) := by
  obtain ⟨hS, hno, hW⟩ := h
  have hS1 : Sh (pI s 76 0 0) := hS
  unfold X13_chat
  rcases W with _ | ⟨T, N⟩
  · have hn := hno rfl
    have hn1 : gR (pI s 76 0 0) 76 3 < 0 := hn
    refine MR_no ?_
    simp [tF, isK, shF hS, n_soot hS1 hn1, q_chat, X13_lost, X13_chat_b50, m_refd hS1]
  · obtain ⟨t, hM, hN, hx⟩ := hW T N rfl
    have hM1 := hM.tr 0 0
    refine MR_no ?_
    by_cases hn : 0 ≤ n ∧ n ≤ 9
    · by_cases ho : o = 0 <;> simp [tF, isK, shF hS, m_soot hM1, q_chat, X13_chat_b47, X13_chat_b50, hn, ho, m_chatted hn, m_good hS1]
    · simp [tF, isK, shF hS, m_soot hM1, q_chat, X13_lost, X13_chat_b50, m_refd hS1, hn]
theorem mm_ringAt (h : MWd W s) (p n i : Int) : MR s (q_ringAt W p n i).1 (q_ringAt W p n i).2 (X13_ringAt s 76 p n i) := by
  obtain ⟨hS, hno, hW⟩ := h
  have hS1 : Sh (pI s 76 0 0) := hS
  unfold X13_ringAt
  rcases W with _ | ⟨T, N⟩
  · have hn := hno rfl
    have hn1 : gR (pI s 76 0 0) 76 3 < 0 := hn
    refine MR_no ?_
    simp [tF, isK, shF hS, n_pers hS1 hn1, m_rn, m_refd hS1, q_ringAt]
  · obtain ⟨t, hM, hN, hx⟩ := hW T N rfl
    have hM1 := hM.tr 0 0
    have hX := wk_world hM hN hx 0 0
    have hSx := hX.1.1
    by_cases j0 : 0 ≤ p ∧ p < tP T <;> by_cases j1 : 0 ≤ n ∧ n ≤ 99
    · obtain ⟨p, rfl, j0'⟩ := nat_of j0
      refine MR_ok ?_
      have e1 := m_ringOf (q := p) hX j1
      have rb := ringT_b (T := T) (N := N) p n
      have t5 := hM.2.1.1.2.2.2.2.1
      by_cases i0 : i < 0
      · have i1 : ¬ (0 ≤ i ∧ i < ringT T N p n) := by omega
        simp [tF, wkF, isK, shF hS, m_pers hM1, m_rn, m_works hS1, q_ringAt, j0', j1, i0, i1, X13_ringAt_b47, m_refd hSx]
      · by_cases i1 : i < ringT T N p n
        · have i2 : 0 ≤ i ∧ i < ringT T N p n := by omega
          obtain ⟨k, rfl⟩ : ∃ k : Nat, i = (k : Int) := ⟨i.toNat, by omega⟩
          have e2 := r_ringAt (q := p) (i := k) hX j1 (by omega)
          simp [tF, wkF, isK, shF hS, m_pers hM1, m_rn, m_works hS1, q_ringAt, j0', j1, i1, e1, e2, i0]
        · have i2 : ¬ (0 ≤ i ∧ i < ringT T N p n) := by omega
          simp [tF, wkF, isK, shF hS, m_pers hM1, m_rn, m_works hS1, q_ringAt, j0', j1, i0, i1, e1, X13_ringAt_b47, m_refd hSx]
    all_goals (refine MR_no ?_; simp [tF, isK, shF hS, m_pers hM1, m_rn, m_refd hS1, q_ringAt, j0, j1])
end MREAD2
