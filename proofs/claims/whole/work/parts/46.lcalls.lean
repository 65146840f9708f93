/-! most, heardBy, rights as calls -/
def q_most (W : Wd) (m n w : Int) : Int × Int := rd W (fun _ => g2 True ((0 ≤ m ∧ m ≤ 6) ∧ (0 ≤ n ∧ n ≤ 99))) (fun T N => frF (sumN (fun j => wayF (fun d => hunN T N d (tFo T d : Int) n) (tD T) (m.toNat + j)) (7 - m.toNat)) (100 ^ tD T) w)
def q_heardBy (W : Wd) (d x n : Int) : Int × Int := rd W (fun T => g2 (0 ≤ d ∧ d < tD T) ((0 ≤ x ∧ x ≤ 65536) ∧ (0 ≤ n ∧ n ≤ 99))) (fun T N => drT T N d.toNat n (sdF x ((n * (tD T : Int) + d).toNat + 1)))
def q_rights (W : Wd) (x n : Int) : Int × Int := rd W (fun _ => g2 True ((0 ≤ x ∧ x ≤ 65536) ∧ (0 ≤ n ∧ n ≤ 99))) (fun T N => ((rgO T N x n.toNat).1 : Int))
theorem rowCF : (∀ (s : St) (r : Nat → Nat) (d : Nat) (a : Int), kd (rowC s r d) a = kd s a) ∧ (∀ (s : St) (r : Nat → Nat) (d : Nat) (a : Int), ln (rowC s r d) a = ln s a) ∧ ∀ (s : St) (r : Nat → Nat) (d : Nat) (a : Int) (k : Nat), gR (rowC s r d) a k = gR s a k := ⟨fun _ _ _ _ => rfl, fun _ _ _ _ => rfl, fun _ _ _ _ _ => rfl⟩
section LCALLS
variable {W : Wd} {s : St}
theorem cc_most (h : CW W s) (m n w : Int) : CR s (q_most W m n w).1 (q_most W m n w).2 (X11_most s 0 m n w) := by
  obtain ⟨hS, ⟨h0, h2, h3⟩, hW⟩ := h
  have eT := c_town hS h0
  unfold X11_most
  rcases W with _ | ⟨T, N⟩
  · refine CR_eq ?_
    by_cases a1 : m < 0 <;> by_cases a2 : 6 < m <;> by_cases a3 : 0 ≤ n ∧ n ≤ 99 <;>
    simp [tF, isK, shF hS, eT, c_night, c_ref hS, q_most, rd, nH, X11_most_b22, X11_most_b27, a1, a2, a3]
  · have hW0 := hW T N rfl
    have hW1 := hW0.tr 2 0
    have hH0 : ¬ tH T = 0 := by have := hW0.2.1.1.1; omega
    by_cases j0 : 0 ≤ m ∧ m ≤ 6
    · by_cases j1 : 0 ≤ n ∧ n ≤ 99
      · obtain ⟨k, rfl, hk⟩ : ∃ k : Nat, m = (k : Int) ∧ k ≤ 6 := ⟨m.toNat, by omega, by omega⟩
        have t6 := hW0.2.1.1.2.2.2.2.2.1
        have hr : ∀ d, (fun d => hunN T N d (tFo T d : Int) n) d ≤ 100 := fun d => hunN_b hW0.2.1
        have e1 := ways_e hW1 j1
        have e2 := waysFrom_e (s := pI s 0 2 0) (m := k) hS hr t6 (by omega)
        have e3 := waysFrom_e (s := pI s 0 2 0) (m := 0) hS hr t6 (by omega)
        have e3t : sumN (fun j => wayF (fun d => hunN T N d (tFo T d : Int) n) (tD T) (0 + j)) (7 - 0) = 100 ^ tD T := by
          have := way_tot hr (tD T) t6
          simp only [Nat.zero_add]
          exact this
        rw [e3t] at e3
        have sb := sumN_b (f := fun j => wayF (fun d => hunN T N d (tFo T d : Int) n) (tD T) (k + j)) (c := 1000000000000) (fun k => way_12 hr t6 _) (7 - k)
        have p12 : 100 ^ tD T ≤ 1000000000000 := Nat.le_trans (Nat.pow_le_pow_right (by decide) t6) (by decide)
        have e4 := c_low (s := rowC (pI s 0 2 0) (fun d => hunN T N d (tFo T d : Int) n) (tD T)) (u := sumN (fun j => wayF (fun d => hunN T N d (tFo T d : Int) n) (tD T) (k + j)) (7 - k)) (l := 100 ^ tD T) (w := w) (by clear e1 e2 e3; omega) (Nat.lt_of_le_of_lt p12 (by decide)) (Nat.pow_pos (by decide))
        have a1 : ¬ (k : Int) < 0 := by omega
        have a2 : ¬ (6 : Int) < (k : Int) := by omega
        have hSr : Sh (rowC (pI s 0 2 0) (fun d => hunN T N d (tFo T d : Int) n) (tD T)) := hS
        have hv : q_most (some (T, N)) k n w = (0, frF (sumN (fun j => wayF (fun d => hunN T N d (tFo T d : Int) n) (tD T) (k + j)) (7 - k)) (100 ^ tD T) w) := by
          simp [q_most, rd, g2, show (k : Int) ≤ 6 by omega, j1]
        rw [hv]
        refine CR_of (s1 := rowC (pI s 0 2 0) (fun d => hunN T N d (tFo T d : Int) n) (tD T)) ?_ (Fr_sR (Or.inr (Or.inr (Or.inr rfl))))
        generalize (fun d => hunN T N d (tFo T d : Int) n) = r at e1 e2 e3 e4 hSr
        generalize 100 ^ tD T = D at e3 e4
        generalize sumN (fun j => wayF r (tD T) (k + j)) (7 - k) = U at e2 e4
        have e3' : X2_waysFrom (rowC (pI s 0 2 0) r (tD T)) 57 0 = some ((D : Int), rowC (pI s 0 2 0) r (tD T)) := e3
        simp [tF, rowCF, isK, shF hS, eT, c_night, c_ref hS, nH, X11_most_b22, X11_most_b27, a1, a2, j1, hH0, e1, e2, e3', e4]
      · refine CR_eq ?_
        have a1 : ¬ m < 0 := by omega
        have a2 : ¬ 6 < m := by omega
        simp [tF, isK, shF hS, eT, c_night, c_ref hS, q_most, rd, g2, nH, X11_most_b22, X11_most_b27, a1, a2, j1, hH0]
    · refine CR_eq ?_
      by_cases a1 : m < 0
      · simp [tF, isK, shF hS, eT, c_night, c_ref hS, q_most, rd, g2, nH, X11_most_b22, X11_most_b27, a1, j0, hH0]
      · have a2 : 6 < m := by omega
        simp [tF, isK, shF hS, eT, c_night, c_ref hS, q_most, rd, g2, nH, X11_most_b22, X11_most_b27, a1, a2, j0, hH0]
theorem mm_most (h : MWd W s) (m n w : Int) : MR s (q_most W m n w).1 (q_most W m n w).2 (X13_most s 76 m n w) := by
  obtain ⟨hS, hno, hW⟩ := h
  have hS1 : Sh (pI s 76 0 0) := hS
  unfold X13_most
  rcases W with _ | ⟨T, N⟩
  · have hn := hno rfl
    refine MR_no ?_
    simp [tF, isK, shF hS, m_refd hS1, hn, q_most, rd]
  · obtain ⟨t, hM, hN, hx⟩ := hW T N rfl
    have hF := mF hM
    have hX := wk_world hM hN hx 0 0
    by_cases j0 : 0 ≤ m ∧ m ≤ 6 <;> by_cases j1 : 0 ≤ n ∧ n ≤ 99
    · obtain ⟨k, rfl, hk⟩ : ∃ k : Nat, m = (k : Int) ∧ k ≤ 6 := ⟨m.toNat, by omega, by omega⟩
      obtain ⟨s9, e9, v9⟩ := r_most (w := w) hX j1 hk
      have hv : q_most (some (T, N)) k n w = (0, frF (sumN (fun j => wayF (fun d => hunN T N d (tFo T d : Int) n) (tD T) (k + j)) (7 - k)) (100 ^ tD T) w) := by
        simp [q_most, rd, g2, show (k : Int) ≤ 6 by omega, j1]
      rw [hv]
      refine MR_of (((Mv_pI (k := 0) (x := 0) (by decide)).trans (Mv_wk _)).trans v9) ?_
      simp [tF, wkF, isK, shF hS, hF.1, m_in, j1, show (k : Int) ≤ 6 by omega, m_works hS1, e9]
    all_goals (refine MR_no ?_; simp [tF, isK, shF hS, hF.1, m_in, j0, j1, X13_most_b39, m_refd hS1, q_most, rd, g2])
theorem idx_b {T : Tw} (hT : TOK T) {d n : Int} (hd : 0 ≤ d ∧ d < tD T) (hn : 0 ≤ n ∧ n ≤ 99) : 0 ≤ n * (tD T : Int) ∧ n * (tD T : Int) ≤ 594 := by
  have t6 := hT.1.2.2.2.2.2.1
  constructor
  · exact Int.mul_nonneg hn.1 (by omega)
  · have := Int.mul_le_mul (a := n) (b := (tD T : Int)) (c := 99) (d := 6) hn.2 (by omega) (by omega) (by omega); omega
theorem cc_heardBy (h : CW W s) (d x n : Int) : CR s (q_heardBy W d x n).1 (q_heardBy W d x n).2 (X11_heardBy s 0 d x n) := by
  obtain ⟨hS, ⟨h0, h2, h3⟩, hW⟩ := h
  have eD := c_dead hS h3
  unfold X11_heardBy
  rcases W with _ | ⟨T, N⟩
  · refine CR_eq ?_
    have a0 : ¬ (0 ≤ d ∧ d < 0) := by omega
    by_cases a1 : 0 ≤ x ∧ x ≤ 65536 <;> by_cases a3 : 0 ≤ n ∧ n ≤ 99 <;>
    simp [tF, isK, shF hS, eD, c_night, c_seed, c_ref hS, q_heardBy, rd, nD, X11_heardBy_b20, X11_heardBy_b25, a0, a1, a3]
  · have hW0 := hW T N rfl
    have hW1 := hW0.tr 2 0
    by_cases j0 : 0 ≤ d ∧ d < tD T <;> by_cases j1 : 0 ≤ x ∧ x ≤ 65536 <;> by_cases j2 : 0 ≤ n ∧ n ≤ 99
    · obtain ⟨k, rfl, hk⟩ := nat_of j0
      have ib := idx_b hW0.2.1 j0 j2
      have t6 := hW0.2.1.1.2.2.2.2.2.1
      obtain ⟨m, hm⟩ : ∃ m : Nat, n * (tD T : Int) + (k : Int) = (m : Int) := ⟨(n * (tD T : Int) + (k : Int)).toNat, by omega⟩
      have hm7 : m ≤ 700 := by omega
      have hv : q_heardBy (some (T, N)) k x n = (0, drT T N k n (sdF x (m + 1))) := by
        simp [q_heardBy, rd, g2, hk, j1, j2, hm]
      rw [hv]
      have hWx : WC T N (pI (pI s 0 2 0) 57 1 x) := hW1.cs (Fr_pI (Or.inr (Or.inr (Or.inl rfl))))
      have hgx : gI (pI (pI s 0 2 0) 57 1 x) 57 1 = x := by rw [gI_pI]; simp
      have e1 := skip_e (s := pI (pI s 0 2 0) 57 1 x) hS hm7 hgx j1
      rw [pI_pI] at e1
      have hWy : WC T N (pI (pI s 0 2 0) 57 1 (sdF x m)) := hW1.cs (Fr_pI (Or.inr (Or.inr (Or.inl rfl))))
      have hgy : gI (pI (pI s 0 2 0) 57 1 (sdF x m)) 57 1 = sdF x m := by rw [gI_pI]; simp
      have e2 := drawn_e (night := n) hWy hk j2 (by rw [hgy]; exact sdF_b j1 m)
      rw [hgy, pI_pI] at e2
      have c3 := hWx.2.2.2.1.1.2.2.2.1
      refine CR_of (s1 := pI (pI s 0 2 0) 57 1 (sdF x (m + 1))) ?_ (Fr_pI (Or.inr (Or.inr (Or.inl rfl))))
      have w1 : w32 (n * (tD T : Int)) = n * (tD T : Int) := w32e (by clear e1 e2; omega)
      have w2 : w32 (m : Int) = (m : Int) := wk0 (by clear e1 e2 w1; omega)
      simp [tF, isK, shF hS, eD, c_night, c_seed, c_ref hS, nD, X11_heardBy_b20, X11_heardBy_b25, hk, j1, j2, c3, w1, hm, w2, e1, e2]
      exact ⟨rfl, rfl⟩
    all_goals (refine CR_eq ?_; simp [tF, isK, shF hS, eD, c_night, c_seed, c_ref hS, q_heardBy, rd, g2, nD, X11_heardBy_b20, X11_heardBy_b25, j0, j1, j2])
theorem mm_heardBy (h : MWd W s) (d x n : Int) : MR s (q_heardBy W d x n).1 (q_heardBy W d x n).2 (X13_heardBy s 76 d x n) := by
  obtain ⟨hS, hno, hW⟩ := h
  have hS1 : Sh (pI s 76 0 0) := hS
  unfold X13_heardBy
  rcases W with _ | ⟨T, N⟩
  · have hn := hno rfl
    have hn1 : gR (pI s 76 0 0) 76 3 < 0 := hn
    refine MR_no ?_
    simp [tF, isK, shF hS, m_refd hS1, n_dead hS1 hn1, q_heardBy, rd]
  · obtain ⟨t, hM, hN, hx⟩ := hW T N rfl
    have hF := mF hM
    have hM1 := hM.tr 0 0
    have hX := wk_world hM hN hx 0 0
    by_cases j0 : 0 ≤ d ∧ d < tD T <;> by_cases j1 : 0 ≤ x ∧ x ≤ 65536 <;> by_cases j2 : 0 ≤ n ∧ n ≤ 99
    · obtain ⟨k, rfl, hk⟩ := nat_of j0
      have ib := idx_b hM.2.1 j0 j2
      have t6 := hM.2.1.1.2.2.2.2.2.1
      obtain ⟨m, hm⟩ : ∃ m : Nat, n * (tD T : Int) + (k : Int) = (m : Int) := ⟨(n * (tD T : Int) + (k : Int)).toNat, by clear hF; omega⟩
      have hm7 : m ≤ 700 := by clear hF; omega
      have hv : q_heardBy (some (T, N)) k x n = (0, drT T N k n (sdF x (m + 1))) := by
        simp [q_heardBy, rd, g2, hk, j1, j2, hm]
      rw [hv]
      have hXx := hX.tr 32 x
      have hgx : gI (pI (wk (pI s 76 0 0)) 76 32 x) 76 32 = x := by rw [gI_pI]; simp
      have e1 := r_heardBy (s := pI (wk (pI s 76 0 0)) 76 32 x) hXx hk j2 hm7 hgx j1
      rw [pI_pI] at e1
      have hFx := mF hXx.1
      have c3 : gI (pI (wk (pI s 76 0 0)) 76 32 x) t 3 = (tD T : Int) := hFx.2.2.2.2.2.2.2.2.2.1
      refine MR_of (((Mv_pI (k := 0) (x := 0) (by decide)).trans (Mv_wk _)).trans (Mv_pI (k := 32) (x := sdF x (m + 1)) (by decide))) ?_
      have w1 : w32 (n * (tD T : Int)) = n * (tD T : Int) := w32e (by clear e1 hF hFx; omega)
      have w2 : w32 (m : Int) = (m : Int) := wk0 (by clear e1 w1 hF hFx; omega)
      simp [tF, wkF, isK, shF hS, hF.1, m_dead hM1, m_in, hk, j1, j2, m_works hS1, c3, w1, hm, w2, e1]
    all_goals (refine MR_no ?_; simp [tF, isK, shF hS, m_dead hM1, m_in, j0, j1, j2, X13_heardBy_b40, m_refd hS1, q_heardBy, rd, g2])
theorem cc_rights (h : CW W s) (x n : Int) : CR s (q_rights W x n).1 (q_rights W x n).2 (X11_rights s 0 x n) := by
  obtain ⟨hS, ⟨h0, h2, h3⟩, hW⟩ := h
  have eT := c_town hS h0
  unfold X11_rights
  rcases W with _ | ⟨T, N⟩
  · refine CR_eq ?_
    by_cases a1 : 0 ≤ x ∧ x ≤ 65536 <;> by_cases a3 : 0 ≤ n ∧ n ≤ 99 <;>
    simp [tF, isK, shF hS, eT, c_night, c_seed, c_ref hS, q_rights, rd, nH, X11_rights_b19, X11_rights_b24, a1, a3]
  · have hW0 := hW T N rfl
    have hW1 := hW0.tr 2 0
    have hH0 : ¬ tH T = 0 := by have := hW0.2.1.1.1; omega
    by_cases j1 : 0 ≤ x ∧ x ≤ 65536 <;> by_cases j2 : 0 ≤ n ∧ n ≤ 99
    · obtain ⟨k, rfl, hk⟩ : ∃ k : Nat, n = (k : Int) ∧ k ≤ 99 := ⟨n.toNat, by omega, by omega⟩
      have hv : q_rights (some (T, N)) x k = (0, ((rgO T N x k).1 : Int)) := by
        simp [q_rights, rd, g2, show (k : Int) ≤ 99 by omega, j1]
      rw [hv]
      have hWx : WC T N (pI (pI s 0 2 0) 57 1 x) := hW1.cs (Fr_pI (Or.inr (Or.inr (Or.inl rfl))))
      have hgx : gI (pI (pI s 0 2 0) 57 1 x) 57 1 = x := by rw [gI_pI]; simp
      have e1 := l_rights (n := k) hWx hk hgx j1
      rw [pI_pI] at e1
      refine CR_of (s1 := pI (pI s 0 2 0) 57 1 (rgO T N x k).2) ?_ (Fr_pI (Or.inr (Or.inr (Or.inl rfl))))
      simp [tF, isK, shF hS, eT, c_night, c_seed, c_ref hS, nH, X11_rights_b19, X11_rights_b24, hH0, show (k : Int) ≤ 99 by omega, j1, e1]
    all_goals (refine CR_eq ?_; simp [tF, isK, shF hS, eT, c_night, c_seed, c_ref hS, q_rights, rd, g2, nH, X11_rights_b19, X11_rights_b24, hH0, j1, j2])
theorem mm_rights (h : MWd W s) (x n : Int) : MR s (q_rights W x n).1 (q_rights W x n).2 (X13_rights s 76 x n) := by
  obtain ⟨hS, hno, hW⟩ := h
  have hS1 : Sh (pI s 76 0 0) := hS
  unfold X13_rights
  rcases W with _ | ⟨T, N⟩
  · have hn := hno rfl
    refine MR_no ?_
    simp [tF, isK, shF hS, m_refd hS1, hn, q_rights, rd]
  · obtain ⟨t, hM, hN, hx⟩ := hW T N rfl
    have hF := mF hM
    have hX := wk_world hM hN hx 0 0
    by_cases j1 : 0 ≤ x ∧ x ≤ 65536 <;> by_cases j2 : 0 ≤ n ∧ n ≤ 99
    · obtain ⟨k, rfl, hk⟩ : ∃ k : Nat, n = (k : Int) ∧ k ≤ 99 := ⟨n.toNat, by clear hF; omega, by clear hF; omega⟩
      have hv : q_rights (some (T, N)) x k = (0, ((rgO T N x k).1 : Int)) := by
        simp [q_rights, rd, g2, show (k : Int) ≤ 99 by omega, j1]
      rw [hv]
      have hXx := hX.tr 32 x
      have hgx : gI (pI (wk (pI s 76 0 0)) 76 32 x) 76 32 = x := by rw [gI_pI]; simp
      have e1 := r_rights (s := pI (wk (pI s 76 0 0)) 76 32 x) (n := k) hXx hk hgx j1
      rw [pI_pI] at e1
      refine MR_of (((Mv_pI (k := 0) (x := 0) (by decide)).trans (Mv_wk _)).trans (Mv_pI (k := 32) (x := (rgO T N x k).2) (by decide))) ?_
      simp [tF, wkF, isK, shF hS, hF.1, m_in, show (k : Int) ≤ 99 by omega, j1, m_works hS1, e1]
    all_goals (refine MR_no ?_; simp [tF, isK, shF hS, hF.1, m_in, j1, j2, X13_rights_b39, m_refd hS1, q_rights, rd, g2])
end LCALLS
