/-! bring and bringFrom on the class, and as calls -/
section CBRING
variable {W : Wd} {s : St} {T : Tw} {N : Nw}
theorem brF_b (hW : WC T N s) (n fr : Int) : 0 ≤ brF T N n fr ∧ brF T N n fr ≤ 240 := by
  have t1 := hW.2.1.1.1
  have t2 := hW.2.1.1.2.1
  have t6 := hW.2.1.1.2.2.2.2.2.1
  have hp2 : ∀ d, d < tD T → heN T N n d < tP T ∧ tFo T d < tP T := fun d hd => ⟨(heN_e hW.2.1 hW.2.2.1 n d).2, (hW.2.1.2.1 d hd).2.2⟩
  have vb := vV_b (ho := nHo N) (he := heN T N n) (of := tFo T) (H := tH T) (P := tP T) (D := tD T) (by omega) (by omega) t6 hp2 (3 ^ tD T) (bgC T N n) fr (vl_lt (bgf_le T N n) _) (by omega)
  unfold brF
  omega
theorem cc_bring (h : CW W s) (h3 : ∀ x : Nat, x < 64 → gI s 51 x = (th3 x : Int)) (a n : Int) : CR s (q_bring W a n).1 (q_bring W a n).2 (X11_bring s 0 a n) := by
  obtain ⟨hS, ⟨h0, h2, h4⟩, hW⟩ := h
  have e1 := c_hous hS h0 a
  unfold X11_bring
  rcases W with _ | ⟨T, N⟩
  · refine CR_eq ?_
    simp [tF, isK, shF hS, e1, c_night, c_ref hS, q_bring, rd, nH, show ¬ (0 ≤ a ∧ a < 0) by omega]
  · have hW1 := (hW T N rfl).tr 2 0
    by_cases ha : 0 ≤ a ∧ a < tH T <;> by_cases hn : 0 ≤ n ∧ n ≤ 99
    · have hv : q_bring (some (T, N)) a n = (0, brF T N n a) := by simp [q_bring, rd, g2, ha, hn]
      rw [hv]
      obtain ⟨s1, f1, f2, f3, f4⟩ := c_plan hW1 (fun x hx => by rw [gI_pI, if_neg (by simp)]; exact h3 x hx) hn
      have fc : Fr cS (pI s 0 2 0) s1 := f2.mono (fun a ha => by unfold cS; omega)
      have hW2 := hW1.cs fc
      have hS2 := hW2.1
      have st := c_steps (fr := a) hW2 f3 (fun x hx => (f2.nu (by decide)).trans (by rw [gI_pI, if_neg (by simp)]; exact h3 x hx)) f4 ha
      refine CR_of (s1 := s1) ?_ fc
      simp [tF, isK, shF hS, shF hS2, e1, c_night, c_ref hS, nH, ha, hn, f1, st]
    all_goals (refine CR_eq ?_; simp [tF, isK, shF hS, e1, c_night, c_ref hS, q_bring, rd, g2, nH, ha, hn])
/-- with the class's first bound -/
theorem bf_same (hW : WC T N s) (n : Int) : ∀ k, fo (fun h a => if brF T N n (h : Int) < a.2 then ((h : Int), brF T N n (h : Int)) else a) ((0 : Int), (1000000 : Int)) (k + 1) = bfF T N n (k + 1)
  | 0 => by
    have b := brF_b hW n 0
    show (if brF T N n 0 < 1000000 then ((0 : Int), brF T N n 0) else (0, 1000000)) = (if brF T N n 0 < 9999 then ((0 : Int), brF T N n 0) else (0, 9999))
    rw [if_pos (by omega), if_pos (by omega)]
  | k + 1 => by
    have ih := bf_same hW n k
    have e1 : bfF T N n (k + 1 + 1) = if brF T N n ((k + 1 : Nat) : Int) < (bfF T N n (k + 1)).2 then (((k + 1 : Nat) : Int), brF T N n ((k + 1 : Nat) : Int)) else bfF T N n (k + 1) := rfl
    rw [e1, ← ih]
    rfl
theorem cc_bringFrom (h : CW W s) (h3 : ∀ x : Nat, x < 64 → gI s 51 x = (th3 x : Int)) (n : Int) : CR s (q_bringFrom W n).1 (q_bringFrom W n).2 (X11_bringFrom s 0 n) := by
  obtain ⟨hS, ⟨h0, h2, h4⟩, hW⟩ := h
  have e1 := c_town hS h0
  unfold X11_bringFrom
  rcases W with _ | ⟨T, N⟩
  · refine CR_eq ?_
    simp [tF, isK, shF hS, e1, c_night, c_ref hS, q_bringFrom, rd, nH]
  · have hW1 := (hW T N rfl).tr 2 0
    have t1 := hW1.2.1.1.1
    have t2 := hW1.2.1.1.2.1
    have ne : ¬ tH T = 0 := by omega
    by_cases hn : 0 ≤ n ∧ n ≤ 99
    · have hv : q_bringFrom (some (T, N)) n = (0, (bfF T N n (tH T)).1) := by simp [q_bringFrom, rd, g2, hn]
      rw [hv]
      obtain ⟨s1, f1, f2, f3, f4⟩ := c_plan hW1 (fun x hx => by rw [gI_pI, if_neg (by simp)]; exact h3 x hx) hn
      have fc : Fr cS (pI s 0 2 0) s1 := f2.mono (fun a ha => by unfold cS; omega)
      have hW2 := hW1.cs fc
      have hS2 := hW2.1
      have c0 := hW2.2.2.2.1.1.1
      have h32 : ∀ x : Nat, x < 64 → gI s1 51 x = (th3 x : Int) := fun x hx => (f2.nu (by decide)).trans (by rw [gI_pI, if_neg (by simp)]; exact h3 x hx)
      have loop : X11_bringFrom_b38 FU s1 0 0 1000000 0 = some ((bfF T N n (tH T)).1, s1) := by
        obtain ⟨m, hm⟩ : ∃ m, tH T = m + 1 := ⟨tH T - 1, by omega⟩
        rw [hm, ← bf_same hW2 n m, ← hm]
        unfold X11_bringFrom_b38
        refine iter_fo (fun (h : Nat) (a : Int × Int) => if brF T N n (h : Int) < a.2 then ((h : Int), brF T N n (h : Int)) else a) ((0 : Int), (1000000 : Int)) (fun k b => (s1, (0 : Int), b.1, b.2, (k : Int))) (tH T) FU (by unfold FU; omega) (fun k hk b rec _ => ?_) (fun rec => ?_)
        · have st := c_steps (fr := (k : Int)) hW2 f3 h32 f4 (by omega)
          have g1 : ¬ tH T ≤ k := by omega
          have hw := wk1 (k := k) (by omega)
          by_cases y : brF T N n (k : Int) < b.2
          · have y2 : ¬ b.2 ≤ brF T N n (k : Int) := by clear hw; omega
            simp [X11_bringFrom_b38_body, X11_bringFrom_b77, tF, isK, shF hS2, c0, g1, st, hw, y, y2]
          · have y2 : b.2 ≤ brF T N n (k : Int) := by clear hw; omega
            simp [X11_bringFrom_b38_body, X11_bringFrom_b77, tF, isK, shF hS2, c0, g1, st, hw, y, y2]
        · simp [X11_bringFrom_b38_body, tF, isK, shF hS2, c0]
      refine CR_of (s1 := s1) ?_ fc
      simp [tF, isK, shF hS, shF hS2, e1, c_night, c_ref hS, nH, ne, hn, f1, loop]
    all_goals (refine CR_eq ?_; simp [tF, isK, shF hS, e1, c_night, c_ref hS, q_bringFrom, rd, g2, nH, ne, hn])
theorem s_bring (a b : Int) (h : INV s) : STP s (fun s => X11_bring s 0 a b) (fun s => X13_bring s 76 a b) := by
  obtain ⟨W, L, I, tr, fl, fp, tp, hO, ht, hC, hM⟩ := h
  exact step_read hO ht hC hM (q_bring W a b) (rd_ne (fun T => g2_le _ _)) (cc_bring hC.1 hC.2.2.2.1.1 a b) (fun s1 h1 => mm_bring h1 a b)
theorem s_bringFrom (a : Int) (h : INV s) : STP s (fun s => X11_bringFrom s 0 a) (fun s => X13_bringFrom s 76 a) := by
  obtain ⟨W, L, I, tr, fl, fp, tp, hO, ht, hC, hM⟩ := h
  exact step_read hO ht hC hM (q_bringFrom W a) (rd_ne (fun T => g2_le _ _)) (cc_bringFrom hC.1 hC.2.2.2.1.1 a) (fun s1 h1 => mm_bringFrom h1 a)
end CBRING
