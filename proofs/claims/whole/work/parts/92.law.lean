/-! the law: its loop -/
theorem go_all
    (H_town : ∀ (s : St) (a : Int), INV s → 89 ≤ s.1.1 ∧ s.1.1 < 900000 → STP s (fun s => X11_town s 0 a) (fun s => X13_town s 76 a))
    (H_seat : ∀ (s : St) (a : Int), INV s → STP s (fun s => X11_seat s 0 a) (fun s => X13_seat s 76 a))
    (H_seatAt : ∀ (s : St) (a b : Int), INV s → STP s (fun s => X11_seatAt s 0 a b) (fun s => X13_seatAt s 76 a b))
    (H_bring : ∀ (s : St) (a b : Int), INV s → STP s (fun s => X11_bring s 0 a b) (fun s => X13_bring s 76 a b))
    (H_bringFrom : ∀ (s : St) (a : Int), INV s → STP s (fun s => X11_bringFrom s 0 a) (fun s => X13_bringFrom s 76 a))
    {sc : Nat × (Nat → Int)} {x : Int} {s : St} (hx : IX sc x) (h : INV s) (hs : 89 ≤ s.1.1 ∧ s.1.1 < 900000) : ∀ i : Nat, GO s x (fun rk => ([L_law_b300 sc rk s 0 76 88 x, L_law_b373 sc rk s 0 76 88 x, L_law_b398 sc rk s 0 76 88 x, L_law_b411 sc rk s 0 76 88 x, L_law_b424 sc rk s 0 76 88 x, L_law_b461 sc rk s 0 76 88 x, L_law_b498 sc rk s 0 76 88 x, L_law_b523 sc rk s 0 76 88 x, L_law_b560 sc rk s 0 76 88 x, L_law_b609 sc rk s 0 76 88 x, L_law_b646 sc rk s 0 76 88 x, L_law_b683 sc rk s 0 76 88 x, L_law_b708 sc rk s 0 76 88 x, L_law_b733 sc rk s 0 76 88 x, L_law_b758 sc rk s 0 76 88 x, L_law_b795 sc rk s 0 76 88 x, L_law_b832 sc rk s 0 76 88 x, L_law_b857 sc rk s 0 76 88 x, L_law_b870 sc rk s 0 76 88 x, L_law_b883 sc rk s 0 76 88 x, L_law_b920 sc rk s 0 76 88 x, L_law_b969 sc rk s 0 76 88 x, L_law_b1018 sc rk s 0 76 88 x, L_law_b1055 sc rk s 0 76 88 x, L_law_b1080 sc rk s 0 76 88 x, L_law_b1117 sc rk s 0 76 88 x, L_law_b1142 sc rk s 0 76 88 x, L_law_b1179 sc rk s 0 76 88 x, L_law_b1228 sc rk s 0 76 88 x, L_law_b1253 sc rk s 0 76 88 x, L_law_b1290 sc rk s 0 76 88 x, L_law_b1327 sc rk s 0 76 88 x, L_law_b1352 sc rk s 0 76 88 x, L_law_b1389 sc rk s 0 76 88 x, L_law_b1426 sc rk s 0 76 88 x, L_law_b1475 sc rk s 0 76 88 x, L_law_b1488 sc rk s 0 76 88 x, L_law_b1513 sc rk s 0 76 88 x, L_law_b1526 sc rk s 0 76 88 x, L_law_b1539 sc rk s 0 76 88 x, L_law_b1552 sc rk s 0 76 88 x, L_law_b1565 sc rk s 0 76 88 x, L_law_b1578 sc rk s 0 76 88 x, L_law_b1687 sc rk s 0 76 88 x, L_law_b1712 sc rk s 0 76 88 x, L_law_b1737 sc rk s 0 76 88 x, L_law_b1803 sc rk s 0 76 88 x, L_law_b1869 sc rk s 0 76 88 x, L_law_b1935 sc rk s 0 76 88 x, L_law_b1984 sc rk s 0 76 88 x, L_law_b2021 sc rk s 0 76 88 x, L_law_b2034 sc rk s 0 76 88 x, L_law_b2071 sc rk s 0 76 88 x, L_law_b2108 sc rk s 0 76 88 x, L_law_b2133 sc rk s 0 76 88 x, L_law_b2170 sc rk s 0 76 88 x, L_law_b2183 sc rk s 0 76 88 x, L_law_b2196 sc rk s 0 76 88 x, L_law_b2221 sc rk s 0 76 88 x, L_law_b2277 sc rk s 0 76 88 x, L_law_b2302 sc rk s 0 76 88 x] : List Rs).getD i (L_law_b2315 sc rk s 0 76 88 x))
  | 0 => g_feed hx h
  | 1 => g_town H_town hx h hs
  | 2 => g_fault hx h
  | 3 => g_where hx h
  | 4 => g_person hx h
  | 5 => g_dead hx h
  | 6 => g_house hx h
  | 7 => g_comesOut hx h
  | 8 => g_outIf hx h
  | 9 => g_hears hx h
  | 10 => g_off hx h
  | 11 => g_right hx h
  | 12 => g_medium hx h
  | 13 => g_silent hx h
  | 14 => g_rightFrom hx h
  | 15 => g_nightsOf hx h
  | 16 => g_round hx h
  | 17 => g_bestNight hx h
  | 18 => g_perfect hx h
  | 19 => g_together hx h
  | 20 => g_aimFor hx h
  | 21 => g_aims hx h
  | 22 => g_mirrorFor hx h
  | 23 => g_mirrorBest hx h
  | 24 => g_slipFor hx h
  | 25 => g_seat H_seat hx h
  | 26 => g_seatAt H_seatAt hx h
  | 27 => g_likes hx h
  | 28 => g_restless hx h
  | 29 => g_moveFor hx h
  | 30 => g_bring H_bring hx h
  | 31 => g_bringFrom H_bringFrom hx h
  | 32 => g_steps hx h
  | 33 => g_ring hx h
  | 34 => g_ringAt hx h
  | 35 => g_fits hx h
  | 36 => g_fitAt hx h
  | 37 => g_could hx h
  | 38 => g_surely hx h
  | 39 => g_ask hx h
  | 40 => g_askLeaves hx h
  | 41 => g_judge hx h
  | 42 => g_chat hx h
  | 43 => g_rests hx h
  | 44 => g_rest hx h
  | 45 => g_odds hx h
  | 46 => g_most hx h
  | 47 => g_mean hx h
  | 48 => g_heardBy hx h
  | 49 => g_rights hx h
  | 50 => g_night hx h
  | 51 => g_move hx h
  | 52 => g_hang hx h
  | 53 => g_take hx h
  | 54 => g_teach hx h
  | 55 => g_undo hx h
  | 56 => g_image hx h
  | 57 => g_back hx h
  | 58 => g_led hx h hs.2
  | 59 => g_size hx h
  | 60 => g_trouble hx h
  | _ + 61 => g_none hx h
theorem law_pure
    (H_town : ∀ (s : St) (a : Int), INV s → 89 ≤ s.1.1 ∧ s.1.1 < 900000 → STP s (fun s => X11_town s 0 a) (fun s => X13_town s 76 a))
    (H_seat : ∀ (s : St) (a : Int), INV s → STP s (fun s => X11_seat s 0 a) (fun s => X13_seat s 76 a))
    (H_seatAt : ∀ (s : St) (a b : Int), INV s → STP s (fun s => X11_seatAt s 0 a b) (fun s => X13_seatAt s 76 a b))
    (H_bring : ∀ (s : St) (a b : Int), INV s → STP s (fun s => X11_bring s 0 a b) (fun s => X13_bring s 76 a b))
    (H_bringFrom : ∀ (s : St) (a : Int), INV s → STP s (fun s => X11_bringFrom s 0 a) (fun s => X13_bringFrom s 76 a)) : LawPure := by
  intro sc hsc hok
  rw [start_e]
  unfold L_law_b23
  refine iter_inv (Q := fun F => ∃ s' : St, F = some (1, s') ∧ s'.1.1 ≤ 601024 ∧ s'.1.2 ≤ 7293034) (fun k a => a.2 = ((0 : Int), (76 : Int), (88 : Int), 6 * (k : Int)) ∧ INV a.1 ∧ (89 ≤ a.1.1.1 ∧ a.1.1.1 ≤ 89 + 20 * k) ∧ a.1.1.2 ≤ 100000 + 400 * k) (sc.1 / 6) FU _ (by unfold FU; omega) ⟨rfl, stS_inv, ⟨Nat.le_of_eq stS_n.1.symm, Nat.le_of_eq stS_n.1⟩, stS_n.2⟩ (fun k hk a ha => ?_) (fun a ha rec => ?_)
  · obtain ⟨s, a2⟩ := a
    obtain ⟨a1, a2, a3, a4⟩ := ha
    simp only at a1
    subst a1
    simp only at a2 a3 a4
    have hx : IX sc (6 * (k : Int)) := ⟨by omega, by omega, by omega⟩
    have g1 : ¬ (sc.1 : Int) - 6 < 6 * (k : Int) := by omega
    have g2 : 0 ≤ 6 * (k : Int) ∧ 6 * (k : Int) < (sc.1 : Int) := by omega
    have all := go_all H_town H_seat H_seatAt H_bring H_bringFrom hx a2 (by omega)
    obtain ⟨s2, e1, e2, e3, e4, e5⟩ := all (and32 (sc.2 (6 * (k : Int)).toNat) 63 - 0).toNat
    obtain ⟨s3, f1, f2, f3, f4, f5⟩ := g_none hx a2
    have w1 : w32 ((sc.1 : Int) - 6) = (sc.1 : Int) - 6 := w32e (by omega)
    by_cases v : 0 ≤ and32 (sc.2 (6 * (k : Int)).toNat) 63
    · refine ⟨(s2, (0 : Int), (76 : Int), (88 : Int), 6 * ((k + 1 : Nat) : Int)), ⟨rfl, e2, ⟨Nat.le_trans a3.1 e3, Nat.le_trans e4 (by clear w1; omega)⟩, Nat.le_trans e5 (by clear w1; omega)⟩, fun rec => ?_⟩
      have e := e1 (fun (s : St) (x1 x2 x3 x4 : Int) => rec (s, x1, x2, x3, x4))
      simp only [L_law_b23_body]
      rw [w1, if_neg g1, grd_t g2]
      unfold swt
      rw [if_pos v]
      refine e.trans ?_
      rw [show 6 * (k : Int) + 6 = 6 * ((k + 1 : Nat) : Int) by clear w1; omega]
    · refine ⟨(s3, (0 : Int), (76 : Int), (88 : Int), 6 * ((k + 1 : Nat) : Int)), ⟨rfl, f2, ⟨Nat.le_trans a3.1 f3, Nat.le_trans f4 (by clear w1; omega)⟩, Nat.le_trans f5 (by clear w1; omega)⟩, fun rec => ?_⟩
      have e := f1 (fun (s : St) (x1 x2 x3 x4 : Int) => rec (s, x1, x2, x3, x4))
      simp only [L_law_b23_body]
      rw [w1, if_neg g1, grd_t g2]
      unfold swt
      rw [if_neg v]
      refine e.trans ?_
      rw [show 6 * (k : Int) + 6 = 6 * ((k + 1 : Nat) : Int) by clear w1; omega]
  · obtain ⟨s, a2⟩ := a
    obtain ⟨a1, a2, a3, a4⟩ := ha
    simp only at a1
    subst a1
    simp only at a2 a3 a4
    have g1 : (sc.1 : Int) - 6 < 6 * ((sc.1 / 6 : Nat) : Int) := by omega
    refine ⟨s, ?_, by omega, by omega⟩
    have w1 : w32 ((sc.1 : Int) - 6) = (sc.1 : Int) - 6 := w32e (by omega)
    simp only [L_law_b23_body]
    rw [w1, if_pos g1]
    exact grd_t (by decide)
