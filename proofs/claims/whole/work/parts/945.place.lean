/-! the first best place, greedily; seat and seatAt as calls -/
section PLACE
variable {s : St} {T : Tw} {N : Nw} {night : Int}
/-- the least of those that C likes -/
theorem lst_spec {C : Nat → Prop} [∀ p, Decidable (C p)] {ho : Nat → Int} {a0 : Nat} {b : Int} : ∀ P, (∀ q, q < P → ho q < b) → let r := fo (fun q (a : Nat × Int) => if C q ∧ ho q < a.2 then (q, ho q) else a) (a0, b) P
    (∀ q, q < P → C q → r.2 ≤ ho q) ∧ (((∀ q, q < P → ¬ C q) ∧ r = (a0, b)) ∨ (r.1 < P ∧ C r.1 ∧ r.2 = ho r.1))
  | 0, _ => ⟨fun q h => by omega, Or.inl ⟨fun q h => by omega, rfl⟩⟩
  | P + 1, hb => by
    have ih := lst_spec (C := C) (ho := ho) (a0 := a0) (b := b) P (fun q hq => hb q (by omega))
    intro r
    have er : r = if C P ∧ ho P < (fo (fun q (a : Nat × Int) => if C q ∧ ho q < a.2 then (q, ho q) else a) (a0, b) P).2 then (P, ho P) else fo (fun q (a : Nat × Int) => if C q ∧ ho q < a.2 then (q, ho q) else a) (a0, b) P := rfl
    rw [er]
    simp only at ih
    generalize fo (fun q (a : Nat × Int) => if C q ∧ ho q < a.2 then (q, ho q) else a) (a0, b) P = r0 at ih
    obtain ⟨h1, h2⟩ := ih
    by_cases y : C P ∧ ho P < r0.2
    · rw [if_pos y]
      refine ⟨fun q hq hc => ?_, Or.inr ⟨Nat.lt_succ_self _, y.1, rfl⟩⟩
      by_cases z : q = P
      · rw [z]; exact Int.le_refl _
      · have := h1 q (by omega) hc
        show ho P ≤ ho q
        omega
    · rw [if_neg y]
      refine ⟨fun q hq hc => ?_, ?_⟩
      · by_cases z : q = P
        · subst z
          have : ¬ ho q < r0.2 := fun w => y ⟨hc, w⟩
          omega
        · exact h1 q (by omega) hc
      · rcases h2 with ⟨h2, h3⟩ | ⟨h2, h3, h4⟩
        · refine Or.inl ⟨fun q hq hc => ?_, h3⟩
          by_cases z : q = P
          · subst z
            apply y
            refine ⟨hc, ?_⟩
            rw [h3]
            exact hb q (Nat.lt_succ_self _)
          · exact h2 q (by omega) hc
        · exact Or.inr ⟨by omega, h3, h4⟩
def bstC (T : Tw) (N : Nw) (night : Int) (x q : Nat) : Prop := x.testBit q = false ∧ wrT T N night (pcn x) q + beT T N night (x ||| 2 ^ q) = beT T N night x
theorem bst_dec (T : Tw) (N : Nw) (night : Int) (x q : Nat) : (x.testBit q = false ∧ wrT T N night (pcn x) q + beT T N night (x ||| 2 ^ q) = beT T N night x) ↔ bstC T N night x q := Iff.rfl
/-- the place found is that of the first best index -/
theorem fb_eq (hT : TOK T) (hN : NOK T N) {x : Nat} (hx : x < 2 ^ tP T) (hp : pcn x < tP T) : (fo (fun q (a : Nat × Int) => if (x.testBit q = false ∧ wrT T N night (pcn x) q + beT T N night (x ||| 2 ^ q) = beT T N night x) ∧ nHo N q < a.2 then (q, nHo N q) else a) (pcn x, 40) (tP T)).1 = ins (nHo N) (tP T) (gk (wSo T N night) (tP T) (tP T - pcn x - 1) (imS T N x)) := by
  have t2 := hT.1.2.1
  have t5 := hT.1.2.2.2.2.1
  obtain ⟨io1, io2, io3⟩ := ins_ok hN.2.2.1 (tP T) (Nat.le_refl _)
  obtain ⟨m, hm⟩ : ∃ m, tP T - pcn x = m + 1 := ⟨tP T - pcn x - 1, by omega⟩
  have em : tP T - pcn x - 1 = m := by omega
  have ip := im_pc hT hN (pcn x) x hx rfl
  have val : ∀ k, k < tP T → ((x.testBit (ins (nHo N) (tP T) k) = false ∧ wrT T N night (pcn x) (ins (nHo N) (tP T) k) + beT T N night (x ||| 2 ^ ins (nHo N) (tP T) k) = beT T N night x) ↔ ((imS T N x).testBit k = false ∧ wSo T N night (tP T - (m + 1)) k + bU (wSo T N night) (tP T) m (imS T N x ||| 2 ^ k) = bU (wSo T N night) (tP T) (m + 1) (imS T N x))) := by
    intro k hk
    rw [im_tb x k hk]
    constructor
    · rintro ⟨hu, he⟩
      refine ⟨hu, ?_⟩
      have o := or_ok (tP T) (by omega) x hx _ (io1 k hk) hu
      unfold beT at he
      rw [o.1, im_or hN hk, show tP T - (pcn x + 1) = m by omega, hm] at he
      rw [show tP T - (m + 1) = pcn x by omega]
      exact he
    · rintro ⟨hu, he⟩
      refine ⟨hu, ?_⟩
      have o := or_ok (tP T) (by omega) x hx _ (io1 k hk) hu
      unfold beT
      rw [o.1, im_or hN hk, show tP T - (pcn x + 1) = m by omega, hm]
      rw [show tP T - (m + 1) = pcn x by omega] at he
      exact he
  obtain ⟨⟨g1, g2, g3⟩, g4⟩ := gk_ok (w := wSo T N night) (P := tP T) (m := m) (by omega) (im_lt (T := T) (N := N) x) (by omega)
  rw [em]
  have sp := lst_spec (C := fun q => x.testBit q = false ∧ wrT T N night (pcn x) q + beT T N night (x ||| 2 ^ q) = beT T N night x) (ho := nHo N) (a0 := pcn x) (b := 40) (tP T) (fun q hq => by have := hN.2.1 q hq; omega)
  simp only at sp
  generalize fo (fun q (a : Nat × Int) => if (x.testBit q = false ∧ wrT T N night (pcn x) q + beT T N night (x ||| 2 ^ q) = beT T N night x) ∧ nHo N q < a.2 then (q, nHo N q) else a) (pcn x, 40) (tP T) = r at sp ⊢
  obtain ⟨s1, s2⟩ := sp
  have cg := (val _ g1).2 ⟨g2, g3⟩
  have l := s1 _ (io1 _ g1) cg
  rcases s2 with ⟨s2, -⟩ | ⟨a1, a2, a3⟩
  · exact absurd cg (s2 _ (io1 _ g1))
  · obtain ⟨k, k1, k2⟩ := io2 r.1 a1
    rw [← k2] at a2 a3 ⊢
    have v := (val k k1).1 a2
    rcases Nat.lt_trichotomy k (gk (wSo T N night) (tP T) m (imS T N x)) with z | z | z
    · exact absurd v.2 (g4 k z v.1)
    · rw [z]
    · have := io3 _ _ z k1
      omega
theorem c_first {x : Nat} (hW : WC T N s) (hw : WTH s T N night) (hB : BRo s T N night 0) (hx : x < 2 ^ tP T) (hp : pcn x < tP T) : X5_firstBestPlace s 47 (pcn x) x 32 = some ((ins (nHo N) (tP T) (gk (wSo T N night) (tP T) (tP T - pcn x - 1) (imS T N x)) : Int), s) := by
  have hS := hW.1
  have hT := hW.2.1
  have hN := hW.2.2.1
  have t5 := hT.1.2.2.2.2.1
  have p64 := pow6 t5
  have x64 : x < 64 := by omega
  have c2 := hw.1
  rw [← fb_eq (night := night) hT hN hx hp]
  unfold X5_firstBestPlace X5_firstBestPlace_b10
  refine iter_fo (fun q (a : Nat × Int) => if (x.testBit q = false ∧ wrT T N night (pcn x) q + beT T N night (x ||| 2 ^ q) = beT T N night x) ∧ nHo N q < a.2 then (q, nHo N q) else a) (pcn x, 40) (fun k (b : Nat × Int) => (s, (47 : Int), (pcn x : Int), (x : Int), (32 : Int), (b.1 : Int), b.2, (k : Int))) (tP T) FU (by unfold FU; omega) (fun k hk b rec hb => ?_) (fun rec => ?_)
  · have g1 : ¬ (tP T : Int) ≤ (k : Int) := by omega
    have g6 : (k : Int) < 6 := by omega
    have ab := and_bit64 x x64 k (by omega)
    have ob := or_bit64 (a := x) (k := k) x64 (by omega)
    have wo := worthOf_e hS hT hw (p := pcn x) (q := k) hp hk
    have wb := wrT_b hT N night (pcn x) k
    have hok := hW.2.2.2.2.1.1 k hk
    have gx : (x : Int) < 64 := by omega
    have ex := hB x (Nat.zero_le _) hx
    have hwk := wk1 (k := k) (by omega)
    by_cases y : x.testBit k = true
    · have y2 : ¬ and32 (x : Int) (shl32 1 (k : Int)) = 0 := fun z => by rw [ab.1 z] at y; cases y
      have ny : ¬ ((x.testBit k = false ∧ wrT T N night (pcn x) k + beT T N night (x ||| 2 ^ k) = beT T N night x) ∧ nHo N k < b.2) := fun z => by rw [z.1.1] at y; cases y
      simp only [X5_firstBestPlace_b10_body, X5_firstBestPlace_b60, X5_firstBestPlace_b61, X5_firstBestPlace_b93]
      rw [c2, if_neg g1, if_pos y2, hwk, if_neg ny]
      simp [tF, isK, shF hS]
    · have y1 : x.testBit k = false := by simpa using y
      have y2 := ab.2 y1
      have ok := or_ok (tP T) (by clear hwk; omega) x hx k hk y1
      have eb := hB (x ||| 2 ^ k) (Nat.zero_le _) ok.2
      have bl := beT_le hT N night (x ||| 2 ^ k)
      have gi : ((x ||| 2 ^ k : Nat) : Int) < 64 := by clear hwk; omega
      have w1 : w32 ((wrT T N night (pcn x) k : Int) + (beT T N night (x ||| 2 ^ k) : Int)) = ((wrT T N night (pcn x) k + beT T N night (x ||| 2 ^ k) : Nat) : Int) := (w32e (by clear hwk; omega)).trans (by clear hwk; omega)
      have iq : ((wrT T N night (pcn x) k + beT T N night (x ||| 2 ^ k) : Nat) : Int) = (beT T N night x : Int) ↔ wrT T N night (pcn x) k + beT T N night (x ||| 2 ^ k) = beT T N night x := by clear hwk w1; omega
      simp only [X5_firstBestPlace_b10_body, X5_firstBestPlace_b60, X5_firstBestPlace_b61, X5_firstBestPlace_b93]
      rw [c2, if_neg g1, if_neg (fun z => z y2), wo, bnd_some, hwk, ob]
      generalize (x ||| 2 ^ k) = z at *
      simp only [isK, shF hS, grd_if, Int.toNat_natCast, eb, ex, w1, iq]
      by_cases h1 : wrT T N night (pcn x) k + beT T N night z = beT T N night x
      · by_cases h2 : nHo N k < b.2
        · have h3 : ¬ b.2 ≤ nHo N k := by clear hwk w1; omega
          rw [if_pos (show (x.testBit k = false ∧ wrT T N night (pcn x) k + beT T N night z = beT T N night x) ∧ nHo N k < b.2 from ⟨⟨y1, h1⟩, h2⟩)]
          simp [gi, gx, g6, h1, hok, h3, letv_e]
        · have h3 : b.2 ≤ nHo N k := by clear hwk w1; omega
          rw [if_neg (show ¬ ((x.testBit k = false ∧ wrT T N night (pcn x) k + beT T N night z = beT T N night x) ∧ nHo N k < b.2) from fun w => h2 w.2)]
          simp [gi, gx, g6, h1, hok, h3]
      · rw [if_neg (show ¬ ((x.testBit k = false ∧ wrT T N night (pcn x) k + beT T N night z = beT T N night x) ∧ nHo N k < b.2) from fun w => h1 w.1.2)]
        simp [gi, gx, h1]
  · have g1 : (tP T : Int) ≤ (tP T : Int) := Int.le_refl _
    simp only [X5_firstBestPlace_b10_body]
    rw [c2, if_pos g1]
    simp [tF, isK, shF hS]
theorem gp_s (w : Nat → Nat → Nat) (P m U i : Nat) : gp w P (m + 1) U (i + 1) = gp w P m (U ||| 2 ^ gk w P m U) i := rfl
theorem gp_0 (w : Nat → Nat → Nat) (P m U : Nat) : gp w P (m + 1) U 0 = gk w P m U := rfl
theorem c_place {p : Nat} (hW : WC T N s) (hw : WTH s T N night) (hp : p < tP T) : ∃ s1, X5_placeOf s 47 p 32 = some ((ins (nHo N) (tP T) (gp (wSo T N night) (tP T) (tP T) 0 p) : Int), s1) ∧ Fr (fun a => a = 49) s s1 := by
  have hS := hW.1
  have hT := hW.2.1
  have hN := hW.2.2.1
  have t5 := hT.1.2.2.2.2.1
  have p64 := pow6 t5
  obtain ⟨io1, io2, io3⟩ := ins_ok hN.2.2.1 (tP T) (Nat.le_refl _)
  obtain ⟨s1, e1, f1, hB⟩ := c_most hS hT hN hw
  have hW1 := hW.cs (f1.mono (fun a ha => by unfold cS; omega))
  have hS1 := hW1.1
  have hw1 := hw.f49 f1
  have loop : X5_placeOf_b13 FU s1 47 p 32 0 p 0 = some ((ins (nHo N) (tP T) (gp (wSo T N night) (tP T) (tP T) 0 p) : Int), s1) := by
    unfold X5_placeOf_b13
    refine iter_inv (Q := fun G => G = some ((ins (nHo N) (tP T) (gp (wSo T N night) (tP T) (tP T) 0 p) : Int), s1))
      (fun (k : Nat) (a : St × Int × Int × Int × Int × Int × Int) => ∃ (x : Nat) (pl : Int), a = (s1, 47, (p : Int), 32, (x : Int), pl, (k : Int)) ∧ x < 2 ^ tP T ∧ pcn x = k ∧ (∀ i, i + k < tP T → gp (wSo T N night) (tP T) (tP T - k) (imS T N x) i = gp (wSo T N night) (tP T) (tP T) 0 (k + i)) ∧ (0 < k → pl = (ins (nHo N) (tP T) (gp (wSo T N night) (tP T) (tP T) 0 (k - 1)) : Int)))
      (p + 1) FU (s1, 47, (p : Int), 32, 0, (p : Int), 0) (by unfold FU; omega) ⟨0, (p : Int), rfl, Nat.two_pow_pos _, rfl, fun i hi => by rw [im_0, Nat.zero_add]; rfl, fun z => absurd z (Nat.lt_irrefl _)⟩ (fun k hk a ha => ?_) (fun a ha rec => ?_)
    · obtain ⟨x, pl, rfl, h1, h2, h3, h4⟩ := ha
      have cf := c_first hW1 hw1 hB h1 (by omega)
      have g0 : ¬ (p : Int) < (k : Int) := by omega
      have ip := im_pc hT hN (pcn x) x h1 rfl
      obtain ⟨m, hm⟩ : ∃ m, tP T - k = m + 1 := ⟨tP T - k - 1, by omega⟩
      obtain ⟨⟨a1, a2, a3⟩, -⟩ := gk_ok (w := wSo T N night) (P := tP T) (m := m) (by omega) (im_lt (T := T) (N := N) x) (by omega)
      have a2' : x.testBit (ins (nHo N) (tP T) (gk (wSo T N night) (tP T) m (imS T N x))) = false := by rw [← im_tb x _ a1]; exact a2
      have ok := or_ok (tP T) (by omega) x h1 _ (io1 _ a1) a2'
      have e0 := h3 0 (by omega)
      rw [hm, gp_0, Nat.add_zero] at e0
      have i6 := io1 _ a1
      have x64 : x < 64 := by omega
      have ob := or_bit64 (a := x) (k := ins (nHo N) (tP T) (gk (wSo T N night) (tP T) m (imS T N x))) x64 (by omega)
      have hwk := wk1 (k := k) (by omega)
      rw [h2, show tP T - k - 1 = m by clear hwk; omega] at cf
      refine ⟨(s1, 47, (p : Int), 32, ((x ||| 2 ^ ins (nHo N) (tP T) (gk (wSo T N night) (tP T) m (imS T N x)) : Nat) : Int), (ins (nHo N) (tP T) (gk (wSo T N night) (tP T) m (imS T N x)) : Int), ((k + 1 : Nat) : Int)), ⟨_, _, rfl, ok.2, by rw [ok.1, h2], fun i hi => ?_, fun _ => ?_⟩, fun rec => ?_⟩
      · have := h3 (i + 1) (by clear hwk; omega)
        rw [hm, gp_s] at this
        rw [im_or hN a1, show tP T - (k + 1) = m by clear hwk; omega, this, show k + (i + 1) = k + 1 + i by clear hwk; omega]
      · rw [Nat.add_sub_cancel, ← e0]
      · simp only [X5_placeOf_b13_body]
        rw [if_neg g0, cf, bnd_some, ob, hwk]
        simp [tF, isK, shF hS1]
    · obtain ⟨x, pl, rfl, h1, h2, h3, h4⟩ := ha
      have g0 : (p : Int) < ((p + 1 : Nat) : Int) := by omega
      simp only [X5_placeOf_b13_body]
      rw [if_pos g0, h4 (Nat.succ_pos p)]
      rfl
  refine ⟨s1, ?_, f1⟩
  unfold X5_placeOf
  simp [tF, isK, shF hS, e1, loop]
end PLACE
def q_seat (W : Wd) (n : Int) : Int × Int := rd W (fun _ => g2 True (0 ≤ n ∧ n ≤ 99)) (fun T N => (seB T N n : Int))
def q_seatAt (W : Wd) (p n : Int) : Int × Int := rd W (fun T => g2 (0 ≤ p ∧ p < tP T) (0 ≤ n ∧ n ≤ 99)) (fun T N => seH T N n p.toNat)
section SEATC
variable {W : Wd} {s : St}
theorem cc_seat (h : CW W s) (n : Int) : CR s (q_seat W n).1 (q_seat W n).2 (X11_seat s 0 n) := by
  obtain ⟨hS, ⟨h0, h2, h4⟩, hW⟩ := h
  have e1 := c_town hS h0
  unfold X11_seat
  rcases W with _ | ⟨T, N⟩
  · refine CR_eq ?_
    simp [tF, isK, shF hS, e1, c_night, c_ref hS, q_seat, rd, nH]
  · have hW1 := (hW T N rfl).tr 2 0
    have t1 := hW1.2.1.1.1
    have ne : ¬ tH T = 0 := by omega
    by_cases hn : 0 ≤ n ∧ n ≤ 99
    · have hv : q_seat (some (T, N)) n = (0, (seB T N n : Int)) := by simp [q_seat, rd, g2, hn]
      rw [hv]
      obtain ⟨s1, f1, f2, f3⟩ := weigh_e hW1 hn
      have hW2 := hW1.cs f2
      have hS2 := hW2.1
      obtain ⟨s3, m1, m2, m3⟩ := c_most hS2 hW2.2.1 hW2.2.2.1 f3
      refine CR_of (s1 := s3) ?_ (f2.trans (m2.mono (fun a ha => by unfold cS; omega)))
      simp [tF, isK, shF hS, shF hS2, e1, c_night, c_ref hS, nH, ne, hn, f1, m1]
    all_goals (refine CR_eq ?_; simp [tF, isK, shF hS, e1, c_night, c_ref hS, q_seat, rd, g2, nH, ne, hn])
theorem cc_seatAt (h : CW W s) (p n : Int) : CR s (q_seatAt W p n).1 (q_seatAt W p n).2 (X11_seatAt s 0 p n) := by
  obtain ⟨hS, ⟨h0, h2, h4⟩, hW⟩ := h
  have e1 := c_pers hS h2 p
  unfold X11_seatAt
  rcases W with _ | ⟨T, N⟩
  · refine CR_eq ?_
    simp [tF, isK, shF hS, e1, c_night, c_ref hS, q_seatAt, rd, nP, show ¬ (0 ≤ p ∧ p < 0) by omega]
  · have hW1 := (hW T N rfl).tr 2 0
    have t5 := hW1.2.1.1.2.2.2.2.1
    by_cases hp : 0 ≤ p ∧ p < tP T <;> by_cases hn : 0 ≤ n ∧ n ≤ 99
    · obtain ⟨k, rfl, hk⟩ := nat_of hp
      have hv : q_seatAt (some (T, N)) k n = (0, seH T N n k) := by simp [q_seatAt, rd, g2, hk, hn]
      rw [hv]
      obtain ⟨s1, f1, f2, f3⟩ := weigh_e hW1 hn
      have hW2 := hW1.cs f2
      have hS2 := hW2.1
      obtain ⟨s3, m1, m2⟩ := c_place hW2 f3 hk
      have hW3 := hW2.cs (m2.mono (fun a ha => by unfold cS; omega))
      have hS3 := hW3.1
      obtain ⟨io1, io2, io3⟩ := ins_ok hW2.2.2.1.2.2.1 (tP T) (Nat.le_refl _)
      obtain ⟨-, -, se3⟩ := se_ok (N := N) (night := n) hW2.2.1
      have kk := (kp_ok (P := tP T) (by omega) (tP T) 0 (seO T N n) (Nat.two_pow_pos _) (by show 0 + tP T = tP T; omega) (se_ok (N := N) (night := n) hW2.2.1).2.1).1 k hk
      rw [se3 k hk] at kk
      have ip := io1 _ kk.1
      have eh := hW3.2.2.2.2.1.1 _ ip
      have g6 : ((ins (nHo N) (tP T) (gp (wSo T N n) (tP T) (tP T) 0 k) : Nat) : Int) < 6 := by omega
      refine CR_of (s1 := s3) ?_ (f2.trans (m2.mono (fun a ha => by unfold cS; omega)))
      unfold seH
      simp [tF, isK, shF hS, shF hS2, shF hS3, e1, c_night, c_ref hS, nP, hk, hn, f1, m1, g6, eh]
    all_goals (refine CR_eq ?_; simp [tF, isK, shF hS, e1, c_night, c_ref hS, q_seatAt, rd, g2, nP, hp, hn])
theorem mm_seat (h : MWd W s) (n : Int) : MR s (q_seat W n).1 (q_seat W n).2 (X13_seat s 76 n) := by
  obtain ⟨hS, hno, hW⟩ := h
  have hS1 : Sh (pI s 76 0 0) := hS
  unfold X13_seat X13_seat_b18
  rcases W with _ | ⟨T, N⟩
  · have hn := hno rfl
    refine MR_no ?_
    simp [tF, isK, shF hS, m_rn, m_refd hS1, q_seat, rd, hn]
  · obtain ⟨t, hM, hN, hx⟩ := hW T N rfl
    have hM1 := hM.tr 0 0
    have hF := mF hM
    by_cases j1 : 0 ≤ n ∧ n ≤ 99
    · have hv : q_seat (some (T, N)) n = (0, (seB T N n : Int)) := by simp [q_seat, rd, g2, j1]
      rw [hv]
      obtain ⟨s4, f1, f2, f3, f4⟩ := m_seating (night := n) hM1 hN hx j1
      have hS4 : Sh s4 := (hM1.mv f2).1
      refine MR_of ((Mv_pI (k := 0) (x := 0) (by decide)).trans f2) ?_
      simp [tF, isK, shF hS, shF hS4, hF.1, m_rn, j1, f1, f3, m_good hS4]
    all_goals (refine MR_no ?_; simp [tF, isK, shF hS, hF.1, m_rn, m_refd hS1, q_seat, rd, g2, j1])
theorem mm_seatAt (h : MWd W s) (p n : Int) : MR s (q_seatAt W p n).1 (q_seatAt W p n).2 (X13_seatAt s 76 p n) := by
  obtain ⟨hS, hno, hW⟩ := h
  have hS1 : Sh (pI s 76 0 0) := hS
  unfold X13_seatAt
  rcases W with _ | ⟨T, N⟩
  · have hn := hno rfl
    have hn1 : gR (pI s 76 0 0) 76 3 < 0 := hn
    refine MR_no ?_
    simp [tF, isK, shF hS, m_rn, m_refd hS1, n_pers hS1 hn1, q_seatAt, rd]
  · obtain ⟨t, hM, hN, hx⟩ := hW T N rfl
    have hM1 := hM.tr 0 0
    have t5 := hM.2.1.1.2.2.2.2.1
    by_cases j0 : 0 ≤ p ∧ p < tP T <;> by_cases j1 : 0 ≤ n ∧ n ≤ 99
    · obtain ⟨k, rfl, hk⟩ := nat_of j0
      have hv : q_seatAt (some (T, N)) k n = (0, seH T N n k) := by simp [q_seatAt, rd, g2, hk, j1]
      rw [hv]
      obtain ⟨s4, f1, f2, f3, f4⟩ := m_seating (night := n) hM1 hN hx j1
      have hS4 : Sh s4 := (hM1.mv f2).1
      have e4 := f4 k hk
      have g6 : (k : Int) < 6 := by omega
      refine MR_of ((Mv_pI (k := 0) (x := 0) (by decide)).trans f2) ?_
      simp [tF, isK, shF hS, shF hS4, m_pers hM1, m_rn, j1, hk, f1, e4, g6, m_good hS4]
    all_goals (refine MR_no ?_; simp [tF, isK, shF hS, m_pers hM1, m_rn, m_refd hS1, q_seatAt, rd, g2, j0, j1])
theorem s_seat (a : Int) (h : INV s) : STP s (fun s => X11_seat s 0 a) (fun s => X13_seat s 76 a) := by
  obtain ⟨W, L, I, tr, fl, fp, tp, hO, ht, hC, hM⟩ := h
  exact step_read hO ht hC hM (q_seat W a) (rd_ne (fun T => g2_le _ _)) (cc_seat hC.1 a) (fun s1 h1 => mm_seat h1 a)
theorem s_seatAt (a b : Int) (h : INV s) : STP s (fun s => X11_seatAt s 0 a b) (fun s => X13_seatAt s 76 a b) := by
  obtain ⟨W, L, I, tr, fl, fp, tp, hO, ht, hC, hM⟩ := h
  exact step_read hO ht hC hM (q_seatAt W a b) (rd_ne (fun T => g2_le _ _)) (cc_seatAt hC.1 a b) (fun s1 h1 => mm_seatAt h1 a b)
end SEATC
