/-! the reference's search on its heap -/
section BRINGS
variable {s : St} {T : Tw} {N : Nw} {t : Int} {he : Nat → Nat}
theorem WM.f84 {s1 : St} (hW : WM T N t s) (hf : Fr (fun a => a = 84) s s1) : WM T N t s1 :=
  ⟨hW.1.fr hf (fun a ha q => by omega), hW.2.1, by
    have e : (fun j => gI s1 79 j) = fun j => gI s 79 j := by funext j; exact hf.nu (by decide)
    rw [e]; exact hW.2.2⟩
theorem HRm.f84 {s1 : St} (hh : HRm s T he) (hf : Fr (fun a => a = 84) s s1) : HRm s1 T he := fun d hd => by rw [hf.nu (by decide)]; exact hh d hd
theorem m_bring_in {n b c : Nat} {fr l : Int} (hn : n = 3 ^ tD T) (hW : WM T N t s) (hh : HRm s T he) (hp : ∀ d, d < tD T → he d < tP T) (hfr : 0 ≤ fr ∧ fr < tH T) (hc : c < n)
    (hI : SI he (tFo T) (nHo N) (tH T) fr (tP T) (tD T) b (c * 7) (fun j => gI s 84 j) l) :
    ∃ s1 l1, (∀ rk : St → Int → Int → Int → Int → Int → Rs, X13_brings_b136 rk FU s 76 fr n l c 0 = rk s1 76 fr n l1 ((c + 1 : Nat) : Int)) ∧ Fr (fun a => a = 84) s s1 ∧ SI he (tFo T) (nHo N) (tH T) fr (tP T) (tD T) b ((c + 1) * 7) (fun j => gI s1 84 j) l1 := by
  have t1 := hW.1.2.1.1.1
  have t2 := hW.1.2.1.1.2.1
  have t5 := hW.1.2.1.1.2.2.2.2.1
  have t6 := hW.1.2.1.1.2.2.2.2.2.1
  have p729 := pw3 (tD T) t6
  have hp2 : ∀ d, d < tD T → he d < tP T ∧ tFo T d < tP T := fun d hd => ⟨hp d hd, (hW.1.2.1.2.1 d hd).2.2⟩
  have run := iter_go (body := fun (rk : St → Int → Int → Int → Int → Int → Rs) (rec : St × Int × Int × Int × Int × Int × Int → Rs) (a : St × Int × Int × Int × Int × Int × Int) => X13_brings_b136_body rk (fun (s : St) (x0 x1 x3 x5 x6 x7 : Int) => rec (s, x0, x1, x3, x5, x6, x7)) a.1 a.2.1 a.2.2.1 a.2.2.2.1 a.2.2.2.2.1 a.2.2.2.2.2.1 a.2.2.2.2.2.2)
    (fun (q : Nat) (a : St × Int × Int × Int × Int × Int × Int) => ∃ s2 l2, a = (s2, 76, fr, (n : Int), l2, (c : Int), (q : Int)) ∧ Fr (fun a => a = 84) s s2 ∧ SI he (tFo T) (nHo N) (tH T) fr (tP T) (tD T) b (c * 7 + q) (fun j => gI s2 84 j) l2)
    7 (s, 76, fr, (n : Int), l, (c : Int), 0) ⟨s, l, rfl, Fr.refl _ s, hI⟩ (fun q hq7 a ha => by
      obtain ⟨s2, l2, rfl, hf2, hI2⟩ := ha
      have hW2 := hW.f84 hf2
      have hh2 := hh.f84 hf2
      have hS := hW2.1.1
      have w1 : w32 ((c : Int) * 7) = (c : Int) * 7 := w32e (by omega)
      have w2 : w32 ((c : Int) * 7 + (q : Int)) = (c : Int) * 7 + (q : Int) := w32e (by clear w1; omega)
      have n2 : ((c : Int) * 7 + (q : Int)).toNat = c * 7 + q := by clear w1 w2; omega
      have w3 : w32 ((n : Int) - 1) = (n : Int) - 1 := w32e (by clear w1 w2; omega)
      have hq6 : q ≤ 6000 := by clear w1 w2 w3; omega
      have hw := wk1 hq6
      have g1 : ¬ (6 : Int) < q := by clear w1 w2 w3 hw; omega
      have gl : 0 ≤ (c : Int) * 7 + (q : Int) := by clear w1 w2 w3 hw; omega
      have gj : (c : Int) * 7 + (q : Int) < 5103 := by clear w1 w2 w3 hw; omega
      have g19 : (q : Int) < 19 := by clear w1 w2 w3 hw; omega
      by_cases z : gI s2 84 (c * 7 + q) = 9999
      · refine ⟨(s2, 76, fr, (n : Int), l2, (c : Int), ((q + 1 : Nat) : Int)), ⟨s2, l2, rfl, hf2, SI_skip hI2 z⟩, fun rk rec => ?_⟩
        simp [X13_brings_b136_body, X13_brings_b214, tF, isK, shF hS, w1, w2, n2, hw, g1, gl, gj, z]
      · have bd := SI_b t6 hI2 (c := c) (q := q) (by clear w1 w2 w3 hw; omega) hq7 z
        have hq0 : 0 ≤ hq (nHo N) fr q ∧ hq (nHo N) fr q < tH T := by
          unfold hq
          split
          · exact hfr
          · exact hW.2.1.2.1 q (by clear w1 w2 w3 hw; omega)
        have es := m_spreads (c := c) (k := gI s2 84 (c * 7 + q)) (h := hq (nHo N) fr q) hW2 hh2 (by clear w1 w2 w3 hw; omega) (by clear w1 w2 w3 hw; omega) hq0
        have st := SI_step (he := he) (of := tFo T) (ho := nHo N) (by clear w1 w2 w3 hw; omega) (by clear w1 w2 w3 hw; omega) t6 t5 hp2 (c := c) (q := q) (by clear w1 w2 w3 hw; omega) hq7 hI2 z
        have b188 : ∀ (l3 : Int) (rk : St → Int → Int → Int → Int → Int → Rs) (rec : St → Int → Int → Int → Int → Int → Int → Rs), X13_brings_b188 rk rec s2 76 fr n l3 c q (gI s2 84 (c * 7 + q)) = rec (sR s2 84 (spF he (tFo T) (nHo N) (tH T) (tD T) c (gI s2 84 (c * 7 + q)) (hq (nHo N) fr q) (fun j => gI s2 84 j) (tP T))) 76 fr n l3 c ((q + 1 : Nat) : Int) := by
          intro l3 rk rec
          unfold X13_brings_b188
          by_cases y : q = 6
          · subst y
            have eq : hq (nHo N) fr 6 = fr := rfl
            have e7 : w32 7 = 7 := by decide
            rw [eq] at es ⊢
            simp [X13_brings_b211, X13_brings_b214, tF, isK, shF hS, es, e7]
          · have eq : hq (nHo N) fr q = nHo N q := if_neg y
            have e79 : gI s2 79 q = nHo N q := hW2.2.2.1 q (by clear w1 w2 w3 hw; omega)
            have y2 : ¬ (q : Int) = 6 := by clear w1 w2 w3 hw; omega
            rw [eq] at es ⊢
            simp [X13_brings_b211, X13_brings_b214, tF, isK, shF hS, es, hw, y2, g19, e79]
        refine ⟨(sR s2 84 (spF he (tFo T) (nHo N) (tH T) (tD T) c (gI s2 84 (c * 7 + q)) (hq (nHo N) fr q) (fun j => gI s2 84 j) (tP T)), 76, fr, (n : Int), (if c + 1 = 3 ^ tD T ∧ gI s2 84 (c * 7 + q) < l2 then gI s2 84 (c * 7 + q) else l2), (c : Int), ((q + 1 : Nat) : Int)), ⟨_, _, rfl, hf2.trans (Fr_sR rfl), st⟩, fun rk rec => ?_⟩
        rw [← hn]
        by_cases y : c + 1 = n
        · have y2 : (c : Int) = (n : Int) - 1 := by clear w1 w2 w3 hw; omega
          by_cases x : gI s2 84 (c * 7 + q) < l2
          · have x2 : ¬ l2 ≤ gI s2 84 (c * 7 + q) := by clear w1 w2 w3 hw; omega
            simp only [X13_brings_b136_body, w1, w2, w3, n2]
            simp [tF, isK, shF hS, g1, gl, gj, z, y2.symm, x2, b188, y, x]
          · have x2 : l2 ≤ gI s2 84 (c * 7 + q) := by clear w1 w2 w3 hw; omega
            simp only [X13_brings_b136_body, w1, w2, w3, n2]
            simp [tF, isK, shF hS, g1, gl, gj, z, y2.symm, x2, b188, y, x]
        · have y2 : ¬ (c : Int) = (n : Int) - 1 := by clear w1 w2 w3 hw; omega
          simp only [X13_brings_b136_body, w1, w2, w3, n2]
          simp [tF, isK, shF hS, g1, gl, gj, z, y2, b188, y])
  obtain ⟨a, ⟨s2, l2, rfl, hf2, hI2⟩, hrun⟩ := run
  have hc6 : c ≤ 6000 := by omega
  have hw := wk1 hc6
  refine ⟨s2, l2, fun rk => ?_, hf2, ?_⟩
  · unfold X13_brings_b136
    refine (hrun rk FU (by unfold FU; omega)).trans ?_
    simp [X13_brings_b136_body, hw]
  · rw [Nat.succ_mul]; exact hI2
end BRINGS
