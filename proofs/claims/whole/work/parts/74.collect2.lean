/-! the class collects, from nothing -/
section COLLECTW
variable {s : St} {T : Tw} {N : Nw} {night : Int}
theorem c_collectW (hW : WC T N s) (hn : 0 ≤ night ∧ night ≤ 99) : ∃ s1, X0_collect s 50 31 night = some (0, s1) ∧ Fr (fun a => a = 50 ∨ a = 52 ∨ a = 53) s s1 ∧ EC s1 T N night (tD T) := by
  have hS0 := hW.1
  have main : ∃ s1, X0_collect_b7 FU (pI s 50 4 0) 50 31 night 0 = some (0, s1) ∧ Fr (fun a => a = 50 ∨ a = 52 ∨ a = 53) s s1 ∧ EC s1 T N night (tD T) := by
    unfold X0_collect_b7
    refine iter_inv (Q := fun F => ∃ s1, F = some (0, s1) ∧ Fr (fun a => a = 50 ∨ a = 52 ∨ a = 53) s s1 ∧ EC s1 T N night (tD T))
      (fun (k : Nat) (a : St × Int × Int × Int × Int) => ∃ s2, a = (s2, 50, 31, night, (k : Int)) ∧ Fr (fun a => a = 50 ∨ a = 52 ∨ a = 53) s s2 ∧ gI s2 50 4 = 0 ∧ ∀ p, p < k → gI s2 52 p = 0 ∧ gI s2 53 p = 0)
      6 FU (pI s 50 4 0, 50, 31, night, 0) (by unfold FU; omega) ⟨pI s 50 4 0, rfl, Fr_pI (Or.inl rfl), by simp [gI_pI], fun p hp => by omega⟩ (fun k hk a ha => ?_) (fun a ha rec => ?_)
    · obtain ⟨s2, rfl, hf2, e4, ep⟩ := ha
      have hW2 := hW.cs (hf2.mono (fun a ha => by unfold cS; omega))
      have hS := hW2.1
      have g1 : ¬ (6 : Int) ≤ k := by omega
      have g6 : (k : Int) < 6 := by omega
      have hw := wk1 (k := k) (by omega)
      refine ⟨(pI (pI s2 52 k 0) 53 k 0, 50, 31, night, ((k + 1 : Nat) : Int)), ⟨_, rfl, hf2.trans ((Fr_pI (Or.inr (Or.inl rfl))).trans (Fr_pI (Or.inr (Or.inr rfl)))), ?_, fun p hp => ?_⟩, fun rec => ?_⟩
      · simp [gI_pI, e4]
      · by_cases y : p = k
        · simp [gI_pI, y]
        · simp [gI_pI, y, ep p (by clear hw; omega)]
      · simp [X0_collect_b7_body, tF, isK, shF hS, g1, g6, hw]
    · obtain ⟨s2, rfl, hf2, e4, ep⟩ := ha
      have hW2 := hW.cs (hf2.mono (fun a ha => by unfold cS; omega))
      obtain ⟨s3, e3, f3, h3⟩ := c_collect hW2 hn ⟨e4, ep⟩
      refine ⟨s3, ?_, hf2.trans f3, h3⟩
      simp [X0_collect_b7_body, e3]
  obtain ⟨s1, e1, f1, h1⟩ := main
  refine ⟨s1, ?_, f1, h1⟩
  unfold X0_collect
  simp [tF, isK, shF hS0, e1]
end COLLECTW
