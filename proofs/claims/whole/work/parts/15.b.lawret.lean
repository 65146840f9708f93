/-! the law's end -/
def R_law : String := "SeanceStreetLaw"
def lw_P (b : Addr) (xs : List Int32) (args : Array Value) (s : State) : Prop := args = #[.ref b] ∧ s.IntsAt b xs ∧ xs.length ≤ 3072 ∧ (Jvm.Cond.and given_1 narrow_1).before args s = true
def lw_Q (_ : Array Value) (s : State) (o : Outcome) (t : State) : Prop := o = .returned (some (.int 1)) ∧ Framed s o t [] 601024 7293034
def lw_Z (below : List Frame) (a : Array Value) (s : State) : State → Prop := fun t => ∃ o, t.status = .running ∧ Ended t below o ∧ lw_Q a s o t
abbrev QLaw (G : Gx) : QT := fun r s' below args s0 mc ms t => (mc ≤ 601024 ∧ ms ≤ 7293034 ∧ s0.heap.size = G.1) → lw_Z below args s0 t
section VLAW
variable {G : Gx} {l : Launch} {M : MI} {pc : Nat} {lv : List (Nat × PV)} {s : St}
theorem V_lawret {x : Int} (hr : M.2.2.2.1 = some .boolean) (hd : decode M.2.1 pc = .ok (.ireturn, 1)) : VQ (QLaw G) G l M pc lv [(0, x)] s (grd (x = 1) (some (x, s))) := by
  refine V_grd fun hx => ?_
  subst hx
  intro r s' hX
  cases hX
  refine ⟨Nat.le_refl _, Nat.le_refl _, fun n0 k0 g1 g2 p e R s0 m args below meth c H locs ls hC hc hs hL hO hR hl => ?_⟩
  intro T hT X0
  by_cases hN : s.1.1 - n0 ≤ 601024 ∧ s.1.2 - k0 ≤ 7293034 ∧ s0.heap.size = G.1
  · obtain ⟨n1, n2, n3⟩ := hN
    have X := stand_widen (Stand.forget (locs := []) X0 (fun q hq => by rw [n3]; exact hl q hq)) n1 n2
    have hb := hC.2.1
    have hx := hC.1
    have hrt := hC.2.2.2.1.trans hr
    obtain ⟨fs, hret, hrun, hended, hW, hframe⟩ := X.leave (v := some (.int 1)) (hlocks := hC.2.2.2.2.2.2.2.1) (fun h => by rw [hrt] at h; cases h)
    have hmeth' : T.vm.method? m = some meth := X.method'
    refine ⟨T.setFrames fs, ?_, fun _ => ⟨.returned (some (.int 1)), hrun, hended, rfl, ⟨_, rfl⟩, hW, hframe⟩⟩
    show Steps p.tables e below (T.setTop (F0 m pc ls [.int 1])) _
    jvm_step X.here [X.here.top, hx, hb, hd, hmeth', hrt, narrow_b1]
    (try refine ⟨rfl, ?_⟩); (try refine ⟨rfl, ?_⟩)
    first | (intro acts; rw [hret _ acts rfl rfl rfl]) | rw [hret _ _ rfl rfl rfl]
    exact Steps.refl _
  · exact ⟨_, Steps.refl _, fun h => absurd h hN⟩
end VLAW
