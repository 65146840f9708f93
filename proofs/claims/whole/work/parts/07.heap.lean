/-! rows of V over the heap: fields, arrays, new cells, calls, ends -/
theorem cl_lt {ci : Nat} {q : vw_C} (h : vwCl[ci]? = some q) : ci < 14 := (List.getElem?_eq_some_iff.mp h).1
theorem cl_in {ci : Nat} {q : vw_C} (h : vwCl[ci]? = some q) : ∀ w ∈ u_ws q.1 q.2.1 q.2.2, w ∈ TW := by
  intro w hw
  obtain ⟨k, hk, rfl⟩ := List.mem_map.mp hw
  have h1 := vwCl_in ci (cl_lt h) k (by rw [h]; exact List.mem_range.mp hk)
  rw [h] at h1
  simp only [Option.map_some, Option.some.injEq, Bool.and_eq_true, decide_eq_true_eq] at h1
  exact List.mem_filter.mpr h1
theorem cl_ty {ci : Nat} {q : vw_C} (h : vwCl[ci]? = some q) : ∀ k, k < q.2.2 → parseFieldDescriptor (q.2.1 k).2.2.1 = some (tyCl ci k) := by
  intro k hk
  have h1 := vwCl_ty ci (cl_lt h) k (by rw [h]; exact hk)
  rw [h] at h1
  simpa using h1
theorem cl_nm {ci : Nat} {q : vw_C} (h : vwCl[ci]? = some q) : ∀ a, a < q.2.2 → ∀ b, b < q.2.2 → a ≠ b → (q.2.1 a).2.1 ≠ (q.2.1 b).2.1 := by
  intro a ha b hb hab
  have h1 := vwCl_nm ci (cl_lt h) a (by rw [h]; exact ha) b (by rw [h]; exact hb) hab
  rw [h] at h1
  simpa using h1
/-- the word of a field's link; is it of a nest mate -/
def flw (own : String) (idx ci k : Nat) : Cond := match vwCl[ci]? with
  | some q => .fieldLink own idx (q.2.1 k).1 (q.2.1 k).2.1 (q.2.1 k).2.2.1
  | none => .initialized own
def flN (own host : String) (idx ci k : Nat) : Cond := match vwCl[ci]? with
  | some q => .fieldLinkNest own idx (q.2.1 k).1 (q.2.1 k).2.1 (q.2.1 k).2.2.1 host
  | none => .initialized own
def nf (ci : Nat) : Nat := match vwCl[ci]? with
  | some q => q.2.2
  | none => 0
def fin (ci k : Nat) : Bool := match vwCl[ci]? with
  | some q => (q.2.1 k).2.2.2
  | none => true
def fcl (ci k : Nat) : String := match vwCl[ci]? with
  | some q => (q.2.1 k).1
  | none => ""
theorem nf_q {ci k : Nat} (h : k < nf ci) : ∃ q, vwCl[ci]? = some q ∧ k < q.2.2 := by
  unfold nf at h
  cases hq : vwCl[ci]? with
  | none => rw [hq] at h; exact absurd h (Nat.not_lt_zero _)
  | some q => rw [hq] at h; exact ⟨q, rfl, h⟩
theorem mkR_in {G : Gx} {a : Int} (h : 0 ≤ a ∧ a < 1000000) : mkR G a = .ref (G.1 + a.toNat) := by
  unfold mkR
  rw [if_neg (by omega), if_pos h.2]
theorem Rel.cell {G : Gx} {s : St} {H : Heap} (h : Rel G s H) (a : Nat) : cellR G (s.2.1 a) (s.2.2.1 a) (s.2.2.2 a) H[G.1 + a]? := h.2.2.2.2 a
theorem Rel.obj {G : Gx} {s : St} {H : Heap} {a : Int} {ci : Nat} (h : Rel G s H) (hk : isK s (10 + ci) a) : ∃ (q : vw_C) (cell : Cell), vwCl[ci]? = some q ∧ H[G.1 + a.toNat]? = some cell ∧ cell.cls = G.2.1.1 ci ∧ cell.vm = .none ∧ ∀ k, k < q.2.2 → cell.slots[G.2.1.2 ci k]? = some (mv G (fp ci (s.2.2.1 a.toNat) (s.2.2.2 a.toNat) k)) ∧ okv (fp ci (s.2.2.1 a.toNat) (s.2.2.2 a.toNat) k) := (h.cell a.toNat).2.2.2.2 ci hk.2
/-- a cell is written: all others stand -/
theorem Rel.set {G : Gx} {s s' : St} {H H1 : Heap} {a : Nat} (h : Rel G s H) (e1 : s'.1 = s.1) (e2 : s'.2.1 = s.2.1) (hb : ∀ b, b ≠ a → s'.2.2.1 b = s.2.2.1 b ∧ s'.2.2.2 b = s.2.2.2 b) (hz : H1.size = H.size) (ho : ∀ q : Nat, q ≠ G.1 + a → H1[q]? = H[q]?) (hc : cellR G (s'.2.1 a) (s'.2.2.1 a) (s'.2.2.2 a) H1[G.1 + a]?) : Rel G s' H1 := by
  obtain ⟨r1, r2, r3, r4, r5⟩ := h
  refine ⟨by rw [hz, e1]; exact r1, r2, fun q hq => (ho q (by omega)).trans (r3 q hq), by rw [e1]; exact r4, fun b => ?_⟩
  by_cases hba : b = a
  · subst hba; exact hc
  · rw [e2, (hb b hba).1, (hb b hba).2, ho (G.1 + b) (by omega)]
    exact r5 b
theorem pI_o {s : St} {a : Int} {k : Nat} {x : Int} : ∀ b, b ≠ a.toNat → (pI s a k x).2.2.1 b = s.2.2.1 b ∧ (pI s a k x).2.2.2 b = s.2.2.2 b := fun b hb => ⟨rfl, funext fun j => if_neg (fun h => hb h.1)⟩
theorem pR_o {s : St} {a : Int} {k : Nat} {x : Int} : ∀ b, b ≠ a.toNat → (pR s a k x).2.2.1 b = s.2.2.1 b ∧ (pR s a k x).2.2.2 b = s.2.2.2 b := fun b hb => ⟨funext fun j => if_neg (fun h => hb h.1), rfl⟩
theorem pI_a (s : St) (a : Int) (k : Nat) (x : Int) : (pI s a k x).2.2.2 a.toNat = fun j => if j = k then x else s.2.2.2 a.toNat j := by
  funext j
  show (if a.toNat = a.toNat ∧ j = k then x else s.2.2.2 a.toNat j) = _
  by_cases h : j = k
  · rw [if_pos ⟨rfl, h⟩, if_pos h]
  · rw [if_neg (fun q => h q.2), if_neg h]
theorem pR_a (s : St) (a : Int) (k : Nat) (x : Int) : (pR s a k x).2.2.1 a.toNat = fun j => if j = k then x else s.2.2.1 a.toNat j := by
  funext j
  show (if a.toNat = a.toNat ∧ j = k then x else s.2.2.1 a.toNat j) = _
  by_cases h : j = k
  · rw [if_pos ⟨rfl, h⟩, if_pos h]
  · rw [if_neg (fun q => h q.2), if_neg h]
def isRf : FieldType → Bool
  | .object _ => true
  | .array _ => true
  | _ => false
theorem rf_put {t : FieldType} {G : Gx} {x : Int} (h : isRf t = true) : narrow t (mv G (2, x)) = mv G (2, x) ∧ fits t (mv G (2, x)) = true := by
  rw [mv2]
  rcases mkR_cases G x with e | ⟨a, e⟩ <;> rw [e] <;> cases t <;> first | exact ⟨rfl, rfl⟩ | (cases h; done)
section VHEAP
variable {QQ : QT} {G : Gx} {l : Launch} {M : MI} {pc : Nat} {lv : List (Nat × PV)} {st : List PV} {s : St} {X : Rs}
theorem W_getf {p : Program} {e : Env} {R : Room} {s0 : State} {m : MethodId} {args : Array Value} {below : List Frame} {meth : Method} {c : Code} {H : Heap} {locs : List Loc} {cells slots : Nat} {Q : State → Prop} {ls : Array Slot} {rest : List Value} {a : Int} {ci k idx : Nat} {host : String}
    (hC : Cx G M p R s0 m args meth c) (hR : Rel G s H) (hk : isK s (10 + ci) a) (hn : k < nf ci) (hw : flw M.1.cls idx ci k ∈ TW ∨ flN M.1.cls host idx ci k ∈ NW) (hd : decode M.2.1 pc = .ok (.getfield idx, 3))
    (kk : okv (fp ci (s.2.2.1 a.toNat) (s.2.2.2 a.toNat) k) → W p l e R s0 m args below meth c H locs cells slots Q (F0 m (pc + 3) ls (mv G (fp ci (s.2.2.1 a.toNat) (s.2.2.2 a.toNat) k) :: rest))) : W p l e R s0 m args below meth c H locs cells slots Q (F0 m pc ls (mv G (2, a) :: rest)) := by
  obtain ⟨q, cell, hq, q1, q2, q3, q4⟩ := hR.obj hk
  have hkq : k < q.2.2 := by unfold nf at hn; rw [hq] at hn; exact hn
  obtain ⟨hx, hb, -, -, hown, hts, hKN, -⟩ := hC
  obtain ⟨hS, hfc, kC, hkC, hkind⟩ := hKN.1.1 ci q hq
  obtain ⟨cf, kf, fi, f, hi, hsl⟩ := hS k hkq
  rw [mv2, mkR_in hk.1]
  rcases hw with hw | hw
  · have hl := hts _ hw
    unfold flw at hl; rw [hq] at hl
    refine W.getf hx hb hown hl hi (u_facts hfc hkC (u_lays hts (cl_in hq) hkq) hi).1 q1 (by rw [q3]; exact fun h => by cases h) (v := mv G (fp ci (s.2.2.1 a.toNat) (s.2.2.2 a.toNat) k)) ?_ rfl rfl hd (kk (q4 k hkq).2)
    rw [hsl]; exact (q4 k hkq).1
  · have hl := hKN.2.1 _ hw
    unfold flN at hl; rw [hq] at hl
    refine va_Wgetf hx hb hown (va_Nw.use rfl hl) hi (u_facts hfc hkC (u_lays hts (cl_in hq) hkq) hi).1 q1 (by rw [q3]; exact fun h => by cases h) (v := mv G (fp ci (s.2.2.1 a.toNat) (s.2.2.2 a.toNat) k)) ?_ rfl rfl hd (kk (q4 k hkq).2)
    rw [hsl]; exact (q4 k hkq).1
theorem V_get {a : Int} {idx : Nat} {host : String} (ci k : Nat) {v : PV} (hn : k < nf ci) (hw : flw M.1.cls idx ci k ∈ TW ∨ flN M.1.cls host idx ci k ∈ NW) (hd : decode M.2.1 pc = .ok (.getfield idx, 3)) (hv : fp ci (s.2.2.1 a.toNat) (s.2.2.2 a.toNat) k = v) (K : VQ QQ G l M (pc + 3) lv (v :: st) s X) : VQ QQ G l M pc lv ((2, a) :: st) s (grd (isK s (10 + ci) a) X) := by
  refine V_grd fun hk => ?_
  intro r s' hX
  obtain ⟨h1, h2, K⟩ := K r s' hX
  refine ⟨h1, h2, fun n0 k0 g1 g2 p e R s0 m args below meth c H locs ls hC hc hs hL hO hR hl => ?_⟩
  subst hv
  exact W_getf hC hR hk hn hw hd (fun ho => K n0 k0 g1 g2 p e R s0 m args below meth c H locs ls hC hc hs hL (okS_cons ho (okS_tl hO)) hR hl)
theorem V_getI {a : Int} {idx : Nat} (ci k : Nat) (hn : k < nf ci) (ht : ft ci k = 0) (hw : flw M.1.cls idx ci k ∈ TW) (hd : decode M.2.1 pc = .ok (.getfield idx, 3)) (K : VQ QQ G l M (pc + 3) lv ((0, gI s a k) :: st) s X) : VQ QQ G l M pc lv ((2, a) :: st) s (grd (isK s (10 + ci) a) X) := V_get (host := "") ci k hn (Or.inl hw) hd (by unfold fp; rw [ht]; rfl) K
theorem V_getL {a : Int} {idx : Nat} (ci k : Nat) (hn : k < nf ci) (ht : ft ci k = 1) (hw : flw M.1.cls idx ci k ∈ TW) (hd : decode M.2.1 pc = .ok (.getfield idx, 3)) (K : VQ QQ G l M (pc + 3) lv ((1, gI s a k) :: st) s X) : VQ QQ G l M pc lv ((2, a) :: st) s (grd (isK s (10 + ci) a) X) := V_get (host := "") ci k hn (Or.inl hw) hd (by unfold fp; rw [ht]; rfl) K
theorem V_getR {a : Int} {idx : Nat} (ci k : Nat) (hn : k < nf ci) (ht : ft ci k = 2) (hw : flw M.1.cls idx ci k ∈ TW) (hd : decode M.2.1 pc = .ok (.getfield idx, 3)) (K : VQ QQ G l M (pc + 3) lv ((2, gR s a k) :: st) s X) : VQ QQ G l M pc lv ((2, a) :: st) s (grd (isK s (10 + ci) a) X) := V_get (host := "") ci k hn (Or.inl hw) hd (by unfold fp; rw [ht]; rfl) K
theorem V_getIN {a : Int} {idx : Nat} (host : String) (ci k : Nat) (hn : k < nf ci) (ht : ft ci k = 0) (hw : flN M.1.cls host idx ci k ∈ NW) (hd : decode M.2.1 pc = .ok (.getfield idx, 3)) (K : VQ QQ G l M (pc + 3) lv ((0, gI s a k) :: st) s X) : VQ QQ G l M pc lv ((2, a) :: st) s (grd (isK s (10 + ci) a) X) := V_get (host := host) ci k hn (Or.inr hw) hd (by unfold fp; rw [ht]; rfl) K
theorem V_getRN {a : Int} {idx : Nat} (host : String) (ci k : Nat) (hn : k < nf ci) (ht : ft ci k = 2) (hw : flN M.1.cls host idx ci k ∈ NW) (hd : decode M.2.1 pc = .ok (.getfield idx, 3)) (K : VQ QQ G l M (pc + 3) lv ((2, gR s a k) :: st) s X) : VQ QQ G l M pc lv ((2, a) :: st) s (grd (isK s (10 + ci) a) X) := V_get (host := host) ci k hn (Or.inr hw) hd (by unfold fp; rw [ht]; rfl) K
/-- a field is written: s' is the new state, of which this cell's fields are the old ones but k -/
theorem W_putf {p : Program} {e : Env} {R : Room} {s0 : State} {m : MethodId} {args : Array Value} {below : List Frame} {meth : Method} {c : Code} {H : Heap} {locs : List Loc} {cells slots : Nat} {Q : State → Prop} {ls : Array Slot} {rest : List Value} {a : Int} {ci k idx : Nat} {host : String} {v : PV} {s' : St}
    (hC : Cx G M p R s0 m args meth c) (hR : Rel G s H) (hk : isK s (10 + ci) a) (hn : k < nf ci) (hw : (flw M.1.cls idx ci k ∈ TW ∧ (fin ci k = false ∨ (M.1.name = "<init>" ∧ fcl ci k = M.1.cls ∧ fin ci k = true))) ∨ (flN M.1.cls host idx ci k ∈ NW ∧ fin ci k = false)) (hd : decode M.2.1 pc = .ok (.putfield idx, 3))
    (hv : narrow (tyCl ci k) (mv G v) = mv G v ∧ fits (tyCl ci k) (mv G v) = true) (e1 : s'.1 = s.1) (e2 : s'.2.1 = s.2.1) (hb : ∀ b, b ≠ a.toNat → s'.2.2.1 b = s.2.2.1 b ∧ s'.2.2.2 b = s.2.2.2 b) (hf : ∀ j, fp ci (s'.2.2.1 a.toNat) (s'.2.2.2 a.toNat) j = if j = k then v else fp ci (s.2.2.1 a.toNat) (s.2.2.2 a.toNat) j) (hov : okv v) (hlo : ∀ q ∈ locs, G.1 ≤ q.base)
    (kk : ∀ (H1 : Heap) (locs1 : List Loc), Rel G s' H1 → (∀ q ∈ locs1, G.1 ≤ q.base) → W p l e R s0 m args below meth c H1 locs1 cells slots Q (F0 m (pc + 3) ls rest)) : W p l e R s0 m args below meth c H locs cells slots Q (F0 m pc ls (mv G v :: mv G (2, a) :: rest)) := by
  obtain ⟨q, cell, hq, q1, q2, q3, q4⟩ := hR.obj hk
  have hkq : k < q.2.2 := by unfold nf at hn; rw [hq] at hn; exact hn
  obtain ⟨hx, hbb, -, -, hown, hts, hKN, -, hnm, -⟩ := hC
  have hap := va_apart (own := q.1) (s := s0) (args := args) hts (cl_in hq) (tyCl ci) (cl_ty hq) (cl_nm hq) hKN.1 hq
  obtain ⟨hS, hfc, kC, hkC, hkind⟩ := hKN.1.1 ci q hq
  obtain ⟨cf, kf, fi, f, hi, hsl⟩ := hS k hkq
  have hst := (u_facts hfc hkC (u_lays hts (cl_in hq) hkq) hi).1
  have hlay := hts _ (cl_in hq _ (u_in_lay hkq))
  have hfit := u_fits hfc hkC hkind (u_lays hts (cl_in hq) hkq) hi (cl_ty hq k hkq) hv.1 hv.2
  have fin' : ∀ (H1 : Heap), H1[G.1 + a.toNat]? = some (cell.setSlot f.slot (mv G v)) → H1.size = H.size → (∀ x, x ≠ G.1 + a.toNat → H1[x]? = H[x]?) → Rel G s' H1 := by
    intro H1 c1 c2 c3
    refine hR.set e1 e2 hb c2 c3 ?_
    refine ⟨fun h => ?_, fun h => ?_, fun h => ?_, fun h => ?_, fun ci' h => ?_⟩
    · rw [e2] at h; have := hk.2; unfold kd at this; omega
    · rw [e2] at h; have := hk.2; unfold kd at this; omega
    · rw [e2] at h; have := hk.2; unfold kd at this; omega
    · rw [e2] at h; have := hk.2; unfold kd at this; omega
    · rw [e2] at h
      have h9 : ci' = ci := by have := hk.2; unfold kd at this; omega
      subst h9
      refine ⟨q, _, hq, c1, q2, q3, fun j hj => ?_⟩
      rw [hf j, hsl]
      refine ⟨?_, ?_⟩
      · rw [t_set (V := fun j => mv G (fp ci' (s.2.2.1 a.toNat) (s.2.2.2 a.toNat) j)) (fun j hj => (q4 j hj).1) hap hkq (mv G v) j hj]
        unfold updV
        by_cases hjk : j = k
        · rw [if_pos hjk, if_pos hjk]
        · rw [if_neg hjk, if_neg hjk]
      · by_cases hjk : j = k
        · rw [if_pos hjk]; exact hov
        · rw [if_neg hjk]; exact (q4 j hj).2
  have flo : ∀ q ∈ locs ++ [⟨G.1 + a.toNat, f.slot⟩], G.1 ≤ q.base := fun q hq => by
    rcases List.mem_append.mp hq with h | h
    · exact hlo q h
    · rw [List.mem_singleton.mp h]; exact Nat.le_add_right _ _
  rw [mv2, mkR_in hk.1]
  rcases hw with ⟨hw, hfi⟩ | ⟨hw, hfi⟩
  · have hl := hts _ hw
    unfold flw at hl; rw [hq] at hl
    rcases hfi with hfi | ⟨hin, hdc, hfi⟩
    · unfold fin at hfi; rw [hq] at hfi
      replace hfi : (q.2.1 k).2.2.2 = false := hfi
      unfold u_lay at hlay
      rw [if_neg (by rw [hfi]; decide)] at hlay
      have h6 := u_store hfc hkC hkind hlay hi (cl_ty hq k hkq) hv.1 hv.2
      exact W.putK hx hbb (f := f) ⟨hown, hl, ⟨_, _, _, hi⟩, hst⟩ (by rw [q2]; exact h6) q1 q3 (by rw [hsl]; exact k2_hasslot (q4 k hkq).1) rfl rfl hd fun H1 c1 c2 c3 => kk H1 _ (fin' H1 c1 c2 c3) flo
    · unfold fin at hfi; rw [hq] at hfi
      unfold fcl at hdc; rw [hq] at hdc
      replace hfi : (q.2.1 k).2.2.2 = true := hfi
      replace hdc : (q.2.1 k).1 = M.1.cls := hdc
      unfold u_lay at hlay
      rw [if_pos hfi] at hlay
      have hcf : m.cls = cf := by
        obtain ⟨_, _, c', _, _, _, -, -, hf', -, -, -, hown2, -⟩ := Cond.laysFinal_spec hlay
        have e1 : c' = cf := by have := hi.symm.trans hf'; simp at this; exact this.1.symm
        rw [hdc] at hown2
        rw [← e1]; exact Option.some.inj (hown.symm.trans hown2)
      exact W.putFinK hx hbb hown hl hi hst hcf (by rw [hnm]; exact hin) (by rw [q2]; exact hfit) q1 q3 (by rw [hsl]; exact k2_hasslot (q4 k hkq).1) rfl rfl hd fun H1 c1 c2 c3 => kk H1 _ (fin' H1 c1 c2 c3) flo
  · have hl := hKN.2.1 _ hw
    unfold flN at hl; rw [hq] at hl
    unfold fin at hfi; rw [hq] at hfi
    replace hfi : (q.2.1 k).2.2.2 = false := hfi
    unfold u_lay at hlay
    rw [if_neg (by rw [hfi]; decide)] at hlay
    have h6 := u_store hfc hkC hkind hlay hi (cl_ty hq k hkq) hv.1 hv.2
    exact va_WputK hx hbb hown (va_Nw.use rfl hl) hi hst (by rw [q2]; exact h6) q1 q3 (by rw [hsl]; exact k2_hasslot (q4 k hkq).1) rfl rfl hd fun H1 c1 c2 c3 => kk H1 _ (fin' H1 c1 c2 c3) flo
theorem fpI {s : St} {a : Int} {k ci : Nat} {x : Int} (h : ft ci k ≠ 2) : ∀ j, fp ci ((pI s a k x).2.2.1 a.toNat) ((pI s a k x).2.2.2 a.toNat) j = if j = k then (ft ci k, x) else fp ci (s.2.2.1 a.toNat) (s.2.2.2 a.toNat) j := by
  intro j
  rw [pI_a]
  unfold fp
  by_cases hj : j = k
  · subst hj
    rw [if_pos rfl, if_neg h]
    show (ft ci j, if j = j then x else _) = _
    rw [if_pos rfl]
  · rw [if_neg hj]
    by_cases h2 : ft ci j = 2
    · rw [if_pos h2, if_pos h2]; rfl
    · rw [if_neg h2, if_neg h2]
      show (ft ci j, if j = k then x else _) = _
      rw [if_neg hj]
theorem fpR {s : St} {a : Int} {k ci : Nat} {x : Int} (h : ft ci k = 2) : ∀ j, fp ci ((pR s a k x).2.2.1 a.toNat) ((pR s a k x).2.2.2 a.toNat) j = if j = k then (2, x) else fp ci (s.2.2.1 a.toNat) (s.2.2.2 a.toNat) j := by
  intro j
  rw [pR_a]
  unfold fp
  by_cases hj : j = k
  · subst hj
    rw [if_pos rfl, h, if_pos rfl]
    show ((2 : Nat), if j = j then x else _) = _
    rw [if_pos rfl]
  · rw [if_neg hj]
    by_cases h2 : ft ci j = 2
    · rw [if_pos h2, if_pos h2]
      show (ft ci j, if j = k then x else _) = _
      rw [if_neg hj]
    · rw [if_neg h2, if_neg h2]; rfl
abbrev pW (M : MI) (idx ci k : Nat) (host : String) : Prop := (flw M.1.cls idx ci k ∈ TW ∧ (fin ci k = false ∨ (M.1.name = "<init>" ∧ fcl ci k = M.1.cls ∧ fin ci k = true))) ∨ (flN M.1.cls host idx ci k ∈ NW ∧ fin ci k = false)
theorem V_putI {a x : Int} {idx : Nat} {host : String} (ci k : Nat) (hn : k < nf ci) (ht : tyCl ci k = .int) (hw : pW M idx ci k host) (hd : decode M.2.1 pc = .ok (.putfield idx, 3)) (K : VQ QQ G l M (pc + 3) lv st (pI s a k x) X) : VQ QQ G l M pc lv ((0, x) :: (2, a) :: st) s (grd (isK s (10 + ci) a) X) := by
  refine V_grd fun hk => ?_
  intro r s' hX
  obtain ⟨h1, h2, K⟩ := K r s' hX
  refine ⟨h1, h2, fun n0 k0 g1 g2 p e R s0 m args below meth c H locs ls hC hc hs hL hO hR hl => ?_⟩
  have hft : ft ci k = 0 := by unfold ft; rw [ht]
  have hf := fpI (s := s) (a := a) (x := x) (ci := ci) (k := k) (by rw [hft]; decide)
  rw [hft] at hf
  exact W_putf (s' := pI s a k x) hC hR hk hn hw hd (by rw [ht]; exact ⟨rfl, rfl⟩) rfl rfl pI_o hf (okS_hd hO) hl (fun H1 locs1 hR1 hl1 => K n0 k0 g1 g2 p e R s0 m args below meth c H1 locs1 ls hC hc hs hL (okS_tl (okS_tl hO)) hR1 hl1)
theorem V_putL {a x : Int} {idx : Nat} {host : String} (ci k : Nat) (hn : k < nf ci) (ht : tyCl ci k = .long) (hw : pW M idx ci k host) (hd : decode M.2.1 pc = .ok (.putfield idx, 3)) (K : VQ QQ G l M (pc + 3) lv st (pI s a k x) X) : VQ QQ G l M pc lv ((1, x) :: (2, a) :: st) s (grd (isK s (10 + ci) a) X) := by
  refine V_grd fun hk => ?_
  intro r s' hX
  obtain ⟨h1, h2, K⟩ := K r s' hX
  refine ⟨h1, h2, fun n0 k0 g1 g2 p e R s0 m args below meth c H locs ls hC hc hs hL hO hR hl => ?_⟩
  have hft : ft ci k = 1 := by unfold ft; rw [ht]
  have hf := fpI (s := s) (a := a) (x := x) (ci := ci) (k := k) (by rw [hft]; decide)
  rw [hft] at hf
  exact W_putf (s' := pI s a k x) hC hR hk hn hw hd (by rw [ht]; exact ⟨rfl, rfl⟩) rfl rfl pI_o hf (okS_hd hO) hl (fun H1 locs1 hR1 hl1 => K n0 k0 g1 g2 p e R s0 m args below meth c H1 locs1 ls hC hc hs hL (okS_tl (okS_tl hO)) hR1 hl1)
theorem rf_ft {ci k : Nat} (h : isRf (tyCl ci k) = true) : ft ci k = 2 := by
  unfold ft
  generalize tyCl ci k = t at h ⊢
  cases t <;> first | rfl | (cases h; done)
theorem V_putR {a x : Int} {idx : Nat} {host : String} (ci k : Nat) (hn : k < nf ci) (ht : isRf (tyCl ci k) = true) (hw : pW M idx ci k host) (hd : decode M.2.1 pc = .ok (.putfield idx, 3)) (K : VQ QQ G l M (pc + 3) lv st (pR s a k x) X) : VQ QQ G l M pc lv ((2, x) :: (2, a) :: st) s (grd (isK s (10 + ci) a) X) := by
  refine V_grd fun hk => ?_
  intro r s' hX
  obtain ⟨h1, h2, K⟩ := K r s' hX
  refine ⟨h1, h2, fun n0 k0 g1 g2 p e R s0 m args below meth c H locs ls hC hc hs hL hO hR hl => ?_⟩
  exact W_putf (s' := pR s a k x) hC hR hk hn hw hd (rf_put ht) rfl rfl pR_o (fpR (rf_ft ht)) trivial hl (fun H1 locs1 hR1 hl1 => K n0 k0 g1 g2 p e R s0 m args below meth c H1 locs1 ls hC hc hs hL (okS_tl (okS_tl hO)) hR1 hl1)
end VHEAP
