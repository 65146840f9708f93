/-! rows of V: System.arraycopy of int[], String.length and charAt of constants -/
def isNest : Cond → Bool
  | .fieldLinkNest .. => true
  | .methodLinkNest .. => true
  | _ => false
theorem nw_of {w : Cond} (i : Nat) (h : lw_tbl[i]? = some w) (g : isNest w = true) : w ∈ NW := by
  refine List.mem_filter.mpr ⟨List.mem_of_getElem? h, ?_⟩
  cases w <;> first | rfl | (cases g; done)
theorem walk_nw {L : List (Nat × Cond)} (h : walkI L lw_tbl = true) (g : L.all (fun q => isNest q.2) = true) {i g0 : Nat} {w : Cond} (hi : L[i]? = some (g0, w)) : w ∈ NW := by
  obtain ⟨j, hj⟩ := List.getElem?_of_mem (walkI_in L lw_tbl h _ (List.mem_of_getElem? hi))
  exact nw_of j hj (List.all_eq_true.mp g _ (List.mem_of_getElem? hi))
theorem nl0 (x : Int) : ((0, x) : PV).1 ≠ 1 := fun h => by cases h
theorem nl2 (x : Int) : ((2, x) : PV).1 ≠ 1 := fun h => by cases h
def cpy (s : St) (src sp dst dp n : Int) : St := (s.1, s.2.1, s.2.2.1, fun b j => if b = dst.toNat ∧ dp.toNat ≤ j ∧ j < dp.toNat + n.toNat then s.2.2.2 src.toNat (sp.toNat + (j - dp.toNat)) else s.2.2.2 b j)
abbrev cpyOK (s : St) (src sp dst dp n : Int) : Prop := isK s 1 src ∧ isK s 1 dst ∧ src ≠ dst ∧ 0 ≤ sp ∧ 0 ≤ dp ∧ 0 ≤ n ∧ sp + n ≤ ln s src ∧ dp + n ≤ ln s dst
def strD (x : Int) : List Nat := ((STRS[(x - 1000000).toNat]?).map (·.2.2.2)).getD []
def strLen (x : Int) : Int := (strD x).length
def strAt (x i : Int) : Int := (((strD x).getD i.toNat 0 : Nat) : Int)
abbrev isStr (x : Int) : Prop := 1000000 ≤ x ∧ x < 1000033
section VLIB
variable {G : Gx} {l : Launch} {M : MI} {pc : Nat} {lv : List (Nat × PV)} {st : List PV} {s : St} {X : Rs}
theorem V_copy {idx : Nat} {src sp dst dp n : Int} (h1 : Cond.methodLink M.1.cls idx arraycopyName ∈ TW) (hd : decode M.2.1 pc = .ok (.invokestatic idx, 3)) (K : V G l M (pc + 3) lv st (cpy s src sp dst dp n) X) : V G l M pc lv ((0, n) :: (0, dp) :: (2, dst) :: (0, sp) :: (2, src) :: st) s (grd (cpyOK s src sp dst dp n) X) := sorry
theorem V_strLen {idx : Nat} {x : Int} (h1 : Cond.methodLink M.1.cls idx yJ0_length_8abf5 ∈ TW) (hr : 4 ≤ M.2.2.2.2.1) (hr2 : 100 ≤ M.2.2.2.2.2) (hd : decode M.2.1 pc = .ok (.invokevirtual idx, 3)) (K : V G l M (pc + 3) lv ((0, strLen x) :: st) s X) : V G l M pc lv ((2, x) :: st) s (grd (isStr x) X) := sorry
theorem V_strAt {idx : Nat} {x i : Int} (h1 : Cond.methodLink M.1.cls idx yJ0_charAt_5068e ∈ TW) (hr : 4 ≤ M.2.2.2.2.1) (hr2 : 100 ≤ M.2.2.2.2.2) (hd : decode M.2.1 pc = .ok (.invokevirtual idx, 3)) (K : V G l M (pc + 3) lv ((0, strAt x i) :: st) s X) : V G l M pc lv ((0, i) :: (2, x) :: st) s (grd (isStr x ∧ 0 ≤ i ∧ i < strLen x) X) := sorry
end VLIB
