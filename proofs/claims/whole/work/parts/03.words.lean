/-! the words that a callee may be handed: those of the tables that stay true as the machine warms -/
def TW : List Cond := lw_tbl.filter goodWord
theorem tw_of {w : Cond} (i : Nat) (h : lw_tbl[i]? = some w) (g : goodWord w = true) : w ∈ TW := List.mem_filter.mpr ⟨List.mem_of_getElem? h, g⟩
abbrev vwCl : List vw_C := [(RX0, TX0, 5), (RX1, TX1, 3), (RX2, TX2, 2), (RX3, TX3, 4), (RX4, TX4, 7), (RX5, TX5, 3), (RX6, TX6, 4), (RX7, TX7, 3), (RX8, TX8, 6), (RX9, TX9, 14), (RX10, TX10, 3), (RX11, TX11, 16), (RX12, TX12, 21), (RX13, TX13, 33)]
def tyCl (ci k : Nat) : FieldType := match ci with
  | 0 => tyX0 k | 1 => tyX1 k | 2 => tyX2 k | 3 => tyX3 k | 4 => tyX4 k | 5 => tyX5 k | 6 => tyX6 k | 7 => tyX7 k | 8 => tyX8 k | 9 => tyX9 k | 10 => tyX10 k | 11 => tyX11 k | 12 => tyX12 k | _ => tyX13 k
theorem vwCl_ty : ∀ ci, ci < 14 → ∀ k, k < ((vwCl[ci]?).map (·.2.2)).getD 0 → ((vwCl[ci]?).map (fun q => parseFieldDescriptor (q.2.1 k).2.2.1)) = some (some (tyCl ci k)) := by decide +kernel
theorem vwCl_nm : ∀ ci, ci < 14 → ∀ a, a < ((vwCl[ci]?).map (·.2.2)).getD 0 → ∀ b, b < ((vwCl[ci]?).map (·.2.2)).getD 0 → a ≠ b → ((vwCl[ci]?).map (fun q => (q.2.1 a).2.1)) ≠ ((vwCl[ci]?).map (fun q => (q.2.1 b).2.1)) := by decide +kernel
theorem vwCl_in : ∀ ci, ci < 14 → ∀ k, k < ((vwCl[ci]?).map (·.2.2)).getD 0 → ((vwCl[ci]?).map (fun q => decide (u_lay q.1 q.2.1 k ∈ lw_tbl) && goodWord (u_lay q.1 q.2.1 k))) = some true := by decide +kernel
/-- words of the tables, by the gaps between their places -/
def walkI : List (Nat × Cond) → List Cond → Bool
  | [], _ => true
  | q :: r, ts => match ts.drop q.1 with
    | t :: ts' => decide (t = q.2) && walkI r ts'
    | [] => false
theorem walkI_in : ∀ (L : List (Nat × Cond)) (ts : List Cond), walkI L ts = true → ∀ q ∈ L, q.2 ∈ ts
  | [], _, _, _, h => absurd h List.not_mem_nil
  | q :: r, ts, h, p, hp => by
    unfold walkI at h
    cases hd : ts.drop q.1 with
    | nil => rw [hd] at h; cases h
    | cons t ts' =>
      rw [hd] at h
      simp only [Bool.and_eq_true, decide_eq_true_eq] at h
      have hs : ∀ w ∈ t :: ts', w ∈ ts := fun w hw => List.mem_of_mem_drop (by rw [hd]; exact hw)
      rcases List.mem_cons.mp hp with rfl | hp
      · rw [← h.1]; exact hs _ List.mem_cons_self
      · exact hs _ (List.mem_cons_of_mem _ (walkI_in r ts' h.2 p hp))
theorem walk_tw {L : List (Nat × Cond)} (h : walkI L lw_tbl = true) (g : L.all (fun q => goodWord q.2) = true) {i g0 : Nat} {w : Cond} (hi : L[i]? = some (g0, w)) : w ∈ TW :=
  List.mem_filter.mpr ⟨walkI_in L lw_tbl h _ (List.mem_of_getElem? hi), List.all_eq_true.mp g _ (List.mem_of_getElem? hi)⟩
