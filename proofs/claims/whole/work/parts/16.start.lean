/-! what the pure picture needs at the law's start, out of the Statement's words; the law's walk over it -/
def knW : List Cond := vwCl.map (fun q => Cond.instantiable q.1 q.2.2) ++ vwCl.flatMap (fun q => u_ws q.1 q.2.1 q.2.2) ++ [.arrayClass .int, .arrayClass .byte, .arrayClass .long, .arrayOver (.object "SeanceStreet$State"), .laysStatic "java/lang/String" "COMPACT_STRINGS" "Z", .initialized "java/lang/String", .laysStatic "jdk/internal/util/Preconditions" "SIOOBE_FORMATTER" "Ljava/util/function/BiFunction;", .initialized "jdk/internal/util/Preconditions", .laysStatic Bundle.tN "UNASSIGNED_STACK" Bundle.steD, .laysStatic Bundle.tN "SUPPRESSED_SENTINEL" Bundle.listD, .initialized Bundle.tN]
theorem knW_in : knW.all (fun w => decide (w ∈ lw_tbl)) = true := by decide +kernel
theorem knw {w : Cond} (h : w ∈ knW) : w ∈ lw_tbl := of_decide_eq_true (List.all_eq_true.mp knW_in w h)
abbrev strT (r : String × Nat × String × List Nat) : Term := .string r.1 r.2.1
abbrev strV (r : String × Nat × String × List Nat) : Term := .field (strT r) "java/lang/String" "value" "[B"
def strW (r : String × Nat × String × List Nat) : List Cond := [.exactly (strT r) "java/lang/String", .eq (.field (strT r) "java/lang/String" "coder" "B") (.int 0), .arrayOf (strV r) .byte, .eq (.length (strV r)) (.int (Int32.ofNat r.2.2.2.length))] ++ (List.range r.2.2.2.length).map (fun j => .eq (.elem (strV r) (.int (Int32.ofNat j))) (.int (nI (r.2.2.2.getD j 0))))
def nrW : List Cond := flatC (Jvm.Cond.and given_1 narrow_1)
/-- the one list's words stand in the other's order in the other -/
def subq : List Cond → List Cond → Bool
  | [], _ => true
  | _ :: _, [] => false
  | w :: ws, v :: vs => if w = v then subq ws vs else subq (w :: ws) vs
theorem subq_in : ∀ (B L : List Cond), subq L B = true → ∀ w ∈ L, w ∈ B
  | _, [], _, w, h => by cases h
  | [], _ :: _, h, _, _ => by cases h
  | v :: vs, u :: us, h, w, hw => by
    unfold subq at h
    by_cases e : u = v
    · rw [if_pos e] at h
      rcases List.mem_cons.mp hw with rfl | hw
      · rw [e]; exact List.mem_cons_self
      · exact List.mem_cons_of_mem _ (subq_in vs us h w hw)
    · rw [if_neg e] at h
      exact List.mem_cons_of_mem _ (subq_in vs (u :: us) h w hw)
def STRT : List (String × Nat × String × List Nat) := [0, 3, 4, 5, 6, 7, 1, 2, 8, 9, 10, 11, 12, 13, 14, 15, 16, 17, 18, 19, 20, 21, 22, 23, 24, 25, 26, 27, 28, 29, 30, 31, 32].filterMap (fun i : Nat => STRS[i]?)
theorem strT_in : STRS.all (fun r => decide (r ∈ STRT)) = true := by decide +kernel
theorem strT_m {r : String × Nat × String × List Nat} (h : r ∈ STRS) : r ∈ STRT := of_decide_eq_true (List.all_eq_true.mp strT_in r h)
theorem strW_w : subq (STRT.flatMap strW) nrW = true := by decide +kernel
theorem strW_r : subq (STRT.map (fun r => Cond.stringRef r.1 r.2.1 r.2.2.1)) lw_tbl = true := by decide +kernel
theorem strW_n : STRS.all (fun r => Nat.blt r.2.2.2.length 2147483648) = true := by decide +kernel
def nrL : List Cond := [.eq (.static "java/lang/String" "COMPACT_STRINGS" "Z") (.int 1), .isRef (.static "jdk/internal/util/Preconditions" "SIOOBE_FORMATTER" "Ljava/util/function/BiFunction;"), .isRef (.static Bundle.tN "UNASSIGNED_STACK" Bundle.steD), .isRef (.static Bundle.tN "SUPPRESSED_SENTINEL" Bundle.listD)]
theorem nrL_in : nrL.all (fun w => decide (w ∈ nrW)) = true := by decide +kernel
def st0 : St := ((0, 0), fun _ => (0, 0), fun _ _ => 0, fun _ _ => 0)
theorem rel0 {G : Gx} {H : Heap} (h1 : G.1 = H.size) (h2 : G.2.2.2.1 = H) : Rel G st0 H := by
  refine ⟨by rw [h1]; rfl, by rw [h1, h2], fun q _ => by rw [h2], by decide, fun a => ?_⟩
  exact ⟨fun h => (by cases h), fun h => (by cases h), fun h => (by cases h), fun h => (by cases h), fun ci h => by
    have h : (0 : Nat) = 10 + ci := h
    omega⟩
theorem strs_of {s : State} {args : Array Value} {A : Nat → Prop} (hts : ∀ w ∈ lw_tbl, w.before args s = true) (hnr : ∀ w ∈ nrW, w.before args s = true) (hA : ∀ a : Nat, a < s.heap.size → ¬ A a) (r : String × Nat × String × List Nat) (hr : r ∈ STRS) :
    ∃ q : Nat × Nat, vk_R r.1 r.2.1 r.2.2.1 q.1 s ∧ va_O "java/lang/String" q.1 A s s.heap ∧ va_OF "java/lang/String" "coder" "B" (.int 0) q.1 A s s.heap ∧ va_OF "java/lang/String" "value" "[B" (.ref q.2) q.1 A s s.heap ∧ va_T .byte q.2 r.2.2.2.length (fun j => .int (nI (r.2.2.2.getD j 0))) A s s.heap := by
  have h2 : Cond.stringRef r.1 r.2.1 r.2.2.1 ∈ lw_tbl := subq_in _ _ strW_r _ (List.mem_map.mpr ⟨r, strT_m hr, rfl⟩)
  have h3 : r.2.2.2.length < 2 ^ 31 := Nat.le_of_ble_eq_true (List.all_eq_true.mp strW_n r hr)
  have hw : ∀ w ∈ strW r, w.before args s = true := fun w hw => hnr w (subq_in _ _ strW_w w (List.mem_flatMap.mpr ⟨r, strT_m hr, hw⟩))
  have w1 := hw (.exactly (strT r) "java/lang/String") (by unfold strW; simp)
  have w2 := hw (.eq (.field (strT r) "java/lang/String" "coder" "B") (.int 0)) (by unfold strW; simp)
  have w3 := hw (.arrayOf (strV r) .byte) (by unfold strW; simp)
  have w4 := hw (.eq (.length (strV r)) (.int (Int32.ofNat r.2.2.2.length))) (by unfold strW; simp)
  have w5 : ∀ j, j < r.2.2.2.length → (Cond.eq (.elem (strV r) (.int (Int32.ofNat j))) (.int (nI (r.2.2.2.getD j 0)))).before args s = true := fun j hj => hw _ (by
    unfold strW
    exact List.mem_append_right _ (List.mem_map.mpr ⟨j, List.mem_range.mpr hj, rfl⟩))
  obtain ⟨a, c, cA, kA, q1, q2, q3, q4, q5, q6, -⟩ := Cond.exactly_spec (args := args) (first := s) (o := none) (s := s) (idx := []) (t := strT r) (cls := "java/lang/String") w1
  obtain ⟨t, ht, hT⟩ := va_Tof (f := fun j => .int (nI (r.2.2.2.getD j 0))) (A := A) h3 w3 (va_eqt w4) (fun j hj => va_eqt (w5 j hj)) hA
  exact ⟨(a, t), vk_R.of (hts _ h2) q1, ⟨cA, q3, q5, by rw [q6]; exact q2, hA a (Array.getElem?_eq_some_iff.mp q3).1⟩, vk_OFof q1 (va_eqt w2) hA, vk_OFof q1 ht hA, hT⟩
theorem arr_of {s : State} {args : Array Value} {ty : FieldType} (h : (Cond.arrayClass ty).before args s = true) (hty : ∀ C, ty ≠ .object C) : ∃ cA : ClassId, ArrOfT s cA ty ∧ va_RA s cA ty := by
  obtain ⟨c, k, comp, h1, h2, h3⟩ := Cond.arrayClass_spec (args := args) (first := s) (o := none) (s := s) (idx := []) h
  refine ⟨c, fun n z => ⟨fun k h => (by cases h), k, h2, comp, h3⟩, ?_⟩
  cases ty <;> first | exact h1 | exact absurd rfl (hty _)
theorem kn_start {s : State} {b L : Nat} {xs : Nat → Int32} (hL : L ≤ 3072) (hts : ∀ w ∈ lw_tbl, w.before #[Value.ref b] s = true) (hX : va_X b L xs s s.heap) (hgv : (Jvm.Cond.and given_1 narrow_1).before #[Value.ref b] s = true) :
    ∃ G : Gx, KN G s ∧ G.1 = s.heap.size ∧ G.2.2.2.1 = s.heap ∧ G.2.2.2.2.1 2000 = b ∧ G.2.2.2.2.2.2 = (L, fun j => (xs j).toInt) := by
  have hnr : ∀ w ∈ nrW, w.before #[Value.ref b] s = true := flat_of_before _ hgv
  have hnl : ∀ w ∈ nrL, w.before #[Value.ref b] s = true := fun w hw => hnr w (of_decide_eq_true (List.all_eq_true.mp nrL_in w hw))
  have hkw : ∀ w ∈ knW, w.before #[Value.ref b] s = true := fun w hw => hts w (knw hw)
  have hA : ∀ a : Nat, a < s.heap.size → ¬ s.heap.size ≤ a := fun a h1 h2 => by omega
  have hcl : ∀ ci : Nat, ∃ q : ClassId × (Nat → Nat), ∀ r, vwCl[ci]? = some r → u_Kn s r.1 r.2.1 r.2.2 q.1 q.2 := by
    intro ci
    cases hr : vwCl[ci]? with
    | none => exact ⟨(0, fun _ => 0), fun r h => by cases h⟩
    | some r =>
      have hm := List.mem_of_getElem? hr
      obtain ⟨c, iS, h⟩ := u_known (C := r.1) (T := r.2.1) (N := r.2.2) (n := r.2.2) hts (fun w hw => knw (List.mem_append_left _ (List.mem_append_right _ (List.mem_flatMap.mpr ⟨r, hm, hw⟩)))) (hts _ (knw (List.mem_append_left _ (List.mem_append_left _ (List.mem_map.mpr ⟨r, hm, rfl⟩)))))
      exact ⟨(c, iS), fun r' h' => by cases h'; exact h⟩
  obtain ⟨cl, hcl⟩ := Classical.axiomOfChoice hcl
  obtain ⟨c1, hc1⟩ := arr_of (ty := .int) (hkw _ (by unfold knW; simp)) (fun C h => by cases h)
  obtain ⟨c2, hc2⟩ := arr_of (ty := .byte) (hkw _ (by unfold knW; simp)) (fun C h => by cases h)
  obtain ⟨c3, hc3⟩ := arr_of (ty := .long) (hkw _ (by unfold knW; simp)) (fun C h => by cases h)
  have hao : va_AO "SeanceStreet$State" s := va_AO.of (hkw _ (by unfold knW; simp))
  obtain ⟨comp, c4, k4, o1, -, o2, o3, o4⟩ := Cond.arrayOver_spec (args := #[]) (first := s) (o := none) (s := s) (idx := []) hao
  have hst : ∀ i : Nat, ∃ q : Nat × Nat, ∀ r, STRS[i]? = some r → vk_R r.1 r.2.1 r.2.2.1 q.1 s ∧ va_O "java/lang/String" q.1 (fun q => s.heap.size ≤ q) s s.heap ∧ va_OF "java/lang/String" "coder" "B" (.int 0) q.1 (fun q => s.heap.size ≤ q) s s.heap ∧ va_OF "java/lang/String" "value" "[B" (.ref q.2) q.1 (fun q => s.heap.size ≤ q) s s.heap ∧ va_T .byte q.2 r.2.2.2.length (fun j => .int (nI (r.2.2.2.getD j 0))) (fun q => s.heap.size ≤ q) s s.heap := by
    intro i
    cases hr : STRS[i]? with
    | none => exact ⟨(0, 0), fun r h => by cases h⟩
    | some r =>
      obtain ⟨q, h⟩ := strs_of (A := fun q => s.heap.size ≤ q) hts hnr hA r (List.mem_of_getElem? hr)
      exact ⟨q, fun r' h' => by cases h'; exact h⟩
  obtain ⟨ad, had⟩ := Classical.axiomOfChoice hst
  have hfz : ∃ v : Value, va_Z "jdk/internal/util/Preconditions" "SIOOBE_FORMATTER" "Ljava/util/function/BiFunction;" v (fun q => s.heap.size ≤ q) s s.heap ∧ v.isRef = true := by
    obtain ⟨v, hv, hvr⟩ := Cond.isRef_spec (hnl (.isRef (.static "jdk/internal/util/Preconditions" "SIOOBE_FORMATTER" "Ljava/util/function/BiFunction;")) (by unfold nrL; simp))
    exact ⟨v, va_Zof (hkw _ (by unfold knW; simp)) (hkw _ (by unfold knW; simp)) hv hA, hvr⟩
  obtain ⟨vf, hvf, hvr⟩ := hfz
  have hz1 := va_Zof (A := fun q => s.heap.size ≤ q) (hkw (.laysStatic "java/lang/String" "COMPACT_STRINGS" "Z") (by unfold knW; simp)) (hkw _ (by unfold knW; simp)) (va_eqt (hnl (.eq (.static "java/lang/String" "COMPACT_STRINGS" "Z") (.int 1)) (by unfold nrL; simp))) hA
  have hu := vx_Zqof (A := fun q => s.heap.size ≤ q) (hkw (.laysStatic Bundle.tN "UNASSIGNED_STACK" Bundle.steD) (by unfold knW; simp)) (hkw _ (by unfold knW; simp)) (hnl _ (by unfold nrL; simp)) hA
  have hu2 := vx_Zqof (A := fun q => s.heap.size ≤ q) (hkw (.laysStatic Bundle.tN "SUPPRESSED_SENTINEL" Bundle.listD) (by unfold knW; simp)) (hkw _ (by unfold knW; simp)) (hnl _ (by unfold nrL; simp)) hA
  obtain ⟨scr, x1, x2, x3, x4, x5⟩ := hX
  let fa : Nat := match vf with | .ref a => a | _ => 0
  let G : Gx := (s.heap.size, (fun ci => (cl ci).1, fun ci k => (cl ci).2 k), (fun k => if k = 1 then c1 else if k = 2 then c2 else if k = 3 then c3 else c4), s.heap, (fun i => if i < 1000 then (ad i).1 else if i < 2000 then (ad (i - 1000)).2 else if i = 2000 then b else fa), (fun i => (ad i).2), L, fun j => (xs j).toInt)
  refine ⟨G, ⟨⟨fun ci q hq => hcl ci q hq, fun k q hk => ?_⟩, fun w hw => ?_, hao, ⟨fun i q hq => ?_, hz1⟩, ?_, ⟨scr, x1, x2, x3, x4, Nat.le_trans hL (by decide), fun j hj => ⟨?_, ok_i32 _⟩⟩, ⟨hu, hu2, fun w hw => ?_⟩, fun i hi => ?_⟩, rfl, rfl, rfl, rfl⟩
  · match k, hk with
    | 0, hk => cases hk; exact hc1
    | 1, hk => cases hk; exact hc2
    | 2, hk => cases hk; exact hc3
    | 3, hk => cases hk; exact ⟨fun n z => ⟨fun k h => (by cases h), k4, o2, comp, o3⟩, k4, comp, o2, o3, o1, o4⟩
    | k + 4, hk => cases hk
  · have h1 := List.mem_filter.mp hw
    have h2 := hts w h1.1
    have h9 := h1.2
    cases w <;> first | exact h2 | (simp at h9; done)
  · have hi : i < 33 := (List.getElem?_eq_some_iff.mp hq).1
    have e1 : G.2.2.2.2.1 i = (ad i).1 := by
      show (if i < 1000 then _ else _) = _
      rw [if_pos (by omega)]
    rw [e1]
    exact had i q hq
  · cases vf with
    | null =>
      refine ⟨-1, ?_⟩
      have e1 : mkR G (-1) = .null := by
        unfold mkR
        rw [if_pos (by decide)]
      rw [e1]
      exact hvf
    | ref a =>
      refine ⟨1003000, ?_⟩
      have e1 : mkR G 1003000 = .ref a := by
        unfold mkR
        rw [if_neg (by decide), if_neg (by decide)]
        rfl
      rw [e1]
      exact hvf
    | _ => cases hvr
  · show scr.slots[j]? = some (.int (Int32.ofInt (xs j).toInt))
    rw [Int32.ofInt_toInt]
    exact x5 j hj
  · have h1 := List.mem_filter.mp hw
    have h2 := hts w h1.1
    have h9 := h1.2
    cases w
    case castable a c => exact h2
    case declares a => exact h2
    all_goals cases h9
  · show (if 1000 + i < 1000 then _ else if 1000 + i < 2000 then (ad (1000 + i - 1000)).2 else _) = (ad i).2
    rw [if_neg (by omega), if_pos (by omega), Nat.add_sub_cancel_left]
