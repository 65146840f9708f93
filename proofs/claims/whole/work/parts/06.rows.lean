theorem okS_cons {v : PV} {st : List PV} (h : okv v) (h2 : okS st) : okS (v :: st) := fun w hw => by
  rcases List.mem_cons.mp hw with rfl | hw
  · exact h
  · exact h2 w hw
theorem okS_tl {v : PV} {st : List PV} (h : okS (v :: st)) : okS st := fun w hw => h w (List.mem_cons_of_mem _ hw)
theorem okS_hd {v : PV} {st : List PV} (h : okS (v :: st)) : okv v := h v List.mem_cons_self
theorem LX.at {G : Gx} {n : Nat} {lv : List (Nat × PV)} {ls : Array Slot} (h : LX G n lv ls) (j : Nat) {i : Nat} {v : PV} (hj : lv[j]? = some (i, v)) : ls[i]? = some (.val (mv G v)) ∧ okv v := by
  refine ⟨lv_at h.1 j (i := i) (v := mv G v) ?_, h.2 (i, v) (List.mem_of_getElem? hj)⟩
  unfold lvm
  rw [List.getElem?_map, hj]
  rfl
/-- the locals behind a store of one slot, of two -/
def stL (lv : List (Nat × PV)) (i : Nat) (v : PV) : List (Nat × PV) := (i, v) :: lv.filter (fun q => !(q.1 == i) && !(q.1 + 1 == i && q.2.1 == 1))
def stL2 (lv : List (Nat × PV)) (i : Nat) (v : PV) : List (Nat × PV) := (i, v) :: lv.filter (fun q => !(q.1 == i) && (!(q.1 == i + 1) && !(q.1 + 1 == i && q.2.1 == 1)))
theorem cat_beq (G : Gx) (v : PV) : ((mv G v).category == 2) = (v.1 == 1) := by
  rw [mv_cat]
  by_cases h : v.1 = 1
  · rw [if_pos h, h]; rfl
  · rw [if_neg h]
    have : (v.1 == 1) = false := by simpa using h
    rw [this]; rfl
theorem stL_map (G : Gx) (lv : List (Nat × PV)) (i : Nat) (v : PV) : (i, mv G v) :: (lvm G lv).filter (fun q => !(q.1 == i) && !(q.1 + 1 == i && q.2.category == 2)) = lvm G (stL lv i v) := by
  unfold lvm stL
  rw [List.map_cons, List.filter_map]
  congr 3
  funext q
  show (!(q.1 == i) && !(q.1 + 1 == i && (mv G q.2).category == 2)) = _
  rw [cat_beq]
theorem stL2_map (G : Gx) (lv : List (Nat × PV)) (i : Nat) (v : PV) : (i, mv G v) :: (lvm G lv).filter (fun q => !(q.1 == i) && (!(q.1 == i + 1) && !(q.1 + 1 == i && q.2.category == 2))) = lvm G (stL2 lv i v) := by
  unfold lvm stL2
  rw [List.map_cons, List.filter_map]
  congr 3
  funext q
  show (!(q.1 == i) && (!(q.1 == i + 1) && !(q.1 + 1 == i && (mv G q.2).category == 2))) = _
  rw [cat_beq]
theorem LX.st {G : Gx} {n : Nat} {lv : List (Nat × PV)} {ls ls' : Array Slot} {i : Nat} {v : PV} (h : LX G n lv ls) (hv : okv v) (h' : lv_has ls' n (lvm G (stL lv i v))) : LX G n (stL lv i v) ls' := by
  refine ⟨h', fun q hq => ?_⟩
  rcases List.mem_cons.mp hq with rfl | hq
  · exact hv
  · exact h.2 q (List.mem_filter.mp hq).1
theorem LX.st2 {G : Gx} {n : Nat} {lv : List (Nat × PV)} {ls ls' : Array Slot} {i : Nat} {v : PV} (h : LX G n lv ls) (hv : okv v) (h' : lv_has ls' n (lvm G (stL2 lv i v))) : LX G n (stL2 lv i v) ls' := by
  refine ⟨h', fun q hq => ?_⟩
  rcases List.mem_cons.mp hq with rfl | hq
  · exact hv
  · exact h.2 q (List.mem_filter.mp hq).1
def pick (lv : List (Nat × PV)) (ks : List Nat) : List (Nat × PV) := ks.filterMap (fun k => lv[k]?)
theorem LX.pick {G : Gx} {n : Nat} {lv lv' : List (Nat × PV)} {ls : Array Slot} (h : LX G n lv ls) (ks : List Nat) (hp : pick lv ks = lv') : LX G n lv' ls := by
  subst hp
  refine ⟨⟨h.1.1, h.1.2.1, fun q hq => ?_⟩, fun q hq => ?_⟩
  · obtain ⟨q', hq', rfl⟩ := List.mem_map.mp hq
    obtain ⟨k, -, hk⟩ := List.mem_filterMap.mp hq'
    exact (h.at k (i := q'.1) (v := q'.2) hk).1
  · obtain ⟨k, -, hk⟩ := List.mem_filterMap.mp hq
    exact h.2 q (List.mem_of_getElem? hk)
section VROWS
variable {QQ : QT} {G : Gx} {l : Launch} {M : MI} {pc : Nat} {lv : List (Nat × PV)} {st : List PV} {s : St} {X : Rs}
theorem V_none : VQ QQ G l M pc lv st s none := fun r s' h => by cases h
theorem V_pick (ks : List Nat) {lv' : List (Nat × PV)} (hp : pick lv ks = lv') (K : VQ QQ G l M pc lv' st s X) : VQ QQ G l M pc lv st s X := by
  intro r s' hX
  obtain ⟨h1, h2, K⟩ := K r s' hX
  refine ⟨h1, h2, fun n0 k0 g1 g2 p e R s0 m args below meth c H locs ls hC hc hs hL hO hR hl => ?_⟩
  have hK := K n0 k0 g1 g2 p e R s0 m args below meth c H locs
  exact hK ls hC hc hs (hL.pick ks hp) hO hR hl
theorem V_grd {c0 : Prop} [Decidable c0] (K : c0 → VQ QQ G l M pc lv st s X) : VQ QQ G l M pc lv st s (grd c0 X) := by
  intro r s' hX
  unfold grd at hX
  by_cases h : c0
  · rw [if_pos h] at hX
    exact K h r s' hX
  · rw [if_neg h] at hX
    cases hX
def n32 (n : Int) : Bool := decide (-2147483648 ≤ n) && decide (n ≤ 2147483647)
theorem n32_ok {n : Int} (h : n32 n = true) : ok32 n := by
  unfold n32 at h
  simp only [Bool.and_eq_true, decide_eq_true_eq] at h
  exact h
def n64 (n : Int) : Bool := decide (-9223372036854775808 ≤ n) && decide (n ≤ 9223372036854775807)
theorem n64_ok {n : Int} (h : n64 n = true) : ok64 n := by
  unfold n64 at h
  simp only [Bool.and_eq_true, decide_eq_true_eq] at h
  exact h
def n8 (n : Int) : Bool := decide (-128 ≤ n) && decide (n ≤ 127)
theorem n8_ok {n : Int} (h : n8 n = true) : ok8 n := by
  unfold n8 at h
  simp only [Bool.and_eq_true, decide_eq_true_eq] at h
  exact h
def n16 (n : Int) : Bool := decide (-32768 ≤ n) && decide (n ≤ 32767)
theorem n16_ok {n : Int} (h : n16 n = true) : -32768 ≤ n ∧ n ≤ 32767 := by
  unfold n16 at h
  simp only [Bool.and_eq_true, decide_eq_true_eq] at h
  exact h

theorem V_iconst {n : Int} (hd : decode M.2.1 pc = .ok (.iconst n, 1)) (hn : n32 n = true) (K : VQ QQ G l M (pc + 1) lv ((0, n) :: st) s X) : VQ QQ G l M pc lv st s X := by
  intro r s' hX
  obtain ⟨h1, h2, K⟩ := K r s' hX
  refine ⟨h1, h2, fun n0 k0 g1 g2 p e R s0 m args below meth c H locs ls hC hc hs hL hO hR hl => ?_⟩
  have hK := K n0 k0 g1 g2 p e R s0 m args below meth c H locs
  exact lv_iconst hC.1 hC.2.1 hd rfl (hK ls hC hc hs hL (okS_cons (n32_ok hn) hO) hR hl)
theorem V_bipush {n : Int} (hd : decode M.2.1 pc = .ok (.bipush n, 2)) (hn : n8 n = true) (K : VQ QQ G l M (pc + 2) lv ((0, n) :: st) s X) : VQ QQ G l M pc lv st s X := by
  intro r s' hX
  obtain ⟨h1, h2, K⟩ := K r s' hX
  refine ⟨h1, h2, fun n0 k0 g1 g2 p e R s0 m args below meth c H locs ls hC hc hs hL hO hR hl => ?_⟩
  have hK := K n0 k0 g1 g2 p e R s0 m args below meth c H locs
  exact lv_bipush hC.1 hC.2.1 hd (bip8 (n8_ok hn)) (hK ls hC hc hs hL (okS_cons (ok8_32 (n8_ok hn)) hO) hR hl)
theorem V_sipush {n : Int} (hd : decode M.2.1 pc = .ok (.sipush n, 3)) (hn : n16 n = true) (K : VQ QQ G l M (pc + 3) lv ((0, n) :: st) s X) : VQ QQ G l M pc lv st s X := by
  intro r s' hX
  obtain ⟨h1, h2, K⟩ := K r s' hX
  refine ⟨h1, h2, fun n0 k0 g1 g2 p e R s0 m args below meth c H locs ls hC hc hs hL hO hR hl => ?_⟩
  have hK := K n0 k0 g1 g2 p e R s0 m args below meth c H locs
  have h9 := n16_ok hn
  exact lv_sipush hC.1 hC.2.1 hd (sip16 h9) (hK ls hC hc hs hL (okS_cons (show ok32 n by unfold ok32; omega) hO) hR hl)
theorem V_ldc {idx : Nat} {v : Int32} {n : Int} (hw : Cond.constant M.1.cls idx v ∈ TW) (hv : v.toInt = n) (hd : decode M.2.1 pc = .ok (.ldc idx, 2))  (K : VQ QQ G l M (pc + 2) lv ((0, n) :: st) s X) : VQ QQ G l M pc lv st s X := by
  intro r s' hX
  obtain ⟨h1, h2, K⟩ := K r s' hX
  refine ⟨h1, h2, fun n0 k0 g1 g2 p e R s0 m args below meth c H locs ls hC hc hs hL hO hR hl => ?_⟩
  have hK := K n0 k0 g1 g2 p e R s0 m args below meth c H locs
  subst hv
  refine lv_ldc hC.1 hC.2.1 hC.2.2.2.2.1 (hC.2.2.2.2.2.1 _ hw) hd ?_
  have h9 := hK ls hC hc hs hL (okS_cons (v := (0, v.toInt)) (ok_i32 v) hO) hR hl
  simp only [List.map_cons, mv, of_toInt] at h9
  exact h9
theorem V_ldcw {idx : Nat} {v : Int32} {n : Int} (hw : Cond.constant M.1.cls idx v ∈ TW) (hv : v.toInt = n) (hd : decode M.2.1 pc = .ok (.ldc_w idx, 3))  (K : VQ QQ G l M (pc + 3) lv ((0, n) :: st) s X) : VQ QQ G l M pc lv st s X := by
  intro r s' hX
  obtain ⟨h1, h2, K⟩ := K r s' hX
  refine ⟨h1, h2, fun n0 k0 g1 g2 p e R s0 m args below meth c H locs ls hC hc hs hL hO hR hl => ?_⟩
  have hK := K n0 k0 g1 g2 p e R s0 m args below meth c H locs
  subst hv
  refine lv_ldcw hC.1 hC.2.1 hC.2.2.2.2.1 (hC.2.2.2.2.2.1 _ hw) hd ?_
  have h9 := hK ls hC hc hs hL (okS_cons (v := (0, v.toInt)) (ok_i32 v) hO) hR hl
  simp only [List.map_cons, mv, of_toInt] at h9
  exact h9
theorem V_ldc2 {idx : Nat} {v : Int64} {n : Int} (hw : Cond.constantLong M.1.cls idx v ∈ TW) (hv : v.toInt = n) (hd : decode M.2.1 pc = .ok (.ldc2_w idx, 3))  (K : VQ QQ G l M (pc + 3) lv ((1, n) :: st) s X) : VQ QQ G l M pc lv st s X := by
  intro r s' hX
  obtain ⟨h1, h2, K⟩ := K r s' hX
  refine ⟨h1, h2, fun n0 k0 g1 g2 p e R s0 m args below meth c H locs ls hC hc hs hL hO hR hl => ?_⟩
  have hK := K n0 k0 g1 g2 p e R s0 m args below meth c H locs
  subst hv
  refine lv_ldc2 hC.1 hC.2.1 hC.2.2.2.2.1 (hC.2.2.2.2.2.1 _ hw) hd ?_
  have h9 := hK ls hC hc hs hL (okS_cons (v := (1, v.toInt)) (ok_i64 v) hO) hR hl
  simp only [List.map_cons, mv, of_toInt64] at h9
  exact h9
theorem V_lconst {k : Fin 2} {n : Int} (hd : decode M.2.1 pc = .ok (.lconst k, 1)) (hn : n = ((k : Nat) : Int)) (K : VQ QQ G l M (pc + 1) lv ((1, n) :: st) s X) : VQ QQ G l M pc lv st s X := by
  intro r s' hX
  obtain ⟨h1, h2, K⟩ := K r s' hX
  refine ⟨h1, h2, fun n0 k0 g1 g2 p e R s0 m args below meth c H locs ls hC hc hs hL hO hR hl => ?_⟩
  have hK := K n0 k0 g1 g2 p e R s0 m args below meth c H locs
  subst hn
  refine lv_lconst hC.1 hC.2.1 hd rfl ?_
  have h9 := hK ls hC hc hs hL (okS_cons (v := (1, ((k : Nat) : Int))) (show ok64 _ by have := k.isLt; unfold ok64; omega) hO) hR hl
  exact h9
theorem V_iload_n {k : Fin 4} {x : Int} (hd : decode M.2.1 pc = .ok (.iload_n k, 1)) (j : Nat) (hj : lv[j]? = some (k.val, (0, x))) (K : VQ QQ G l M (pc + 1) lv ((0, x) :: st) s X) : VQ QQ G l M pc lv st s X := by
  intro r s' hX
  obtain ⟨h1, h2, K⟩ := K r s' hX
  refine ⟨h1, h2, fun n0 k0 g1 g2 p e R s0 m args below meth c H locs ls hC hc hs hL hO hR hl => ?_⟩
  have hK := K n0 k0 g1 g2 p e R s0 m args below meth c H locs
  obtain ⟨q1, q2⟩ := hL.at j hj
  exact lv_iload_n hC.1 hC.2.1 hd rfl q1 (hK ls hC hc hs hL (okS_cons q2 hO) hR hl)
theorem V_iload {i : Nat} {x : Int} (hd : decode M.2.1 pc = .ok (.iload i, 2)) (j : Nat) (hj : lv[j]? = some (i, (0, x))) (K : VQ QQ G l M (pc + 2) lv ((0, x) :: st) s X) : VQ QQ G l M pc lv st s X := by
  intro r s' hX
  obtain ⟨h1, h2, K⟩ := K r s' hX
  refine ⟨h1, h2, fun n0 k0 g1 g2 p e R s0 m args below meth c H locs ls hC hc hs hL hO hR hl => ?_⟩
  have hK := K n0 k0 g1 g2 p e R s0 m args below meth c H locs
  obtain ⟨q1, q2⟩ := hL.at j hj
  exact lv_iload hC.1 hC.2.1 hd q1 (hK ls hC hc hs hL (okS_cons q2 hO) hR hl)
theorem V_lload_n {k : Fin 4} {x : Int} (hd : decode M.2.1 pc = .ok (.lload_n k, 1)) (j : Nat) (hj : lv[j]? = some (k.val, (1, x))) (K : VQ QQ G l M (pc + 1) lv ((1, x) :: st) s X) : VQ QQ G l M pc lv st s X := by
  intro r s' hX
  obtain ⟨h1, h2, K⟩ := K r s' hX
  refine ⟨h1, h2, fun n0 k0 g1 g2 p e R s0 m args below meth c H locs ls hC hc hs hL hO hR hl => ?_⟩
  have hK := K n0 k0 g1 g2 p e R s0 m args below meth c H locs
  obtain ⟨q1, q2⟩ := hL.at j hj
  exact lv_lload_n hC.1 hC.2.1 hd rfl q1 (hK ls hC hc hs hL (okS_cons q2 hO) hR hl)
theorem V_lload {i : Nat} {x : Int} (hd : decode M.2.1 pc = .ok (.lload i, 2)) (j : Nat) (hj : lv[j]? = some (i, (1, x))) (K : VQ QQ G l M (pc + 2) lv ((1, x) :: st) s X) : VQ QQ G l M pc lv st s X := by
  intro r s' hX
  obtain ⟨h1, h2, K⟩ := K r s' hX
  refine ⟨h1, h2, fun n0 k0 g1 g2 p e R s0 m args below meth c H locs ls hC hc hs hL hO hR hl => ?_⟩
  have hK := K n0 k0 g1 g2 p e R s0 m args below meth c H locs
  obtain ⟨q1, q2⟩ := hL.at j hj
  exact lv_lload hC.1 hC.2.1 hd q1 (hK ls hC hc hs hL (okS_cons q2 hO) hR hl)
theorem mkR_cases (G : Gx) (x : Int) : mkR G x = .null ∨ ∃ a, mkR G x = .ref a := by
  unfold mkR
  split
  · exact Or.inl rfl
  · split
    · exact Or.inr ⟨_, rfl⟩
    · exact Or.inr ⟨_, rfl⟩
theorem mv2 (G : Gx) (x : Int) : mv G (2, x) = mkR G x := rfl
theorem V_aload_n {k : Fin 4} {x : Int} (hd : decode M.2.1 pc = .ok (.aload_n k, 1)) (j : Nat) (hj : lv[j]? = some (k.val, (2, x))) (K : VQ QQ G l M (pc + 1) lv ((2, x) :: st) s X) : VQ QQ G l M pc lv st s X := by
  intro r s' hX
  obtain ⟨h1, h2, K⟩ := K r s' hX
  refine ⟨h1, h2, fun n0 k0 g1 g2 p e R s0 m args below meth c H locs ls hC hc hs hL hO hR hl => ?_⟩
  have hK := K n0 k0 g1 g2 p e R s0 m args below meth c H locs
  obtain ⟨q1, q2⟩ := hL.at j hj
  have h9 := hK ls hC hc hs hL (okS_cons q2 hO) hR hl
  rw [List.map_cons, mv2] at h9
  rw [mv2] at q1
  rcases mkR_cases G x with e1 | ⟨a, e1⟩
  · rw [e1] at h9 q1
    exact lv_aload_nN hC.1 hC.2.1 hd rfl q1 h9
  · rw [e1] at h9 q1
    exact lv_aload_n hC.1 hC.2.1 hd rfl q1 h9
theorem V_aload {i : Nat} {x : Int} (hd : decode M.2.1 pc = .ok (.aload i, 2)) (j : Nat) (hj : lv[j]? = some (i, (2, x))) (K : VQ QQ G l M (pc + 2) lv ((2, x) :: st) s X) : VQ QQ G l M pc lv st s X := by
  intro r s' hX
  obtain ⟨h1, h2, K⟩ := K r s' hX
  refine ⟨h1, h2, fun n0 k0 g1 g2 p e R s0 m args below meth c H locs ls hC hc hs hL hO hR hl => ?_⟩
  have hK := K n0 k0 g1 g2 p e R s0 m args below meth c H locs
  obtain ⟨q1, q2⟩ := hL.at j hj
  have h9 := hK ls hC hc hs hL (okS_cons q2 hO) hR hl
  rw [List.map_cons, mv2] at h9
  rw [mv2] at q1
  rcases mkR_cases G x with e1 | ⟨a, e1⟩
  · rw [e1] at h9 q1
    exact lv_aloadN hC.1 hC.2.1 hd q1 h9
  · rw [e1] at h9 q1
    exact lv_aload hC.1 hC.2.1 hd q1 h9
theorem V_istore_n {k : Fin 4} {x : Int} {lv' : List (Nat × PV)} (hd : decode M.2.1 pc = .ok (.istore_n k, 1)) (hn : k.val < M.2.2.1) (hv : stL lv k.val (0, x) = lv') (K : VQ QQ G l M (pc + 1) lv' st s X) : VQ QQ G l M pc lv ((0, x) :: st) s X := by
  intro r s' hX
  obtain ⟨h1, h2, K⟩ := K r s' hX
  refine ⟨h1, h2, fun n0 k0 g1 g2 p e R s0 m args below meth c H locs ls hC hc hs hL hO hR hl => ?_⟩
  have hK := K n0 k0 g1 g2 p e R s0 m args below meth c H locs
  subst hv
  exact lv_istore_n hC.1 hC.2.1 hd rfl hL.1 hn (stL_map G lv k.val (0, x)) (fun ls' h' => hK ls' hC hc hs (hL.st (okS_hd hO) h') (okS_tl hO) hR hl)
theorem V_istore {i : Nat} {x : Int} {lv' : List (Nat × PV)} (hd : decode M.2.1 pc = .ok (.istore i, 2)) (hn : i < M.2.2.1) (hv : stL lv i (0, x) = lv') (K : VQ QQ G l M (pc + 2) lv' st s X) : VQ QQ G l M pc lv ((0, x) :: st) s X := by
  intro r s' hX
  obtain ⟨h1, h2, K⟩ := K r s' hX
  refine ⟨h1, h2, fun n0 k0 g1 g2 p e R s0 m args below meth c H locs ls hC hc hs hL hO hR hl => ?_⟩
  have hK := K n0 k0 g1 g2 p e R s0 m args below meth c H locs
  subst hv
  exact lv_istore hC.1 hC.2.1 hd hL.1 hn (stL_map G lv i (0, x)) (fun ls' h' => hK ls' hC hc hs (hL.st (okS_hd hO) h') (okS_tl hO) hR hl)
theorem V_lstore_n {k : Fin 4} {x : Int} {lv' : List (Nat × PV)} (hd : decode M.2.1 pc = .ok (.lstore_n k, 1)) (hn : k.val + 1 < M.2.2.1) (hv : stL2 lv k.val (1, x) = lv') (K : VQ QQ G l M (pc + 1) lv' st s X) : VQ QQ G l M pc lv ((1, x) :: st) s X := by
  intro r s' hX
  obtain ⟨h1, h2, K⟩ := K r s' hX
  refine ⟨h1, h2, fun n0 k0 g1 g2 p e R s0 m args below meth c H locs ls hC hc hs hL hO hR hl => ?_⟩
  have hK := K n0 k0 g1 g2 p e R s0 m args below meth c H locs
  subst hv
  exact lv_lstore_n hC.1 hC.2.1 hd rfl hL.1 hn (stL2_map G lv k.val (1, x)) (fun ls' h' => hK ls' hC hc hs (hL.st2 (okS_hd hO) h') (okS_tl hO) hR hl)
theorem V_lstore {i : Nat} {x : Int} {lv' : List (Nat × PV)} (hd : decode M.2.1 pc = .ok (.lstore i, 2)) (hn : i + 1 < M.2.2.1) (hv : stL2 lv i (1, x) = lv') (K : VQ QQ G l M (pc + 2) lv' st s X) : VQ QQ G l M pc lv ((1, x) :: st) s X := by
  intro r s' hX
  obtain ⟨h1, h2, K⟩ := K r s' hX
  refine ⟨h1, h2, fun n0 k0 g1 g2 p e R s0 m args below meth c H locs ls hC hc hs hL hO hR hl => ?_⟩
  have hK := K n0 k0 g1 g2 p e R s0 m args below meth c H locs
  subst hv
  exact lv_lstore hC.1 hC.2.1 hd hL.1 hn (stL2_map G lv i (1, x)) (fun ls' h' => hK ls' hC hc hs (hL.st2 (okS_hd hO) h') (okS_tl hO) hR hl)
theorem V_astore_n {k : Fin 4} {x : Int} {lv' : List (Nat × PV)} (hd : decode M.2.1 pc = .ok (.astore_n k, 1)) (hn : k.val < M.2.2.1) (hv : stL lv k.val (2, x) = lv') (K : VQ QQ G l M (pc + 1) lv' st s X) : VQ QQ G l M pc lv ((2, x) :: st) s X := by
  intro r s' hX
  obtain ⟨h1, h2, K⟩ := K r s' hX
  refine ⟨h1, h2, fun n0 k0 g1 g2 p e R s0 m args below meth c H locs ls hC hc hs hL hO hR hl => ?_⟩
  have hK := K n0 k0 g1 g2 p e R s0 m args below meth c H locs
  subst hv
  have e2 := stL_map G lv k.val (2, x)
  have h9 := fun ls' h' => hK ls' hC hc hs (hL.st (okS_hd hO) h') (okS_tl hO) hR hl
  rw [List.map_cons, mv2]
  rw [mv2] at e2
  rcases mkR_cases G x with e1 | ⟨a, e1⟩
  · rw [e1] at e2 ⊢
    exact lv_astore_nN hC.1 hC.2.1 hd rfl hL.1 hn e2 h9
  · rw [e1] at e2 ⊢
    exact lv_astore_n hC.1 hC.2.1 hd rfl hL.1 hn e2 h9
theorem V_iinc {i : Nat} {x n : Int} {lv' : List (Nat × PV)} (hd : decode M.2.1 pc = .ok (.iinc i n, 3)) (j : Nat) (hj : lv[j]? = some (i, (0, x))) (hn : i < M.2.2.1) (hv : stL lv i (0, w32 (x + n)) = lv') (K : VQ QQ G l M (pc + 3) lv' st s X) : VQ QQ G l M pc lv st s X := by
  intro r s' hX
  obtain ⟨h1, h2, K⟩ := K r s' hX
  refine ⟨h1, h2, fun n0 k0 g1 g2 p e R s0 m args below meth c H locs ls hC hc hs hL hO hR hl => ?_⟩
  have hK := K n0 k0 g1 g2 p e R s0 m args below meth c H locs
  subst hv
  obtain ⟨q1, q2⟩ := hL.at j hj
  have e2 := stL_map G lv i (0, w32 (x + n))
  refine lv_iinc (v := Int32.ofInt (w32 (x + n))) hC.1 hC.2.1 hd hL.1 (k := j) (x := Int32.ofInt x) ?_ ?_ hn e2 (fun ls' h' => hK ls' hC hc hs (hL.st (ok_w32 _) h') hO hR hl)
  · unfold lvm
    rw [List.getElem?_map, hj]
    rfl
  · rw [of_w32, Int32.ofInt_add]
theorem V_iadd {x y : Int} (hd : decode M.2.1 pc = .ok (.iadd, 1))  (K : VQ QQ G l M (pc + 1) lv ((0, w32 (x + y)) :: st) s X) : VQ QQ G l M pc lv ((0, y) :: (0, x) :: st) s X := by
  intro r s' hX
  obtain ⟨h1, h2, K⟩ := K r s' hX
  refine ⟨h1, h2, fun n0 k0 g1 g2 p e R s0 m args below meth c H locs ls hC hc hs hL hO hR hl => ?_⟩
  have hK := K n0 k0 g1 g2 p e R s0 m args below meth c H locs
  refine lv_iadd hC.1 hC.2.1 hd ?_
  have h9 := hK ls hC hc hs hL (okS_cons (v := (0, w32 (x + y))) (ok_w32 _) (okS_tl (okS_tl hO))) hR hl
  rw [List.map_cons, show mv G (0, w32 (x + y)) = .int (Int32.ofInt (w32 (x + y))) from rfl, show Int32.ofInt (w32 (x + y)) = _ from by rw [of_w32, Int32.ofInt_add]] at h9
  exact h9
theorem V_isub {x y : Int} (hd : decode M.2.1 pc = .ok (.isub, 1))  (K : VQ QQ G l M (pc + 1) lv ((0, w32 (x - y)) :: st) s X) : VQ QQ G l M pc lv ((0, y) :: (0, x) :: st) s X := by
  intro r s' hX
  obtain ⟨h1, h2, K⟩ := K r s' hX
  refine ⟨h1, h2, fun n0 k0 g1 g2 p e R s0 m args below meth c H locs ls hC hc hs hL hO hR hl => ?_⟩
  have hK := K n0 k0 g1 g2 p e R s0 m args below meth c H locs
  refine lv_isub hC.1 hC.2.1 hd ?_
  have h9 := hK ls hC hc hs hL (okS_cons (v := (0, w32 (x - y))) (ok_w32 _) (okS_tl (okS_tl hO))) hR hl
  rw [List.map_cons, show mv G (0, w32 (x - y)) = .int (Int32.ofInt (w32 (x - y))) from rfl, show Int32.ofInt (w32 (x - y)) = _ from by rw [of_w32, Int32.ofInt_sub]] at h9
  exact h9
theorem V_imul {x y : Int} (hd : decode M.2.1 pc = .ok (.imul, 1))  (K : VQ QQ G l M (pc + 1) lv ((0, w32 (x * y)) :: st) s X) : VQ QQ G l M pc lv ((0, y) :: (0, x) :: st) s X := by
  intro r s' hX
  obtain ⟨h1, h2, K⟩ := K r s' hX
  refine ⟨h1, h2, fun n0 k0 g1 g2 p e R s0 m args below meth c H locs ls hC hc hs hL hO hR hl => ?_⟩
  have hK := K n0 k0 g1 g2 p e R s0 m args below meth c H locs
  refine lv_imul hC.1 hC.2.1 hd ?_
  have h9 := hK ls hC hc hs hL (okS_cons (v := (0, w32 (x * y))) (ok_w32 _) (okS_tl (okS_tl hO))) hR hl
  rw [List.map_cons, show mv G (0, w32 (x * y)) = .int (Int32.ofInt (w32 (x * y))) from rfl, show Int32.ofInt (w32 (x * y)) = _ from by rw [of_w32, Int32.ofInt_mul]] at h9
  exact h9
theorem V_iand {x y : Int} (hd : decode M.2.1 pc = .ok (.iand, 1))  (K : VQ QQ G l M (pc + 1) lv ((0, and32 x y) :: st) s X) : VQ QQ G l M pc lv ((0, y) :: (0, x) :: st) s X := by
  intro r s' hX
  obtain ⟨h1, h2, K⟩ := K r s' hX
  refine ⟨h1, h2, fun n0 k0 g1 g2 p e R s0 m args below meth c H locs ls hC hc hs hL hO hR hl => ?_⟩
  have hK := K n0 k0 g1 g2 p e R s0 m args below meth c H locs
  refine lv_iand hC.1 hC.2.1 hd ?_
  have h9 := hK ls hC hc hs hL (okS_cons (v := (0, and32 x y)) (ok_i32 _) (okS_tl (okS_tl hO))) hR hl
  rw [List.map_cons, show mv G (0, and32 x y) = .int (Int32.ofInt (and32 x y)) from rfl, show Int32.ofInt (and32 x y) = _ from by unfold and32; rw [of_toInt]] at h9
  exact h9
theorem V_ior {x y : Int} (hd : decode M.2.1 pc = .ok (.ior, 1))  (K : VQ QQ G l M (pc + 1) lv ((0, or32 x y) :: st) s X) : VQ QQ G l M pc lv ((0, y) :: (0, x) :: st) s X := by
  intro r s' hX
  obtain ⟨h1, h2, K⟩ := K r s' hX
  refine ⟨h1, h2, fun n0 k0 g1 g2 p e R s0 m args below meth c H locs ls hC hc hs hL hO hR hl => ?_⟩
  have hK := K n0 k0 g1 g2 p e R s0 m args below meth c H locs
  refine lv_ior hC.1 hC.2.1 hd ?_
  have h9 := hK ls hC hc hs hL (okS_cons (v := (0, or32 x y)) (ok_i32 _) (okS_tl (okS_tl hO))) hR hl
  rw [List.map_cons, show mv G (0, or32 x y) = .int (Int32.ofInt (or32 x y)) from rfl, show Int32.ofInt (or32 x y) = _ from by unfold or32; rw [of_toInt]] at h9
  exact h9
theorem V_ixor {x y : Int} (hd : decode M.2.1 pc = .ok (.ixor, 1))  (K : VQ QQ G l M (pc + 1) lv ((0, xor32 x y) :: st) s X) : VQ QQ G l M pc lv ((0, y) :: (0, x) :: st) s X := by
  intro r s' hX
  obtain ⟨h1, h2, K⟩ := K r s' hX
  refine ⟨h1, h2, fun n0 k0 g1 g2 p e R s0 m args below meth c H locs ls hC hc hs hL hO hR hl => ?_⟩
  have hK := K n0 k0 g1 g2 p e R s0 m args below meth c H locs
  refine lv_ixor hC.1 hC.2.1 hd ?_
  have h9 := hK ls hC hc hs hL (okS_cons (v := (0, xor32 x y)) (ok_i32 _) (okS_tl (okS_tl hO))) hR hl
  rw [List.map_cons, show mv G (0, xor32 x y) = .int (Int32.ofInt (xor32 x y)) from rfl, show Int32.ofInt (xor32 x y) = _ from by unfold xor32; rw [of_toInt]] at h9
  exact h9
theorem V_ishl {x y : Int} (hd : decode M.2.1 pc = .ok (.ishl, 1))  (K : VQ QQ G l M (pc + 1) lv ((0, shl32 x y) :: st) s X) : VQ QQ G l M pc lv ((0, y) :: (0, x) :: st) s X := by
  intro r s' hX
  obtain ⟨h1, h2, K⟩ := K r s' hX
  refine ⟨h1, h2, fun n0 k0 g1 g2 p e R s0 m args below meth c H locs ls hC hc hs hL hO hR hl => ?_⟩
  have hK := K n0 k0 g1 g2 p e R s0 m args below meth c H locs
  refine lv_ishl hC.1 hC.2.1 hd ?_
  have h9 := hK ls hC hc hs hL (okS_cons (v := (0, shl32 x y)) (ok_i32 _) (okS_tl (okS_tl hO))) hR hl
  rw [List.map_cons, show mv G (0, shl32 x y) = .int (Int32.ofInt (shl32 x y)) from rfl, show Int32.ofInt (shl32 x y) = _ from by unfold shl32; rw [of_toInt]] at h9
  exact h9
theorem V_ishr {x y : Int} (hd : decode M.2.1 pc = .ok (.ishr, 1))  (K : VQ QQ G l M (pc + 1) lv ((0, shr32 x y) :: st) s X) : VQ QQ G l M pc lv ((0, y) :: (0, x) :: st) s X := by
  intro r s' hX
  obtain ⟨h1, h2, K⟩ := K r s' hX
  refine ⟨h1, h2, fun n0 k0 g1 g2 p e R s0 m args below meth c H locs ls hC hc hs hL hO hR hl => ?_⟩
  have hK := K n0 k0 g1 g2 p e R s0 m args below meth c H locs
  refine lv_ishr hC.1 hC.2.1 hd ?_
  have h9 := hK ls hC hc hs hL (okS_cons (v := (0, shr32 x y)) (ok_i32 _) (okS_tl (okS_tl hO))) hR hl
  rw [List.map_cons, show mv G (0, shr32 x y) = .int (Int32.ofInt (shr32 x y)) from rfl, show Int32.ofInt (shr32 x y) = _ from by unfold shr32; rw [of_toInt]] at h9
  exact h9
theorem V_iushr {x y : Int} (hd : decode M.2.1 pc = .ok (.iushr, 1))  (K : VQ QQ G l M (pc + 1) lv ((0, ushr32 x y) :: st) s X) : VQ QQ G l M pc lv ((0, y) :: (0, x) :: st) s X := by
  intro r s' hX
  obtain ⟨h1, h2, K⟩ := K r s' hX
  refine ⟨h1, h2, fun n0 k0 g1 g2 p e R s0 m args below meth c H locs ls hC hc hs hL hO hR hl => ?_⟩
  have hK := K n0 k0 g1 g2 p e R s0 m args below meth c H locs
  refine lv_iushr hC.1 hC.2.1 hd rfl ?_
  have h9 := hK ls hC hc hs hL (okS_cons (v := (0, ushr32 x y)) (ok_i32 _) (okS_tl (okS_tl hO))) hR hl
  rw [List.map_cons, show mv G (0, ushr32 x y) = .int (Int32.ofInt (ushr32 x y)) from rfl, show Int32.ofInt (ushr32 x y) = _ from by unfold ushr32; rw [of_toInt]] at h9
  exact h9
theorem V_ladd {x y : Int} (hd : decode M.2.1 pc = .ok (.ladd, 1))  (K : VQ QQ G l M (pc + 1) lv ((1, w64 (x + y)) :: st) s X) : VQ QQ G l M pc lv ((1, y) :: (1, x) :: st) s X := by
  intro r s' hX
  obtain ⟨h1, h2, K⟩ := K r s' hX
  refine ⟨h1, h2, fun n0 k0 g1 g2 p e R s0 m args below meth c H locs ls hC hc hs hL hO hR hl => ?_⟩
  have hK := K n0 k0 g1 g2 p e R s0 m args below meth c H locs
  refine lv_ladd hC.1 hC.2.1 hd ?_
  have h9 := hK ls hC hc hs hL (okS_cons (v := (1, w64 (x + y))) (ok_w64 _) (okS_tl (okS_tl hO))) hR hl
  rw [List.map_cons, show mv G (1, w64 (x + y)) = .long (Int64.ofInt (w64 (x + y))) from rfl, show Int64.ofInt (w64 (x + y)) = _ from by rw [of_w64, Int64.ofInt_add]] at h9
  exact h9
theorem V_lsub {x y : Int} (hd : decode M.2.1 pc = .ok (.lsub, 1))  (K : VQ QQ G l M (pc + 1) lv ((1, w64 (x - y)) :: st) s X) : VQ QQ G l M pc lv ((1, y) :: (1, x) :: st) s X := by
  intro r s' hX
  obtain ⟨h1, h2, K⟩ := K r s' hX
  refine ⟨h1, h2, fun n0 k0 g1 g2 p e R s0 m args below meth c H locs ls hC hc hs hL hO hR hl => ?_⟩
  have hK := K n0 k0 g1 g2 p e R s0 m args below meth c H locs
  refine lv_lsub hC.1 hC.2.1 hd ?_
  have h9 := hK ls hC hc hs hL (okS_cons (v := (1, w64 (x - y))) (ok_w64 _) (okS_tl (okS_tl hO))) hR hl
  rw [List.map_cons, show mv G (1, w64 (x - y)) = .long (Int64.ofInt (w64 (x - y))) from rfl, show Int64.ofInt (w64 (x - y)) = _ from by rw [of_w64, Int64.ofInt_sub]] at h9
  exact h9
theorem V_lmul {x y : Int} (hd : decode M.2.1 pc = .ok (.lmul, 1))  (K : VQ QQ G l M (pc + 1) lv ((1, w64 (x * y)) :: st) s X) : VQ QQ G l M pc lv ((1, y) :: (1, x) :: st) s X := by
  intro r s' hX
  obtain ⟨h1, h2, K⟩ := K r s' hX
  refine ⟨h1, h2, fun n0 k0 g1 g2 p e R s0 m args below meth c H locs ls hC hc hs hL hO hR hl => ?_⟩
  have hK := K n0 k0 g1 g2 p e R s0 m args below meth c H locs
  refine lv_lmul hC.1 hC.2.1 hd ?_
  have h9 := hK ls hC hc hs hL (okS_cons (v := (1, w64 (x * y))) (ok_w64 _) (okS_tl (okS_tl hO))) hR hl
  rw [List.map_cons, show mv G (1, w64 (x * y)) = .long (Int64.ofInt (w64 (x * y))) from rfl, show Int64.ofInt (w64 (x * y)) = _ from by rw [of_w64, Int64.ofInt_mul]] at h9
  exact h9
theorem V_idiv {x y : Int} (hd : decode M.2.1 pc = .ok (.idiv, 1)) (K : VQ QQ G l M (pc + 1) lv ((0, w32 (Int.tdiv x y)) :: st) s X) : VQ QQ G l M pc lv ((0, y) :: (0, x) :: st) s (grd (y ≠ 0) X) := by
  refine V_grd fun hne => ?_
  intro r s' hX
  obtain ⟨h1, h2, K⟩ := K r s' hX
  refine ⟨h1, h2, fun n0 k0 g1 g2 p e R s0 m args below meth c H locs ls hC hc hs hL hO hR hl => ?_⟩
  have hK := K n0 k0 g1 g2 p e R s0 m args below meth c H locs
  have oy : ok32 y := okS_hd hO
  have ox : ok32 x := okS_hd (okS_tl hO)
  refine lv_idiv hC.1 hC.2.1 hd (fun h => hne ((eq0 oy).mp h)) ?_
  have h9 := hK ls hC hc hs hL (okS_cons (v := (0, w32 (Int.tdiv x y))) (ok_w32 _) (okS_tl (okS_tl hO))) hR hl
  rw [List.map_cons, show mv G (0, w32 (Int.tdiv x y)) = .int (Int32.ofInt (w32 (Int.tdiv x y))) from rfl] at h9
  rw [div32 ox oy, ← of_w32]
  exact h9
theorem V_irem {x y : Int} (hd : decode M.2.1 pc = .ok (.irem, 1)) (K : VQ QQ G l M (pc + 1) lv ((0, Int.tmod x y) :: st) s X) : VQ QQ G l M pc lv ((0, y) :: (0, x) :: st) s (grd (y ≠ 0) X) := by
  refine V_grd fun hne => ?_
  intro r s' hX
  obtain ⟨h1, h2, K⟩ := K r s' hX
  refine ⟨h1, h2, fun n0 k0 g1 g2 p e R s0 m args below meth c H locs ls hC hc hs hL hO hR hl => ?_⟩
  have hK := K n0 k0 g1 g2 p e R s0 m args below meth c H locs
  have oy : ok32 y := okS_hd hO
  have ox : ok32 x := okS_hd (okS_tl hO)
  refine lv_irem hC.1 hC.2.1 hd (fun h => hne ((eq0 oy).mp h)) ?_
  have h9 := hK ls hC hc hs hL (okS_cons (v := (0, Int.tmod x y)) (ok_tmod ox) (okS_tl (okS_tl hO))) hR hl
  rw [List.map_cons, show mv G (0, Int.tmod x y) = .int (Int32.ofInt (Int.tmod x y)) from rfl] at h9
  rw [rem32 ox oy]
  exact h9
theorem V_ldiv {x y : Int} (hd : decode M.2.1 pc = .ok (.ldiv, 1)) (K : VQ QQ G l M (pc + 1) lv ((1, w64 (Int.tdiv x y)) :: st) s X) : VQ QQ G l M pc lv ((1, y) :: (1, x) :: st) s (grd (y ≠ 0) X) := by
  refine V_grd fun hne => ?_
  intro r s' hX
  obtain ⟨h1, h2, K⟩ := K r s' hX
  refine ⟨h1, h2, fun n0 k0 g1 g2 p e R s0 m args below meth c H locs ls hC hc hs hL hO hR hl => ?_⟩
  have hK := K n0 k0 g1 g2 p e R s0 m args below meth c H locs
  have oy : ok64 y := okS_hd hO
  have ox : ok64 x := okS_hd (okS_tl hO)
  refine lv_ldiv hC.1 hC.2.1 hd (fun h => hne ((eq0L oy).mp h)) ?_
  have h9 := hK ls hC hc hs hL (okS_cons (v := (1, w64 (Int.tdiv x y))) (ok_w64 _) (okS_tl (okS_tl hO))) hR hl
  rw [List.map_cons, show mv G (1, w64 (Int.tdiv x y)) = .long (Int64.ofInt (w64 (Int.tdiv x y))) from rfl] at h9
  rw [div64 ox oy, ← of_w64]
  exact h9
theorem V_lrem {x y : Int} (hd : decode M.2.1 pc = .ok (.lrem, 1)) (K : VQ QQ G l M (pc + 1) lv ((1, Int.tmod x y) :: st) s X) : VQ QQ G l M pc lv ((1, y) :: (1, x) :: st) s (grd (y ≠ 0) X) := by
  refine V_grd fun hne => ?_
  intro r s' hX
  obtain ⟨h1, h2, K⟩ := K r s' hX
  refine ⟨h1, h2, fun n0 k0 g1 g2 p e R s0 m args below meth c H locs ls hC hc hs hL hO hR hl => ?_⟩
  have hK := K n0 k0 g1 g2 p e R s0 m args below meth c H locs
  have oy : ok64 y := okS_hd hO
  have ox : ok64 x := okS_hd (okS_tl hO)
  refine lv_lrem hC.1 hC.2.1 hd (fun h => hne ((eq0L oy).mp h)) ?_
  have h9 := hK ls hC hc hs hL (okS_cons (v := (1, Int.tmod x y)) (ok_tmod64 ox) (okS_tl (okS_tl hO))) hR hl
  rw [List.map_cons, show mv G (1, Int.tmod x y) = .long (Int64.ofInt (Int.tmod x y)) from rfl] at h9
  rw [rem64 ox oy]
  exact h9
theorem V_ineg {x : Int} (hd : decode M.2.1 pc = .ok (.ineg, 1))  (K : VQ QQ G l M (pc + 1) lv ((0, w32 (-x)) :: st) s X) : VQ QQ G l M pc lv ((0, x) :: st) s X := by
  intro r s' hX
  obtain ⟨h1, h2, K⟩ := K r s' hX
  refine ⟨h1, h2, fun n0 k0 g1 g2 p e R s0 m args below meth c H locs ls hC hc hs hL hO hR hl => ?_⟩
  have hK := K n0 k0 g1 g2 p e R s0 m args below meth c H locs
  refine lv_ineg hC.1 hC.2.1 hd ?_
  have h9 := hK ls hC hc hs hL (okS_cons (v := (0, w32 (-x))) (ok_w32 _) (okS_tl hO)) hR hl
  rw [List.map_cons, show mv G (0, w32 (-x)) = .int (Int32.ofInt (w32 (-x))) from rfl, of_w32, Int32.ofInt_neg] at h9
  exact h9
theorem V_i2l {x : Int} (hd : decode M.2.1 pc = .ok (.i2l, 1))  (K : VQ QQ G l M (pc + 1) lv ((1, x) :: st) s X) : VQ QQ G l M pc lv ((0, x) :: st) s X := by
  intro r s' hX
  obtain ⟨h1, h2, K⟩ := K r s' hX
  refine ⟨h1, h2, fun n0 k0 g1 g2 p e R s0 m args below meth c H locs ls hC hc hs hL hO hR hl => ?_⟩
  have hK := K n0 k0 g1 g2 p e R s0 m args below meth c H locs
  have ox : ok32 x := okS_hd hO
  exact lv_i2l hC.1 hC.2.1 hd (i2l32 ox) (hK ls hC hc hs hL (okS_cons (v := (1, x)) (show ok64 x by unfold ok32 at ox; unfold ok64; omega) (okS_tl hO)) hR hl)
theorem V_l2i {x : Int} (hd : decode M.2.1 pc = .ok (.l2i, 1))  (K : VQ QQ G l M (pc + 1) lv ((0, w32 x) :: st) s X) : VQ QQ G l M pc lv ((1, x) :: st) s X := by
  intro r s' hX
  obtain ⟨h1, h2, K⟩ := K r s' hX
  refine ⟨h1, h2, fun n0 k0 g1 g2 p e R s0 m args below meth c H locs ls hC hc hs hL hO hR hl => ?_⟩
  have hK := K n0 k0 g1 g2 p e R s0 m args below meth c H locs
  have ox : ok64 x := okS_hd hO
  exact lv_l2i hC.1 hC.2.1 hd (l2i32 ox) (hK ls hC hc hs hL (okS_cons (v := (0, w32 x)) (ok_w32 x) (okS_tl hO)) hR hl)
theorem V_i2b {x : Int} (hd : decode M.2.1 pc = .ok (.i2b, 1))  (K : VQ QQ G l M (pc + 1) lv ((0, w8 x) :: st) s X) : VQ QQ G l M pc lv ((0, x) :: st) s X := by
  intro r s' hX
  obtain ⟨h1, h2, K⟩ := K r s' hX
  refine ⟨h1, h2, fun n0 k0 g1 g2 p e R s0 m args below meth c H locs ls hC hc hs hL hO hR hl => ?_⟩
  have hK := K n0 k0 g1 g2 p e R s0 m args below meth c H locs
  have ox : ok32 x := okS_hd hO
  exact lv_i2b hC.1 hC.2.1 hd (i2b32 ox) (hK ls hC hc hs hL (okS_cons (v := (0, w8 x)) (ok8_32 (ok_w8 x)) (okS_tl hO)) hR hl)
theorem cmp_of {x y : Int} (hx : ok64 x) (hy : ok64 y) : lg_cmp (Int64.ofInt x) (Int64.ofInt y) = Int32.ofInt (cmp3 x y) := by
  unfold lg_cmp cmp3
  have e1 : (Int64.ofInt x > Int64.ofInt y) = (x > y) := propext (lt64 hy hx)
  have e2 : (Int64.ofInt x = Int64.ofInt y) = (x = y) := propext (eq64 hx hy)
  by_cases a : x > y
  · rw [if_pos (by rw [e1]; exact a), if_pos a]; rfl
  · rw [if_neg (by rw [e1]; exact a), if_neg a]
    by_cases b : x = y
    · rw [if_pos (by rw [e2]; exact b), if_pos b]; rfl
    · rw [if_neg (by rw [e2]; exact b), if_neg b]; rfl
theorem ok_cmp (x y : Int) : ok32 (cmp3 x y) := by
  unfold cmp3 ok32
  split
  · omega
  · split <;> omega
theorem V_lcmp {x y : Int} (hd : decode M.2.1 pc = .ok (.lcmp, 1))  (K : VQ QQ G l M (pc + 1) lv ((0, cmp3 x y) :: st) s X) : VQ QQ G l M pc lv ((1, y) :: (1, x) :: st) s X := by
  intro r s' hX
  obtain ⟨h1, h2, K⟩ := K r s' hX
  refine ⟨h1, h2, fun n0 k0 g1 g2 p e R s0 m args below meth c H locs ls hC hc hs hL hO hR hl => ?_⟩
  have hK := K n0 k0 g1 g2 p e R s0 m args below meth c H locs
  refine W.lcmp hC.1 hC.2.1 hd ?_
  rw [cmp_of (okS_hd (okS_tl hO)) (okS_hd hO)]
  exact hK ls hC hc hs hL (okS_cons (v := (0, cmp3 x y)) (ok_cmp x y) (okS_tl (okS_tl hO))) hR hl
theorem V_dup {v : PV} (hc1 : v.1 ≠ 1) (hd : decode M.2.1 pc = .ok (.dup, 1))  (K : VQ QQ G l M (pc + 1) lv (v :: v :: st) s X) : VQ QQ G l M pc lv (v :: st) s X := by
  intro r s' hX
  obtain ⟨h1, h2, K⟩ := K r s' hX
  refine ⟨h1, h2, fun n0 k0 g1 g2 p e R s0 m args below meth c H locs ls hC hc hs hL hO hR hl => ?_⟩
  have hK := K n0 k0 g1 g2 p e R s0 m args below meth c H locs
  exact lv_dup hC.1 hC.2.1 hd (by rw [mv_cat, if_neg hc1]) (hK ls hC hc hs hL (okS_cons (okS_hd hO) hO) hR hl)
theorem V_pop {v : PV} (hc1 : v.1 ≠ 1) (hd : decode M.2.1 pc = .ok (.pop, 1))  (K : VQ QQ G l M (pc + 1) lv st s X) : VQ QQ G l M pc lv (v :: st) s X := by
  intro r s' hX
  obtain ⟨h1, h2, K⟩ := K r s' hX
  refine ⟨h1, h2, fun n0 k0 g1 g2 p e R s0 m args below meth c H locs ls hC hc hs hL hO hR hl => ?_⟩
  have hK := K n0 k0 g1 g2 p e R s0 m args below meth c H locs
  exact lv_pop hC.1 hC.2.1 hd (by rw [mv_cat, if_neg hc1]) (hK ls hC hc hs hL (okS_tl hO) hR hl)
theorem V_dup2 {v w : PV} (hc1 : v.1 ≠ 1) (hc2 : w.1 ≠ 1) (hd : decode M.2.1 pc = .ok (.dup2, 1))  (K : VQ QQ G l M (pc + 1) lv (v :: w :: v :: w :: st) s X) : VQ QQ G l M pc lv (v :: w :: st) s X := by
  intro r s' hX
  obtain ⟨h1, h2, K⟩ := K r s' hX
  refine ⟨h1, h2, fun n0 k0 g1 g2 p e R s0 m args below meth c H locs ls hC hc hs hL hO hR hl => ?_⟩
  have hK := K n0 k0 g1 g2 p e R s0 m args below meth c H locs
  exact lv_dup2_11 hC.1 hC.2.1 hd (by rw [mv_cat, if_neg hc1]) (by rw [mv_cat, if_neg hc2]) (hK ls hC hc hs hL (okS_cons (okS_hd hO) (okS_cons (okS_hd (okS_tl hO)) hO)) hR hl)
theorem V_icmp_eq {x y : Int} {off : Int} {tgt : Nat} {X1 X2 : Rs} (hd : decode M.2.1 pc = .ok (.if_icmp .eq off, 3)) (ht : (pc : Int) + off = (tgt : Int)) (Kt : VQ QQ G l M tgt lv st s X1) (Kf : VQ QQ G l M (pc + 3) lv st s X2) : VQ QQ G l M pc lv ((0, y) :: (0, x) :: st) s (if x = y then X1 else X2) := by
  intro r s' hX
  by_cases hp : x = y
  · rw [if_pos hp] at hX
    obtain ⟨h1, h2, K⟩ := Kt r s' hX
    refine ⟨h1, h2, fun n0 k0 g1 g2 p e R s0 m args below meth c H locs ls hC hc hs hL hO hR hl => ?_⟩
    have hK := K n0 k0 g1 g2 p e R s0 m args below meth c H locs
    have oy : ok32 y := okS_hd hO
    have ox : ok32 x := okS_hd (okS_tl hO)
    have hi := eq32 ox oy
    exact lv_icmp_eq hC.1 hC.2.1 hd ht (fun _ => hK ls hC hc hs hL (okS_tl (okS_tl hO)) hR hl) (fun hq => absurd (hi.mpr hp) hq)
  · rw [if_neg hp] at hX
    obtain ⟨h1, h2, K⟩ := Kf r s' hX
    refine ⟨h1, h2, fun n0 k0 g1 g2 p e R s0 m args below meth c H locs ls hC hc hs hL hO hR hl => ?_⟩
    have hK := K n0 k0 g1 g2 p e R s0 m args below meth c H locs
    have oy : ok32 y := okS_hd hO
    have ox : ok32 x := okS_hd (okS_tl hO)
    have hi := eq32 ox oy
    exact lv_icmp_eq hC.1 hC.2.1 hd ht (fun hq => absurd (hi.mp hq) hp) (fun _ => hK ls hC hc hs hL (okS_tl (okS_tl hO)) hR hl)
theorem V_icmp_ne {x y : Int} {off : Int} {tgt : Nat} {X1 X2 : Rs} (hd : decode M.2.1 pc = .ok (.if_icmp .ne off, 3)) (ht : (pc : Int) + off = (tgt : Int)) (Kt : VQ QQ G l M tgt lv st s X1) (Kf : VQ QQ G l M (pc + 3) lv st s X2) : VQ QQ G l M pc lv ((0, y) :: (0, x) :: st) s (if ¬ x = y then X1 else X2) := by
  intro r s' hX
  by_cases hp : ¬ x = y
  · rw [if_pos hp] at hX
    obtain ⟨h1, h2, K⟩ := Kt r s' hX
    refine ⟨h1, h2, fun n0 k0 g1 g2 p e R s0 m args below meth c H locs ls hC hc hs hL hO hR hl => ?_⟩
    have hK := K n0 k0 g1 g2 p e R s0 m args below meth c H locs
    have oy : ok32 y := okS_hd hO
    have ox : ok32 x := okS_hd (okS_tl hO)
    have hi := not_congr (eq32 ox oy)
    exact lv_icmp_ne hC.1 hC.2.1 hd ht (fun _ => hK ls hC hc hs hL (okS_tl (okS_tl hO)) hR hl) (fun hq => absurd hq (hi.mpr hp))
  · rw [if_neg hp] at hX
    obtain ⟨h1, h2, K⟩ := Kf r s' hX
    refine ⟨h1, h2, fun n0 k0 g1 g2 p e R s0 m args below meth c H locs ls hC hc hs hL hO hR hl => ?_⟩
    have hK := K n0 k0 g1 g2 p e R s0 m args below meth c H locs
    have oy : ok32 y := okS_hd hO
    have ox : ok32 x := okS_hd (okS_tl hO)
    have hi := not_congr (eq32 ox oy)
    exact lv_icmp_ne hC.1 hC.2.1 hd ht (fun hq => absurd (hi.mp hq) hp) (fun _ => hK ls hC hc hs hL (okS_tl (okS_tl hO)) hR hl)
theorem V_icmp_lt {x y : Int} {off : Int} {tgt : Nat} {X1 X2 : Rs} (hd : decode M.2.1 pc = .ok (.if_icmp .lt off, 3)) (ht : (pc : Int) + off = (tgt : Int)) (Kt : VQ QQ G l M tgt lv st s X1) (Kf : VQ QQ G l M (pc + 3) lv st s X2) : VQ QQ G l M pc lv ((0, y) :: (0, x) :: st) s (if x < y then X1 else X2) := by
  intro r s' hX
  by_cases hp : x < y
  · rw [if_pos hp] at hX
    obtain ⟨h1, h2, K⟩ := Kt r s' hX
    refine ⟨h1, h2, fun n0 k0 g1 g2 p e R s0 m args below meth c H locs ls hC hc hs hL hO hR hl => ?_⟩
    have hK := K n0 k0 g1 g2 p e R s0 m args below meth c H locs
    have oy : ok32 y := okS_hd hO
    have ox : ok32 x := okS_hd (okS_tl hO)
    have hi := lt32 ox oy
    exact lv_icmp_lt hC.1 hC.2.1 hd ht (fun _ => hK ls hC hc hs hL (okS_tl (okS_tl hO)) hR hl) (fun hq => absurd (hi.mpr hp) hq)
  · rw [if_neg hp] at hX
    obtain ⟨h1, h2, K⟩ := Kf r s' hX
    refine ⟨h1, h2, fun n0 k0 g1 g2 p e R s0 m args below meth c H locs ls hC hc hs hL hO hR hl => ?_⟩
    have hK := K n0 k0 g1 g2 p e R s0 m args below meth c H locs
    have oy : ok32 y := okS_hd hO
    have ox : ok32 x := okS_hd (okS_tl hO)
    have hi := lt32 ox oy
    exact lv_icmp_lt hC.1 hC.2.1 hd ht (fun hq => absurd (hi.mp hq) hp) (fun _ => hK ls hC hc hs hL (okS_tl (okS_tl hO)) hR hl)
theorem V_icmp_ge {x y : Int} {off : Int} {tgt : Nat} {X1 X2 : Rs} (hd : decode M.2.1 pc = .ok (.if_icmp .ge off, 3)) (ht : (pc : Int) + off = (tgt : Int)) (Kt : VQ QQ G l M tgt lv st s X1) (Kf : VQ QQ G l M (pc + 3) lv st s X2) : VQ QQ G l M pc lv ((0, y) :: (0, x) :: st) s (if y ≤ x then X1 else X2) := by
  intro r s' hX
  by_cases hp : y ≤ x
  · rw [if_pos hp] at hX
    obtain ⟨h1, h2, K⟩ := Kt r s' hX
    refine ⟨h1, h2, fun n0 k0 g1 g2 p e R s0 m args below meth c H locs ls hC hc hs hL hO hR hl => ?_⟩
    have hK := K n0 k0 g1 g2 p e R s0 m args below meth c H locs
    have oy : ok32 y := okS_hd hO
    have ox : ok32 x := okS_hd (okS_tl hO)
    have hi := le32 oy ox
    exact lv_icmp_ge hC.1 hC.2.1 hd ht (fun _ => hK ls hC hc hs hL (okS_tl (okS_tl hO)) hR hl) (fun hq => absurd (hi.mpr hp) hq)
  · rw [if_neg hp] at hX
    obtain ⟨h1, h2, K⟩ := Kf r s' hX
    refine ⟨h1, h2, fun n0 k0 g1 g2 p e R s0 m args below meth c H locs ls hC hc hs hL hO hR hl => ?_⟩
    have hK := K n0 k0 g1 g2 p e R s0 m args below meth c H locs
    have oy : ok32 y := okS_hd hO
    have ox : ok32 x := okS_hd (okS_tl hO)
    have hi := le32 oy ox
    exact lv_icmp_ge hC.1 hC.2.1 hd ht (fun hq => absurd (hi.mp hq) hp) (fun _ => hK ls hC hc hs hL (okS_tl (okS_tl hO)) hR hl)
theorem V_icmp_gt {x y : Int} {off : Int} {tgt : Nat} {X1 X2 : Rs} (hd : decode M.2.1 pc = .ok (.if_icmp .gt off, 3)) (ht : (pc : Int) + off = (tgt : Int)) (Kt : VQ QQ G l M tgt lv st s X1) (Kf : VQ QQ G l M (pc + 3) lv st s X2) : VQ QQ G l M pc lv ((0, y) :: (0, x) :: st) s (if y < x then X1 else X2) := by
  intro r s' hX
  by_cases hp : y < x
  · rw [if_pos hp] at hX
    obtain ⟨h1, h2, K⟩ := Kt r s' hX
    refine ⟨h1, h2, fun n0 k0 g1 g2 p e R s0 m args below meth c H locs ls hC hc hs hL hO hR hl => ?_⟩
    have hK := K n0 k0 g1 g2 p e R s0 m args below meth c H locs
    have oy : ok32 y := okS_hd hO
    have ox : ok32 x := okS_hd (okS_tl hO)
    have hi := lt32 oy ox
    exact lv_icmp_gt hC.1 hC.2.1 hd ht (fun _ => hK ls hC hc hs hL (okS_tl (okS_tl hO)) hR hl) (fun hq => absurd (hi.mpr hp) hq)
  · rw [if_neg hp] at hX
    obtain ⟨h1, h2, K⟩ := Kf r s' hX
    refine ⟨h1, h2, fun n0 k0 g1 g2 p e R s0 m args below meth c H locs ls hC hc hs hL hO hR hl => ?_⟩
    have hK := K n0 k0 g1 g2 p e R s0 m args below meth c H locs
    have oy : ok32 y := okS_hd hO
    have ox : ok32 x := okS_hd (okS_tl hO)
    have hi := lt32 oy ox
    exact lv_icmp_gt hC.1 hC.2.1 hd ht (fun hq => absurd (hi.mp hq) hp) (fun _ => hK ls hC hc hs hL (okS_tl (okS_tl hO)) hR hl)
theorem V_icmp_le {x y : Int} {off : Int} {tgt : Nat} {X1 X2 : Rs} (hd : decode M.2.1 pc = .ok (.if_icmp .le off, 3)) (ht : (pc : Int) + off = (tgt : Int)) (Kt : VQ QQ G l M tgt lv st s X1) (Kf : VQ QQ G l M (pc + 3) lv st s X2) : VQ QQ G l M pc lv ((0, y) :: (0, x) :: st) s (if x ≤ y then X1 else X2) := by
  intro r s' hX
  by_cases hp : x ≤ y
  · rw [if_pos hp] at hX
    obtain ⟨h1, h2, K⟩ := Kt r s' hX
    refine ⟨h1, h2, fun n0 k0 g1 g2 p e R s0 m args below meth c H locs ls hC hc hs hL hO hR hl => ?_⟩
    have hK := K n0 k0 g1 g2 p e R s0 m args below meth c H locs
    have oy : ok32 y := okS_hd hO
    have ox : ok32 x := okS_hd (okS_tl hO)
    have hi := le32 ox oy
    exact lv_icmp_le hC.1 hC.2.1 hd ht (fun _ => hK ls hC hc hs hL (okS_tl (okS_tl hO)) hR hl) (fun hq => absurd (hi.mpr hp) hq)
  · rw [if_neg hp] at hX
    obtain ⟨h1, h2, K⟩ := Kf r s' hX
    refine ⟨h1, h2, fun n0 k0 g1 g2 p e R s0 m args below meth c H locs ls hC hc hs hL hO hR hl => ?_⟩
    have hK := K n0 k0 g1 g2 p e R s0 m args below meth c H locs
    have oy : ok32 y := okS_hd hO
    have ox : ok32 x := okS_hd (okS_tl hO)
    have hi := le32 ox oy
    exact lv_icmp_le hC.1 hC.2.1 hd ht (fun hq => absurd (hi.mp hq) hp) (fun _ => hK ls hC hc hs hL (okS_tl (okS_tl hO)) hR hl)
theorem V_if_eq {x : Int} {off : Int} {tgt : Nat} {X1 X2 : Rs} (hd : decode M.2.1 pc = .ok (.ifCond .eq off, 3)) (ht : (pc : Int) + off = (tgt : Int)) (Kt : VQ QQ G l M tgt lv st s X1) (Kf : VQ QQ G l M (pc + 3) lv st s X2) : VQ QQ G l M pc lv ((0, x) :: st) s (if x = 0 then X1 else X2) := by
  intro r s' hX
  by_cases hp : x = 0
  · rw [if_pos hp] at hX
    obtain ⟨h1, h2, K⟩ := Kt r s' hX
    refine ⟨h1, h2, fun n0 k0 g1 g2 p e R s0 m args below meth c H locs ls hC hc hs hL hO hR hl => ?_⟩
    have hK := K n0 k0 g1 g2 p e R s0 m args below meth c H locs
    have ox : ok32 x := okS_hd hO
    have hi := eq0 ox
    exact lv_if_eq hC.1 hC.2.1 hd ht (fun _ => hK ls hC hc hs hL (okS_tl hO) hR hl) (fun hq => absurd (hi.mpr hp) hq)
  · rw [if_neg hp] at hX
    obtain ⟨h1, h2, K⟩ := Kf r s' hX
    refine ⟨h1, h2, fun n0 k0 g1 g2 p e R s0 m args below meth c H locs ls hC hc hs hL hO hR hl => ?_⟩
    have hK := K n0 k0 g1 g2 p e R s0 m args below meth c H locs
    have ox : ok32 x := okS_hd hO
    have hi := eq0 ox
    exact lv_if_eq hC.1 hC.2.1 hd ht (fun hq => absurd (hi.mp hq) hp) (fun _ => hK ls hC hc hs hL (okS_tl hO) hR hl)
theorem V_if_ne {x : Int} {off : Int} {tgt : Nat} {X1 X2 : Rs} (hd : decode M.2.1 pc = .ok (.ifCond .ne off, 3)) (ht : (pc : Int) + off = (tgt : Int)) (Kt : VQ QQ G l M tgt lv st s X1) (Kf : VQ QQ G l M (pc + 3) lv st s X2) : VQ QQ G l M pc lv ((0, x) :: st) s (if ¬ x = 0 then X1 else X2) := by
  intro r s' hX
  by_cases hp : ¬ x = 0
  · rw [if_pos hp] at hX
    obtain ⟨h1, h2, K⟩ := Kt r s' hX
    refine ⟨h1, h2, fun n0 k0 g1 g2 p e R s0 m args below meth c H locs ls hC hc hs hL hO hR hl => ?_⟩
    have hK := K n0 k0 g1 g2 p e R s0 m args below meth c H locs
    have ox : ok32 x := okS_hd hO
    have hi := not_congr (eq0 ox)
    exact lv_if_ne hC.1 hC.2.1 hd ht (fun _ => hK ls hC hc hs hL (okS_tl hO) hR hl) (fun hq => absurd hq (hi.mpr hp))
  · rw [if_neg hp] at hX
    obtain ⟨h1, h2, K⟩ := Kf r s' hX
    refine ⟨h1, h2, fun n0 k0 g1 g2 p e R s0 m args below meth c H locs ls hC hc hs hL hO hR hl => ?_⟩
    have hK := K n0 k0 g1 g2 p e R s0 m args below meth c H locs
    have ox : ok32 x := okS_hd hO
    have hi := not_congr (eq0 ox)
    exact lv_if_ne hC.1 hC.2.1 hd ht (fun hq => absurd (hi.mp hq) hp) (fun _ => hK ls hC hc hs hL (okS_tl hO) hR hl)
theorem V_if_lt {x : Int} {off : Int} {tgt : Nat} {X1 X2 : Rs} (hd : decode M.2.1 pc = .ok (.ifCond .lt off, 3)) (ht : (pc : Int) + off = (tgt : Int)) (Kt : VQ QQ G l M tgt lv st s X1) (Kf : VQ QQ G l M (pc + 3) lv st s X2) : VQ QQ G l M pc lv ((0, x) :: st) s (if x < 0 then X1 else X2) := by
  intro r s' hX
  by_cases hp : x < 0
  · rw [if_pos hp] at hX
    obtain ⟨h1, h2, K⟩ := Kt r s' hX
    refine ⟨h1, h2, fun n0 k0 g1 g2 p e R s0 m args below meth c H locs ls hC hc hs hL hO hR hl => ?_⟩
    have hK := K n0 k0 g1 g2 p e R s0 m args below meth c H locs
    have ox : ok32 x := okS_hd hO
    have hi := lt32 ox ok0
    exact lv_if_lt hC.1 hC.2.1 hd ht (fun _ => hK ls hC hc hs hL (okS_tl hO) hR hl) (fun hq => absurd (hi.mpr hp) hq)
  · rw [if_neg hp] at hX
    obtain ⟨h1, h2, K⟩ := Kf r s' hX
    refine ⟨h1, h2, fun n0 k0 g1 g2 p e R s0 m args below meth c H locs ls hC hc hs hL hO hR hl => ?_⟩
    have hK := K n0 k0 g1 g2 p e R s0 m args below meth c H locs
    have ox : ok32 x := okS_hd hO
    have hi := lt32 ox ok0
    exact lv_if_lt hC.1 hC.2.1 hd ht (fun hq => absurd (hi.mp hq) hp) (fun _ => hK ls hC hc hs hL (okS_tl hO) hR hl)
theorem V_if_ge {x : Int} {off : Int} {tgt : Nat} {X1 X2 : Rs} (hd : decode M.2.1 pc = .ok (.ifCond .ge off, 3)) (ht : (pc : Int) + off = (tgt : Int)) (Kt : VQ QQ G l M tgt lv st s X1) (Kf : VQ QQ G l M (pc + 3) lv st s X2) : VQ QQ G l M pc lv ((0, x) :: st) s (if 0 ≤ x then X1 else X2) := by
  intro r s' hX
  by_cases hp : 0 ≤ x
  · rw [if_pos hp] at hX
    obtain ⟨h1, h2, K⟩ := Kt r s' hX
    refine ⟨h1, h2, fun n0 k0 g1 g2 p e R s0 m args below meth c H locs ls hC hc hs hL hO hR hl => ?_⟩
    have hK := K n0 k0 g1 g2 p e R s0 m args below meth c H locs
    have ox : ok32 x := okS_hd hO
    have hi := le32 ok0 ox
    exact lv_if_ge hC.1 hC.2.1 hd ht (fun _ => hK ls hC hc hs hL (okS_tl hO) hR hl) (fun hq => absurd (hi.mpr hp) hq)
  · rw [if_neg hp] at hX
    obtain ⟨h1, h2, K⟩ := Kf r s' hX
    refine ⟨h1, h2, fun n0 k0 g1 g2 p e R s0 m args below meth c H locs ls hC hc hs hL hO hR hl => ?_⟩
    have hK := K n0 k0 g1 g2 p e R s0 m args below meth c H locs
    have ox : ok32 x := okS_hd hO
    have hi := le32 ok0 ox
    exact lv_if_ge hC.1 hC.2.1 hd ht (fun hq => absurd (hi.mp hq) hp) (fun _ => hK ls hC hc hs hL (okS_tl hO) hR hl)
theorem V_if_gt {x : Int} {off : Int} {tgt : Nat} {X1 X2 : Rs} (hd : decode M.2.1 pc = .ok (.ifCond .gt off, 3)) (ht : (pc : Int) + off = (tgt : Int)) (Kt : VQ QQ G l M tgt lv st s X1) (Kf : VQ QQ G l M (pc + 3) lv st s X2) : VQ QQ G l M pc lv ((0, x) :: st) s (if 0 < x then X1 else X2) := by
  intro r s' hX
  by_cases hp : 0 < x
  · rw [if_pos hp] at hX
    obtain ⟨h1, h2, K⟩ := Kt r s' hX
    refine ⟨h1, h2, fun n0 k0 g1 g2 p e R s0 m args below meth c H locs ls hC hc hs hL hO hR hl => ?_⟩
    have hK := K n0 k0 g1 g2 p e R s0 m args below meth c H locs
    have ox : ok32 x := okS_hd hO
    have hi := lt32 ok0 ox
    exact lv_if_gt hC.1 hC.2.1 hd ht (fun _ => hK ls hC hc hs hL (okS_tl hO) hR hl) (fun hq => absurd (hi.mpr hp) hq)
  · rw [if_neg hp] at hX
    obtain ⟨h1, h2, K⟩ := Kf r s' hX
    refine ⟨h1, h2, fun n0 k0 g1 g2 p e R s0 m args below meth c H locs ls hC hc hs hL hO hR hl => ?_⟩
    have hK := K n0 k0 g1 g2 p e R s0 m args below meth c H locs
    have ox : ok32 x := okS_hd hO
    have hi := lt32 ok0 ox
    exact lv_if_gt hC.1 hC.2.1 hd ht (fun hq => absurd (hi.mp hq) hp) (fun _ => hK ls hC hc hs hL (okS_tl hO) hR hl)
theorem V_if_le {x : Int} {off : Int} {tgt : Nat} {X1 X2 : Rs} (hd : decode M.2.1 pc = .ok (.ifCond .le off, 3)) (ht : (pc : Int) + off = (tgt : Int)) (Kt : VQ QQ G l M tgt lv st s X1) (Kf : VQ QQ G l M (pc + 3) lv st s X2) : VQ QQ G l M pc lv ((0, x) :: st) s (if x ≤ 0 then X1 else X2) := by
  intro r s' hX
  by_cases hp : x ≤ 0
  · rw [if_pos hp] at hX
    obtain ⟨h1, h2, K⟩ := Kt r s' hX
    refine ⟨h1, h2, fun n0 k0 g1 g2 p e R s0 m args below meth c H locs ls hC hc hs hL hO hR hl => ?_⟩
    have hK := K n0 k0 g1 g2 p e R s0 m args below meth c H locs
    have ox : ok32 x := okS_hd hO
    have hi := le32 ox ok0
    exact lv_if_le hC.1 hC.2.1 hd ht (fun _ => hK ls hC hc hs hL (okS_tl hO) hR hl) (fun hq => absurd (hi.mpr hp) hq)
  · rw [if_neg hp] at hX
    obtain ⟨h1, h2, K⟩ := Kf r s' hX
    refine ⟨h1, h2, fun n0 k0 g1 g2 p e R s0 m args below meth c H locs ls hC hc hs hL hO hR hl => ?_⟩
    have hK := K n0 k0 g1 g2 p e R s0 m args below meth c H locs
    have ox : ok32 x := okS_hd hO
    have hi := le32 ox ok0
    exact lv_if_le hC.1 hC.2.1 hd ht (fun hq => absurd (hi.mp hq) hp) (fun _ => hK ls hC hc hs hL (okS_tl hO) hR hl)
theorem mkR_neg {G : Gx} {x : Int} (h : x < 0) : mkR G x = .null := if_pos h
theorem mkR_pos {G : Gx} {x : Int} (h : ¬ x < 0) : ∃ a, mkR G x = .ref a := by
  unfold mkR
  rw [if_neg h]
  split
  · exact ⟨_, rfl⟩
  · exact ⟨_, rfl⟩
theorem V_ifnull {x : Int} {off : Int} {tgt : Nat} {X1 X2 : Rs} (hd : decode M.2.1 pc = .ok (.ifnull off, 3)) (ht : (pc : Int) + off = (tgt : Int)) (Kt : VQ QQ G l M tgt lv st s X1) (Kf : VQ QQ G l M (pc + 3) lv st s X2) : VQ QQ G l M pc lv ((2, x) :: st) s (if x < 0 then X1 else X2) := by
  intro r s' hX
  by_cases hp : x < 0
  · rw [if_pos hp] at hX
    obtain ⟨h1, h2, K⟩ := Kt r s' hX
    refine ⟨h1, h2, fun n0 k0 g1 g2 p e R s0 m args below meth c H locs ls hC hc hs hL hO hR hl => ?_⟩
    have hK := K n0 k0 g1 g2 p e R s0 m args below meth c H locs
    rw [List.map_cons, mv2, mkR_neg hp]
    exact lv_ifnullN hC.1 hC.2.1 hd ht (hK ls hC hc hs hL (okS_tl hO) hR hl)
  · rw [if_neg hp] at hX
    obtain ⟨h1, h2, K⟩ := Kf r s' hX
    refine ⟨h1, h2, fun n0 k0 g1 g2 p e R s0 m args below meth c H locs ls hC hc hs hL hO hR hl => ?_⟩
    have hK := K n0 k0 g1 g2 p e R s0 m args below meth c H locs
    obtain ⟨a, e1⟩ := mkR_pos (G := G) hp
    rw [List.map_cons, mv2, e1]
    exact lv_ifnull hC.1 hC.2.1 hd (hK ls hC hc hs hL (okS_tl hO) hR hl)
theorem V_ifnonnull {x : Int} {off : Int} {tgt : Nat} {X1 X2 : Rs} (hd : decode M.2.1 pc = .ok (.ifnonnull off, 3)) (ht : (pc : Int) + off = (tgt : Int)) (Kt : VQ QQ G l M (pc + 3) lv st s X1) (Kf : VQ QQ G l M tgt lv st s X2) : VQ QQ G l M pc lv ((2, x) :: st) s (if x < 0 then X1 else X2) := by
  intro r s' hX
  by_cases hp : x < 0
  · rw [if_pos hp] at hX
    obtain ⟨h1, h2, K⟩ := Kt r s' hX
    refine ⟨h1, h2, fun n0 k0 g1 g2 p e R s0 m args below meth c H locs ls hC hc hs hL hO hR hl => ?_⟩
    have hK := K n0 k0 g1 g2 p e R s0 m args below meth c H locs
    rw [List.map_cons, mv2, mkR_neg hp]
    exact lv_ifnonnullN hC.1 hC.2.1 hd (hK ls hC hc hs hL (okS_tl hO) hR hl)
  · rw [if_neg hp] at hX
    obtain ⟨h1, h2, K⟩ := Kf r s' hX
    refine ⟨h1, h2, fun n0 k0 g1 g2 p e R s0 m args below meth c H locs ls hC hc hs hL hO hR hl => ?_⟩
    have hK := K n0 k0 g1 g2 p e R s0 m args below meth c H locs
    obtain ⟨a, e1⟩ := mkR_pos (G := G) hp
    rw [List.map_cons, mv2, e1]
    exact lv_ifnonnull hC.1 hC.2.1 hd ht (hK ls hC hc hs hL (okS_tl hO) hR hl)
theorem V_goto {off : Int} {tgt : Nat} (hd : decode M.2.1 pc = .ok (.goto off, 3)) (ht : (pc : Int) + off = (tgt : Int)) (K : VQ QQ G l M tgt lv st s X) : VQ QQ G l M pc lv st s X := by
  intro r s' hX
  obtain ⟨h1, h2, K⟩ := K r s' hX
  refine ⟨h1, h2, fun n0 k0 g1 g2 p e R s0 m args below meth c H locs ls hC hc hs hL hO hR hl => ?_⟩
  have hK := K n0 k0 g1 g2 p e R s0 m args below meth c H locs
  exact lv_goto hC.1 hC.2.1 hd ht (hK ls hC hc hs hL hO hR hl)
end VROWS
