/-! rows of V: words of nest mates, System.arraycopy of int[], what String's own methods do on constants, the script -/
def isNest : Cond → Bool
  | .fieldLinkNest .. => true
  | .methodLinkNest .. => true
  | _ => false
theorem nw_of {w : Cond} (i : Nat) (h : lw_tbl[i]? = some w) (g : isNest w = true) : w ∈ NW := by
  refine List.mem_filter.mpr ⟨List.mem_of_getElem? h, ?_⟩
  cases w <;> first | rfl | (cases g; done)
theorem walk_nw {L : List (Nat × Cond)} (h : walkI L lw_tbl = true) (g : L.all (fun q => isNest q.2) = true) {i g0 : Nat} {w : Cond} (hi : L[i]? = some (g0, w)) : w ∈ NW := by
  obtain ⟨j, hj⟩ := List.getElem?_of_mem (walkI_in L lw_tbl h _ (List.mem_of_getElem? hi))
  exact nw_of j hj (List.all_eq_true.mp g _ (List.mem_of_getElem? hi))
theorem nl0 (x : Int) : ((0, x) : PV).1 ≠ 1 := fun h => by cases h
theorem nl2 (x : Int) : ((2, x) : PV).1 ≠ 1 := fun h => by cases h
def cpy (s : St) (src sp dst dp n : Int) : St := (s.1, s.2.1, s.2.2.1, fun b j => if b = dst.toNat ∧ dp.toNat ≤ j ∧ j < dp.toNat + n.toNat then s.2.2.2 src.toNat (sp.toNat + (j - dp.toNat)) else s.2.2.2 b j)
abbrev cpyOK (s : St) (src sp dst dp n : Int) : Prop := isK s 1 src ∧ isK s 1 dst ∧ 0 ≤ sp ∧ 0 ≤ dp ∧ 0 ≤ n ∧ sp + n ≤ ln s src ∧ dp + n ≤ ln s dst
def strD (x : Int) : List Nat := ((STRS[(x - 1000000).toNat]?).map (·.2.2.2)).getD []
def strLen (x : Int) : Int := (strD x).length
def strAt (x i : Int) : Int := (((strD x).getD i.toNat 0 : Nat) : Int)
abbrev isStr (x : Int) : Prop := 1000000 ≤ x ∧ x < 1000033
abbrev isSV (x : Int) : Prop := 1001000 ≤ x ∧ x < 1001033
theorem strs_ok : ∀ i, i < 33 → ((STRS[i]?).map (·.2.2.2)).isSome = true ∧ (((STRS[i]?).map (·.2.2.2)).getD []).length ≤ 1000 ∧ ∀ c ∈ ((STRS[i]?).map (·.2.2.2)).getD [], c < 128 := by decide +kernel
theorem str_q {x : Int} (h : isStr x) : ∃ q, STRS[(x - 1000000).toNat]? = some q ∧ strD x = q.2.2.2 ∧ q.2.2.2.length ≤ 1000 ∧ ∀ c ∈ q.2.2.2, c < 128 := by
  obtain ⟨a, b, c⟩ := strs_ok (x - 1000000).toNat (by omega)
  unfold strD
  cases hq : STRS[(x - 1000000).toNat]? with
  | none => rw [hq] at a; cases a
  | some q => rw [hq] at b c; exact ⟨q, rfl, rfl, b, c⟩
theorem mk_str {G : Gx} {x : Int} (h : 1000000 ≤ x) : mkR G x = .ref (G.2.2.2.2.1 (x - 1000000).toNat) := by
  unfold mkR
  rw [if_neg (by omega), if_neg (by omega)]
theorem Rel.low {G : Gx} {s : St} {H : Heap} (h : Rel G s H) {a : Nat} {cell : Cell} (ha : ¬ G.1 ≤ a) (hc : G.2.2.2.1[a]? = some cell) : H[a]? = some cell := by rw [h.2.2.1 a (by omega)]; exact hc
section VLIB
variable {QQ : QT} {G : Gx} {l : Launch} {M : MI} {pc : Nat} {lv : List (Nat × PV)} {st : List PV} {s : St} {X : Rs}
theorem cpy_w : Cond.native arraycopyName ∈ TW ∧ Cond.static arraycopyName ∈ TW ∧ Cond.initialized "java/lang/System" ∈ TW := ⟨List.mem_filter.mpr ⟨by decide +kernel, rfl⟩, List.mem_filter.mpr ⟨by decide +kernel, rfl⟩, List.mem_filter.mpr ⟨by decide +kernel, rfl⟩⟩
theorem V_copy {idx : Nat} {src sp dst dp n : Int} (h1 : Cond.methodLink M.1.cls idx arraycopyName ∈ TW) (hr : Nat.ble 1 M.2.2.2.2.1 = true) (hr2 : Nat.ble (wsum st + (nativeFrameWords "java/lang/System" "arraycopy" 5 + 11)) M.2.2.2.2.2 = true) (hd : decode M.2.1 pc = .ok (.invokestatic idx, 3)) (K : VQ QQ G l M (pc + 3) lv st (cpy s src sp dst dp n) X) : VQ QQ G l M pc lv ((0, n) :: (0, dp) :: (2, dst) :: (0, sp) :: (2, src) :: st) s (grd (cpyOK s src sp dst dp n) X) := by
  refine V_grd fun hg => ?_
  obtain ⟨hks, hkd, p1, p2, p3, p4, p5⟩ := hg
  intro r s' hX
  obtain ⟨m1, m2, K⟩ := K r s' hX
  refine ⟨m1, m2, fun n0 k0 g1 g2 p e R s0 m args below meth c H locs ls hC hc hs hL hO hR hl => ?_⟩
  obtain ⟨hx, hb, hml, -, hown, hts, hKN, -, -, hf, hlo⟩ := id hC
  have on : ok32 n := okS_hd hO
  have od : ok32 dp := okS_hd (okS_tl hO)
  have os : ok32 sp := okS_hd (okS_tl (okS_tl (okS_tl hO)))
  obtain ⟨a1, a2, a3⟩ := hR.a1 hks
  obtain ⟨b1, b2, b3⟩ := hR.a1 hkd
  have z1 : ¬ Int32.ofInt sp < 0 := fun q => by have := (lt32 os ok0).mp q; omega
  have z2 : ¬ Int32.ofInt dp < 0 := fun q => by have := (lt32 od ok0).mp q; omega
  have z3 : ¬ Int32.ofInt n < 0 := fun q => by have := (lt32 on ok0).mp q; omega
  rw [List.map_cons, List.map_cons, List.map_cons, List.map_cons, List.map_cons, mv2, mv2, mkR_in hks.1, mkR_in hkd.1]
  unfold ln at p4 p5
  generalize hfs : (fun i => Int32.ofInt (s.2.2.2 src.toNat i)) = f
  generalize hgs : (fun i => Int32.ofInt (s.2.2.2 dst.toNat i)) = g
  have c0 : H[G.1 + src.toNat]? = some (vp_cell (G.2.2.1 1) ((s.2.1 src.toNat).2, .inl f)) := by rw [a2, ← hfs]; rfl
  have c1 : H[G.1 + dst.toNat]? = some (vp_cell (G.2.2.1 1) ((s.2.1 dst.toNat).2, .inl g)) := by rw [b2, ← hgs]; rfl
  have hA := (tA G hKN).1
  have nn : ∀ z : Int32, ¬ z < 0 → z.toInt = (z.toNatClampNeg : Int) := by
    intro z hz
    have hz0 : (0 : Int) ≤ z.toInt := by
      have := Int32.not_lt.mp hz
      simpa using Int32.le_iff_toInt_le.mp this
    show z.toInt = ((z.toInt.toNat : Nat) : Int)
    omega
  have e1 : (Int32.ofInt sp).toNatClampNeg = sp.toNat := clamp32 os
  have e2 : (Int32.ofInt dp).toNatClampNeg = dp.toNat := clamp32 od
  have e3 : (Int32.ofInt n).toNatClampNeg = n.toNat := clamp32 on
  intro T hT Y
  obtain ⟨-, kk0, hk0, cm0, hkk0⟩ := hA (s.2.1 src.toNat).2 (fun j => .int (f j))
  obtain ⟨-, kk1, hk1, cm1, hkk1⟩ := hA (s.2.1 dst.toNat).2 (fun j => .int (g j))
  obtain ⟨vm', X', step⟩ := Y.arraycopy hx hown (hts _ h1) (hts _ cpy_w.1) (hts _ cpy_w.2.1) (hts _ cpy_w.2.2) (src := G.1 + src.toNat) (dst := G.1 + dst.toNat) (cs := vp_cell (G.2.2.1 1) ((s.2.1 src.toNat).2, .inl f)) (cd := vp_cell (G.2.2.1 1) ((s.2.1 dst.toNat).2, .inl g)) (srcPos := Int32.ofInt sp) (destPos := Int32.ofInt dp) (n := Int32.ofInt n) (by rw [hT]; exact c0) (by rw [hT]; exact c1)
    (fun _ h => by cases h) (fun _ h => by cases h) (fun h => by cases h) (fun h => by cases h) hk0 hk1 hkk0 hkk1 (by simp [refKind]) z1 z2 z3
    (by rw [nn _ z1, nn _ z3, e1, e3]; show ¬ _ > ((arrV _ _ (fun j => .int (f j))).slots.size : Int); rw [arrV_size]; omega)
    (by rw [nn _ z2, nn _ z3, e2, e3]; show ¬ _ > ((arrV _ _ (fun j => .int (g j))).slots.size : Int); rw [arrV_size]; omega)
    (fun vm₁ _ i hi => by
      rw [e3] at hi
      have e : (vp_cell (G.2.2.1 1) ((s.2.1 src.toNat).2, .inl f)).slots.getD ((Int32.ofInt sp).toNatClampNeg + i) .null = .int (f ((Int32.ofInt sp).toNatClampNeg + i)) := by
        show (arrV _ _ (fun j => .int (f j))).slots.getD _ _ = _
        rw [Array.getD_eq_getD_getElem?, arrV_read _ _ (by rw [e1]; omega)]
        rfl
      refine ⟨?_, ?_⟩
      · rw [e]; rfl
      · rw [e]; exact trivial)
    (g := F0 m pc ls (.int (Int32.ofInt n) :: .int (Int32.ofInt dp) :: .ref (G.1 + dst.toNat) :: .int (Int32.ofInt sp) :: .ref (G.1 + src.toNat) :: st.map (mv G))) rfl (by rw [hml]; exact hL.1.1) (rest := st.map (mv G)) rfl (by rw [hb]; exact hd) (by rw [hf]; exact Nat.le_of_ble_eq_true hr) (by
      have := Nat.le_of_ble_eq_true hr2
      rw [wsum_eq, hlo]
      show 2 * 0 + _ + _ ≤ _
      omega)
  have ec : copied (vp_cell (G.2.2.1 1) ((s.2.1 src.toNat).2, .inl f)) (vp_cell (G.2.2.1 1) ((s.2.1 dst.toNat).2, .inl g)) (Int32.ofInt sp) (Int32.ofInt dp) (Int32.ofInt n) = vp_cell (G.2.2.1 1) ((s.2.1 dst.toNat).2, .inl (va_cpy f g (Int32.ofInt sp).toNatClampNeg (Int32.ofInt dp).toNatClampNeg (Int32.ofInt n).toNatClampNeg)) := va_copied (fun z => .int z) _ _ f g (by rw [e1, e3]; omega)
  rw [ec, e1, e2, e3] at X' step
  generalize hnc : vp_cell (G.2.2.1 1) ((s.2.1 dst.toNat).2, .inl (va_cpy f g sp.toNat dp.toNat n.toNat)) = nc at X' step
  have hlt : G.1 + dst.toNat < H.size := (Array.getElem?_eq_some_iff.mp c1).1
  have hheap : ((T.setVm vm').setCell (G.1 + dst.toNat) nc).heap = H.setIfInBounds (G.1 + dst.toNat) nc := by rw [← hT]; rfl
  have oq : ∀ q : Nat, q ≠ G.1 + dst.toNat → (H.setIfInBounds (G.1 + dst.toNat) nc)[q]? = H[q]? := fun q hq => by simp [Array.getElem?_setIfInBounds, Ne.symm hq]
  have oa : (H.setIfInBounds (G.1 + dst.toNat) nc)[G.1 + dst.toNat]? = some nc := by simp [Array.getElem?_setIfInBounds, hlt]
  have hR1 : Rel G (cpy s src sp dst dp n) (H.setIfInBounds (G.1 + dst.toNat) nc) := by
    refine hR.set rfl rfl (a := dst.toNat) (fun b hb => ⟨rfl, funext fun j => if_neg (fun h => hb h.1)⟩) (by simp) oq ?_
    rw [oa]
    have hk2 : (s.2.1 dst.toNat).1 = 1 := hkd.2
    have e9 : (cpy s src sp dst dp n).2.1 = s.2.1 := rfl
    have ev : ∀ j, (cpy s src sp dst dp n).2.2.2 dst.toNat j = if dp.toNat ≤ j ∧ j < dp.toNat + n.toNat then s.2.2.2 src.toNat (sp.toNat + (j - dp.toNat)) else s.2.2.2 dst.toNat j := fun j => by
      show (if dst.toNat = dst.toNat ∧ dp.toNat ≤ j ∧ j < dp.toNat + n.toNat then _ else _) = _
      by_cases h : dp.toNat ≤ j ∧ j < dp.toNat + n.toNat
      · rw [if_pos ⟨rfl, h⟩, if_pos h]
      · rw [if_neg (fun q => h q.2), if_neg h]
    unfold cellR
    rw [e9, hk2]
    refine ⟨fun _ => ⟨b1, ?_, fun i hi => ?_⟩, fun q => by omega, fun q => by omega, fun q => by omega, fun ci q => by omega⟩
    · rw [← hnc, vp_cell_i]
      congr 2
      funext j
      show Value.int (va_cpy f g sp.toNat dp.toNat n.toNat j) = .int (Int32.ofInt ((cpy s src sp dst dp n).2.2.2 dst.toNat j))
      rw [ev j]
      unfold va_cpy
      by_cases h : dp.toNat ≤ j ∧ j < dp.toNat + n.toNat
      · rw [if_pos h, if_pos h, ← hfs]
      · rw [if_neg h, if_neg h, ← hgs]
    · rw [ev i]
      by_cases h : dp.toNat ≤ i ∧ i < dp.toNat + n.toNat
      · rw [if_pos h]; exact a3 _ (by omega)
      · rw [if_neg h]; exact b3 _ hi
  obtain ⟨t, q1, q2⟩ := K n0 k0 g1 g2 p e R s0 m args below meth c _ _ ls hC hc hs hL (okS_tl (okS_tl (okS_tl (okS_tl (okS_tl hO))))) hR1 (fun q hq => by
    rcases List.mem_append.mp hq with h | h
    · exact hl q h
    · obtain ⟨z, -, hz⟩ := List.mem_map.mp h
      rw [← hz]
      exact Nat.le_add_right _ _) _ hheap X'
  exact ⟨t, step t q1, q2⟩
/-! String's own: the static, the two fields, the bytes -/
theorem V_gsC {idx : Nat} (hw : Cond.fieldLink M.1.cls idx "java/lang/String" "COMPACT_STRINGS" "Z" ∈ TW) (hd : decode M.2.1 pc = .ok (.getstatic idx, 3)) (K : VQ QQ G l M (pc + 3) lv ((0, 1) :: st) s X) : VQ QQ G l M pc lv st s X := by
  intro r s' hX
  obtain ⟨m1, m2, K⟩ := K r s' hX
  refine ⟨m1, m2, fun n0 k0 g1 g2 p e R s0 m args below meth c H locs ls hC hc hs hL hO hR hl => ?_⟩
  obtain ⟨hx, hb, hml, -, hown, hts, hKN, -, -, hf, hlo⟩ := id hC
  obtain ⟨cf, kf, fi, f, a, cell, h1, h2, h3, h4, h5, h6, h7, h8⟩ := hKN.2.2.2.1.2
  exact W.gets hx hb hown (hts _ hw) h1 h2 h3 h4 (hR.low h8 h5) (fun e => by rw [e] at h6; cases h6) h7 rfl hd (K n0 k0 g1 g2 p e R s0 m args below meth c H locs ls hC hc hs hL (okS_cons (v := (0, 1)) (n32_ok rfl) hO) hR hl)
theorem V_gsF {idx : Nat} (hw : Cond.fieldLink M.1.cls idx "jdk/internal/util/Preconditions" "SIOOBE_FORMATTER" "Ljava/util/function/BiFunction;" ∈ TW) (hd : decode M.2.1 pc = .ok (.getstatic idx, 3)) (K : ∀ z : Int, VQ QQ G l M (pc + 3) lv ((2, z) :: st) s X) : VQ QQ G l M pc lv st s X := by
  intro r s' hX
  have hm1 := K 0 r s' hX
  refine ⟨hm1.1, hm1.2.1, fun n0 k0 g1 g2 p e R s0 m args below meth c H locs ls hC hc hs hL hO hR hl => ?_⟩
  obtain ⟨hx, hb, hml, -, hown, hts, hKN, -, -, hf, hlo⟩ := id hC
  obtain ⟨z, cf, kf, fi, f, a, cell, h1, h2, h3, h4, h5, h6, h7, h8⟩ := hKN.2.2.2.2.1
  exact W.gets hx hb hown (hts _ hw) h1 h2 h3 h4 (hR.low h8 h5) (fun e => by rw [e] at h6; cases h6) h7 rfl hd ((K z r s' hX).2.2 n0 k0 g1 g2 p e R s0 m args below meth c H locs ls hC hc hs hL (okS_cons (v := (2, z)) trivial hO) hR hl)
theorem V_sgC {idx : Nat} {x : Int} (hw : Cond.fieldLink M.1.cls idx "java/lang/String" "coder" "B" ∈ TW) (hd : decode M.2.1 pc = .ok (.getfield idx, 3)) (K : VQ QQ G l M (pc + 3) lv ((0, 0) :: st) s X) : VQ QQ G l M pc lv ((2, x) :: st) s (grd (isStr x) X) := by
  refine V_grd fun hk => ?_
  intro r s' hX
  obtain ⟨m1, m2, K⟩ := K r s' hX
  refine ⟨m1, m2, fun n0 k0 g1 g2 p e R s0 m args below meth c H locs ls hC hc hs hL hO hR hl => ?_⟩
  obtain ⟨hx, hb, hml, -, hown, hts, hKN, -, -, hf, hlo⟩ := id hC
  obtain ⟨q, hq, -⟩ := str_q hk
  obtain ⟨cf, k, fi, f, cell, h1, h2, h3, h4, h5, h6⟩ := (hKN.2.2.2.1.1 _ q hq).2.2.1
  rw [List.map_cons, mv2, mk_str hk.1]
  exact W.getf hx hb hown (hts _ hw) h1 h2 (hR.low h6 h3) h4 (v := .int 0) h5 rfl rfl hd (K n0 k0 g1 g2 p e R s0 m args below meth c H locs ls hC hc hs hL (okS_cons (v := (0, 0)) ok0 (okS_tl hO)) hR hl)
theorem V_sgV {idx : Nat} {x : Int} (hw : Cond.fieldLink M.1.cls idx "java/lang/String" "value" "[B" ∈ TW) (hd : decode M.2.1 pc = .ok (.getfield idx, 3)) (K : VQ QQ G l M (pc + 3) lv ((2, x + 1000) :: st) s X) : VQ QQ G l M pc lv ((2, x) :: st) s (grd (isStr x) X) := by
  refine V_grd fun hk => ?_
  intro r s' hX
  obtain ⟨m1, m2, K⟩ := K r s' hX
  refine ⟨m1, m2, fun n0 k0 g1 g2 p e R s0 m args below meth c H locs ls hC hc hs hL hO hR hl => ?_⟩
  obtain ⟨hx, hb, hml, -, hown, hts, hKN, -, -, hf, hlo⟩ := id hC
  obtain ⟨q, hq, -⟩ := str_q hk
  obtain ⟨cf, k, fi, f, cell, h1, h2, h3, h4, h5, h6⟩ := (hKN.2.2.2.1.1 _ q hq).2.2.2.1
  have hK := K n0 k0 g1 g2 p e R s0 m args below meth c H locs ls hC hc hs hL (okS_cons (v := (2, x + 1000)) trivial (okS_tl hO)) hR hl
  rw [List.map_cons, mv2, mk_str (by omega), show (x + 1000 - 1000000).toNat = 1000 + (x - 1000000).toNat by omega, hKN.2.2.2.2.2.2.2 _ (by omega)] at hK
  rw [List.map_cons, mv2, mk_str hk.1]
  exact W.getf hx hb hown (hts _ hw) h1 h2 (hR.low h6 h3) h4 (v := .ref (G.2.2.2.2.2.1 (x - 1000000).toNat)) h5 rfl rfl hd hK
theorem sv_T {U : State} {x : Int} (hKN : KN G U) (hk : isSV x) : ∃ (q : String × Nat × String × List Nat) (cell : Cell) (a : Nat), STRS[(x - 1001000).toNat]? = some q ∧ strD (x - 1000) = q.2.2.2 ∧ q.2.2.2.length ≤ 1000 ∧ (∀ c ∈ q.2.2.2, c < 128) ∧ mkR G x = .ref a ∧ G.2.2.2.1[a]? = some cell ∧ U.isArrayOf cell .byte ∧ cell.vm ≠ .unknown ∧ q.2.2.2.length ≤ cell.slots.size ∧ cell.slots.size.toInt32 = Int32.ofNat q.2.2.2.length ∧ (∀ j : Nat, j < q.2.2.2.length → cell.slots[j]? = some (.int (nI (q.2.2.2.getD j 0)))) ∧ ¬ G.1 ≤ a := by
  obtain ⟨q, hq, e1, e2, e3⟩ := str_q (x := x - 1000) (by constructor <;> omega)
  have hi : (x - 1000 - 1000000).toNat = (x - 1001000).toNat := by omega
  rw [hi] at hq
  obtain ⟨cell, t1, t2, t3, t4, t5, t6, t7⟩ := (hKN.2.2.2.1.1 _ q hq).2.2.2.2
  refine ⟨q, cell, G.2.2.2.2.2.1 (x - 1001000).toNat, hq, e1, e2, e3, ?_, t1, t2, t3, t4, t5, t6, t7⟩
  rw [mk_str (by omega), show (x - 1000000).toNat = 1000 + (x - 1001000).toNat by omega, hKN.2.2.2.2.2.2.2 _ (by omega)]
theorem V_salen {x : Int} (hd : decode M.2.1 pc = .ok (.arraylength, 1)) (K : VQ QQ G l M (pc + 1) lv ((0, strLen (x - 1000)) :: st) s X) : VQ QQ G l M pc lv ((2, x) :: st) s (grd (isSV x) X) := by
  refine V_grd fun hk => ?_
  intro r s' hX
  obtain ⟨m1, m2, K⟩ := K r s' hX
  refine ⟨m1, m2, fun n0 k0 g1 g2 p e R s0 m args below meth c H locs ls hC hc hs hL hO hR hl => ?_⟩
  obtain ⟨hx, hb, hml, -, hown, hts, hKN, -, -, hf, hlo⟩ := id hC
  obtain ⟨q, cell, a, e0, e1, e2, e3, e4, t1, t2, t3, t4, t5, t6, t7⟩ := sv_T hKN hk
  have hK := K n0 k0 g1 g2 p e R s0 m args below meth c H locs ls hC hc hs hL (okS_cons (v := (0, strLen (x - 1000))) (show ok32 _ by unfold strLen ok32; rw [e1]; omega) (okS_tl hO)) hR hl
  rw [List.map_cons, mv2, e4]
  exact W.alen (n := Int32.ofInt (strLen (x - 1000))) hx hb (hR.low t7 t1) t2 (by rw [t5]; unfold strLen; rw [e1]; rfl) rfl rfl hd hK
theorem V_sbald {x i : Int} (hd : decode M.2.1 pc = .ok (.baload, 1)) (K : VQ QQ G l M (pc + 1) lv ((0, strAt (x - 1000) i) :: st) s X) : VQ QQ G l M pc lv ((0, i) :: (2, x) :: st) s (grd (isSV x ∧ 0 ≤ i ∧ i < strLen (x - 1000)) X) := by
  refine V_grd fun hk => ?_
  obtain ⟨hk, hi⟩ := hk
  intro r s' hX
  obtain ⟨m1, m2, K⟩ := K r s' hX
  refine ⟨m1, m2, fun n0 k0 g1 g2 p e R s0 m args below meth c H locs ls hC hc hs hL hO hR hl => ?_⟩
  obtain ⟨hx, hb, hml, -, hown, hts, hKN, -, -, hf, hlo⟩ := id hC
  obtain ⟨q, cell, a, e0, e1, e2, e3, e4, t1, t2, t3, t4, t5, t6, t7⟩ := sv_T hKN hk
  have oi : ok32 i := okS_hd hO
  have hlt : i.toNat < q.2.2.2.length := by have := hi.2; unfold strLen at this; rw [e1] at this; omega
  have hch : q.2.2.2.getD i.toNat 0 < 128 := by
    rw [List.getD_eq_getElem?_getD, List.getElem?_eq_getElem hlt]
    exact e3 _ (List.getElem_mem hlt)
  have hK := K n0 k0 g1 g2 p e R s0 m args below meth c H locs ls hC hc hs hL (okS_cons (v := (0, strAt (x - 1000) i)) (show ok32 _ by unfold strAt ok32; rw [e1]; omega) (okS_tl (okS_tl hO))) hR hl
  rw [List.map_cons, List.map_cons, mv2, e4]
  exact W.bald hx hb (hR.low t7 t1) t2 t3 (fun w => v1 oi (n := q.2.2.2.length) ⟨hi.1, by have := hi.2; unfold strLen at this; rw [e1] at this; exact this⟩ (by rcases w with w | w; exact Or.inl w; exact Or.inr (Nat.le_trans t4 w))) (v := mv G (0, strAt (x - 1000) i)) (by rw [clamp32 oi, t6 _ hlt]; unfold strAt; rw [e1]; rfl) rfl rfl hd hK
theorem i2c32 {x : Int} (h : 0 ≤ x ∧ x ≤ 65535) : ((Int32.ofInt x).toUInt32 % 65536).toInt32 = Int32.ofInt x := by
  obtain ⟨n, rfl⟩ : ∃ n : Nat, x = (n : Int) := ⟨x.toNat, by omega⟩
  have h2 : n < 65536 := by omega
  have : (Int32.ofInt (n : Int)) = nI n := rfl
  rw [this, pk_char, pk_tn (by omega), Nat.mod_eq_of_lt h2]
theorem V_i2c {x : Int} (hd : decode M.2.1 pc = .ok (.i2c, 1)) (K : VQ QQ G l M (pc + 1) lv ((0, x) :: st) s X) : VQ QQ G l M pc lv ((0, x) :: st) s (grd (0 ≤ x ∧ x ≤ 65535) X) := by
  refine V_grd fun hk => ?_
  intro r s' hX
  obtain ⟨m1, m2, K⟩ := K r s' hX
  refine ⟨m1, m2, fun n0 k0 g1 g2 p e R s0 m args below meth c H locs ls hC hc hs hL hO hR hl => ?_⟩
  exact lv_i2c hC.1 hC.2.1 hd (i2c32 hk) (K n0 k0 g1 g2 p e R s0 m args below meth c H locs ls hC hc hs hL hO hR hl)
theorem V_cret {x : Int} (hr : M.2.2.2.1 = some .char) (hd : decode M.2.1 pc = .ok (.ireturn, 1)) : V G l M pc lv [(0, x)] s (grd (0 ≤ x ∧ x ≤ 65535) (some (x, s))) := by
  refine V_grd fun hk => ?_
  intro r s' hX
  cases hX
  refine ⟨Nat.le_refl _, Nat.le_refl _, fun n0 k0 g1 g2 p e R s0 m args below meth c H locs ls hC hc hs hL hO hR hl => ?_⟩
  have hlk := hC.2.2.2.2.2.2.2.1
  have hn : narrow .char (.int (Int32.ofInt x)) = .int (Int32.ofInt x) := by
    obtain ⟨n, rfl⟩ : ∃ n : Nat, x = (n : Int) := ⟨x.toNat, by omega⟩
    exact (pk_charN (q := n) (by omega)).1
  refine W.zret (v := Int32.ofInt x) hC.1 hC.2.1 (hC.2.2.2.1.trans hr) hn (fun t ht hW => ⟨⟨_, rfl, ?_⟩, by rw [ht]; exact hR⟩) hl hd hlk
  unfold RV
  rw [hr, if_neg (by decide)]
  exact ⟨rfl, okS_hd hO⟩
theorem V_bret {x : Int} (hr : M.2.2.2.1 = some .byte) (hd : decode M.2.1 pc = .ok (.ireturn, 1)) : V G l M pc lv [(0, x)] s (grd (x = 0) (some (x, s))) := by
  refine V_grd fun hk => ?_
  intro r s' hX
  cases hX
  refine ⟨Nat.le_refl _, Nat.le_refl _, fun n0 k0 g1 g2 p e R s0 m args below meth c H locs ls hC hc hs hL hO hR hl => ?_⟩
  have hlk := hC.2.2.2.2.2.2.2.1
  refine W.zret (v := Int32.ofInt x) hC.1 hC.2.1 (hC.2.2.2.1.trans hr) (by subst hk; decide) (fun t ht hW => ⟨⟨_, rfl, ?_⟩, by rw [ht]; exact hR⟩) hl hd hlk
  unfold RV
  rw [hr, if_neg (by decide)]
  exact ⟨rfl, okS_hd hO⟩
theorem V_callVs {a : Int} {As stk : List PV} {F : Rs} {Xk : Int → St → Rs} {M' : MI} {idx n : Nat} (hci : M'.1.cls = "java/lang/String") (hstk : stk = As.reverse ++ (2, a) :: st) (hS : Snd G l M' ((2, a) :: As) s F) (hcal : CalV M' n) (hn : As.length = n) (hlk : Cond.methodLink M.1.cls idx M'.1 ∈ TW) (hroom : roomM M M' = true) (hw : Nat.ble (wsum st) 8 = true) (hd : decode M.2.1 pc = .ok (.invokevirtual idx, 3))
    (K : ∀ (r1 : Int) (s1 : St), ∃ st1, (∀ v, RV G M'.2.2.2.1 r1 v → v.toList ++ st.map (mv G) = st1.map (mv G) ∧ (okS st → okS st1)) ∧ VQ QQ G l M (pc + 3) lv st1 s1 (Xk r1 s1)) : VQ QQ G l M pc lv stk s (grd (isStr a) (bnd F Xk)) := by
  refine V_grd fun hk => ?_
  subst hstk
  refine V_runs (As := (2, a) :: As) (fun v hv => ?_) (fun v hv => List.mem_append_right _ (List.mem_cons_of_mem _ hv)) hS ?_ K
  · rcases List.mem_cons.mp hv with rfl | hv
    · exact List.mem_append_right _ List.mem_cons_self
    · exact List.mem_append_left _ (List.mem_reverse.mpr hv)
  intro r1 s1 mc ms e1 e2 hM p e R s0 m args below meth c H locs ls cells slots hC hls hR hc1 hc2
  obtain ⟨q, hq, -⟩ := str_q hk
  have hKN := hC.2.2.2.2.2.2.1
  obtain ⟨cell, q1, q2, q3, q4⟩ := (hKN.2.2.2.1.1 _ q hq).2.1
  have hPC := pcS (As := (2, a) :: As) hKN hR
  have e9 : mv G (2, a) = .ref (G.2.2.2.2.1 (a - 1000000).toNat) := by rw [mv2, mk_str hk.1]
  rw [List.map_cons, e9] at hPC ⊢
  exact va_runV (As := As.map (mv G)) (fix hC) hM ⟨cb hC hcal.1 hlk hroom, hC.2.2.2.2.2.1 _ hcal.2.1, hC.2.2.2.2.2.1 _ hcal.2.2⟩ ⟨hPC.1, ⟨cell, hR.low q4 q1, q2, by rw [hci]; exact q3⟩, hPC.2⟩ rfl (by rw [List.length_map]; exact hn) hls (by rw [← e9]; exact map_ra G As ((2, a) :: st)) (rw8 hw) hd ⟨hc1, hc2⟩
/-! the script, at 1002000 -/
theorem V_slen (hd : decode M.2.1 pc = .ok (.arraylength, 1)) (K : VQ QQ G l M (pc + 1) lv ((0, (G.2.2.2.2.2.2.1 : Int)) :: st) s X) : VQ QQ G l M pc lv ((2, 1002000) :: st) s X := by
  intro r s' hX
  obtain ⟨m1, m2, K⟩ := K r s' hX
  refine ⟨m1, m2, fun n0 k0 g1 g2 p e R s0 m args below meth c H locs ls hC hc hs hL hO hR hl => ?_⟩
  obtain ⟨hx, hb, hml, -, hown, hts, hKN, -, -, hf, hlo⟩ := id hC
  obtain ⟨scr, c1, c2, c3, c4, c5, c6⟩ := hKN.2.2.2.2.2.1
  have hlt : G.2.2.2.2.1 2000 < G.1 := by rw [← hR.2.1]; exact (Array.getElem?_eq_some_iff.mp c1).1
  have hK := K n0 k0 g1 g2 p e R s0 m args below meth c H locs ls hC hc hs hL (okS_cons (v := (0, (G.2.2.2.2.2.2.1 : Int))) (show ok32 _ by unfold ok32; omega) (okS_tl hO)) hR hl
  rw [List.map_cons, mv2, mk_str (by decide)]
  exact W.alen (n := Int32.ofInt (G.2.2.2.2.2.2.1 : Int)) hx hb (hR.low (by show ¬ G.1 ≤ G.2.2.2.2.1 2000; omega) c1) c2 (by rw [c4]; rfl) rfl rfl hd hK
theorem V_sald {i : Int} (hd : decode M.2.1 pc = .ok (.iaload, 1)) (K : VQ QQ G l M (pc + 1) lv ((0, G.2.2.2.2.2.2.2 i.toNat) :: st) s X) : VQ QQ G l M pc lv ((0, i) :: (2, 1002000) :: st) s (grd (0 ≤ i ∧ i < (G.2.2.2.2.2.2.1 : Int)) X) := by
  refine V_grd fun hi => ?_
  intro r s' hX
  obtain ⟨m1, m2, K⟩ := K r s' hX
  refine ⟨m1, m2, fun n0 k0 g1 g2 p e R s0 m args below meth c H locs ls hC hc hs hL hO hR hl => ?_⟩
  obtain ⟨hx, hb, hml, -, hown, hts, hKN, -, -, hf, hlo⟩ := id hC
  obtain ⟨scr, c1, c2, c3, c4, c5, c6⟩ := hKN.2.2.2.2.2.1
  have hlt : G.2.2.2.2.1 2000 < G.1 := by rw [← hR.2.1]; exact (Array.getElem?_eq_some_iff.mp c1).1
  have oi : ok32 i := okS_hd hO
  obtain ⟨d1, d2⟩ := c6 i.toNat (by omega)
  have hK := K n0 k0 g1 g2 p e R s0 m args below meth c H locs ls hC hc hs hL (okS_cons (v := (0, G.2.2.2.2.2.2.2 i.toNat)) d2 (okS_tl (okS_tl hO))) hR hl
  rw [List.map_cons, List.map_cons, mv2, mk_str (by decide)]
  exact W.iald hx hb (hR.low (by show ¬ G.1 ≤ G.2.2.2.2.1 2000; omega) c1) c2 c3 (by rw [c4]; exact v1 oi hi) (v := mv G (0, G.2.2.2.2.2.2.2 i.toNat)) (by rw [clamp32 oi]; exact d1) rfl rfl hd hK
end VLIB
