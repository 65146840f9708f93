/-! rows of V: calls, new cells, switches, loops -/
def rkk : Option FieldType → Option Nat
  | none => none
  | some t => some (rk (some t))
def wsum : List PV → Nat
  | [] => 0
  | v :: vs => (if v.1 = 1 then 2 else 1) + wsum vs
theorem wsum_eq (G : Gx) : ∀ (st : List PV), ((st.map (mv G)).map fun v => v.category).sum = wsum st
  | [] => rfl
  | v :: vs => by
    rw [List.map_cons, List.map_cons, List.sum_cons, wsum_eq G vs, mv_cat]
    rfl
def CalB (M' : MI) (n : Nat) : Prop := Cond.code M'.1 M'.2.1 M'.2.2.1 M'.2.2.2.1 ∈ TW ∧ Cond.initialized M'.1.cls ∈ TW ∧ (M'.1.cls ≠ "java/lang/invoke/MethodHandle" ∧ M'.1.cls ≠ "java/lang/invoke/VarHandle") ∧ (parseMethodDescriptor M'.1.desc).map (fun d => d.parameters.length) = some n
def CalS (M' : MI) (n : Nat) : Prop := CalB M' n ∧ Cond.static M'.1 ∈ TW
def CalV (M' : MI) (n : Nat) : Prop := CalB M' n ∧ Cond.instanceMethod M'.1 ∈ TW ∧ Cond.selects M'.1.cls M'.1 M'.1 ∈ TW
def CalI (M' : MI) (n : Nat) : Prop := CalB M' n ∧ M'.1.name = "<init>" ∧ Cond.instanceMethod M'.1 ∈ TW
theorem tw_good {w : Cond} (h : w ∈ TW) : (w.onTables && w.keeps) = true ∨ ∃ ty, w = .arrayClass ty := good_of_word (List.mem_filter.mp h).2
theorem tw_warm {args : Array Value} {s : State} (hts : ∀ w ∈ TW, w.before args s = true) {w : Cond} (hw : w ∈ TW) : ∀ (a' : Array Value) (U : State), s.WarmedH U.vm → w.before a' U = true := fun a' U hW => word_at hW (tw_good hw) (hts w hw)
theorem tw_pay {args : Array Value} {s : State} (hts : ∀ w ∈ TW, w.before args s = true) {c : Cond} (hc : c ∈ TW) : ∀ w ∈ c :: TW, ∀ (a' : Array Value) (U : State), s.WarmedH U.vm → w.before a' U = true := fun w hw => by
  rcases List.mem_cons.mp hw with rfl | hw
  · exact tw_warm hts hc
  · exact tw_warm hts hw
theorem par_len {d : String} {n : Nat} (h : (parseMethodDescriptor d).map (fun d => d.parameters.length) = some n) : ∀ sig, parseMethodDescriptor d = some sig → n = sig.parameters.length := fun sig h1 => by
  rw [h1] at h
  exact (Option.some.inj h).symm
theorem pcS {G : Gx} {s0 : State} {H : Heap} {As : List PV} {s : St} (hK : KN G s0) (hR : Rel G s H) : PreS s0 H (PC G As s) (As.map (mv G)) :=
  ⟨fun a U g mk q => ⟨q.1, q.2.1, q.2.2.calling⟩, fun U hU hW => ⟨rfl, by rw [hU]; exact hR, hK.warm hW⟩⟩
theorem RV.tag {G : Gx} {ret : Option FieldType} {r : Int} {v : Option Value} {tag : Nat} (h : RV G ret r v) (ht : rkk ret = some tag) : v = some (mv G (tag, r)) ∧ okv (tag, r) := by
  cases ret with
  | none => cases ht
  | some t =>
    unfold RV at h
    rw [if_neg (by intro q; cases q)] at h
    have e : rk (some t) = tag := Option.some.inj ht
    rw [e] at h
    exact h
theorem RV.void {G : Gx} {r : Int} {v : Option Value} (h : RV G none r v) : v = none := by
  unfold RV at h
  rw [if_pos rfl] at h
  exact h
section VCALL
variable {QQ : QT} {G : Gx} {l : Launch} {M : MI} {pc : Nat} {lv : List (Nat × PV)} {st : List PV} {s : St} {X : Rs}
/-- what comes of a call that runs -/
theorem V_runs {As : List PV} {F : Rs} {Xk : Int → St → Rs} {M' : MI} {stk : List PV} (hst : ∀ v ∈ As, v ∈ stk) (hst2 : ∀ v ∈ st, v ∈ stk) (hS : Snd G l M' As s F)
    (run : ∀ (r1 : Int) (s1 : St) (mc ms : Nat), mc = s1.1.1 - s.1.1 → ms = s1.1.2 - s.1.2 → Met l M'.1 (Cond.code M'.1 M'.2.1 M'.2.2.1 M'.2.2.2.1 :: TW) { frames := M'.2.2.2.2.1, cells := mc, slots := ms, locals := M'.2.2.2.2.2 } (PC G As s) (QR G M'.2.2.2.1 r1 s1) mc ms (fun q => G.1 ≤ q) →
      ∀ (p : Program) (e : Env) (R : Room) (s0 : State) (m : MethodId) (args : Array Value) (below : List Frame) (meth : Method) (c : Code) (H : Heap) (locs : List Loc) (ls : Array Slot) (cells slots : Nat),
        Cx G M p R s0 m args meth c → ls.size = M.2.2.1 → Rel G s H → cells + mc ≤ R.cells → slots + ms ≤ R.slots → va_Run p l e R s0 m args below meth c H locs cells slots mc ms (F0 m pc ls (stk.map (mv G))) (st.map (mv G)) (fun st0 o t => QR G M'.2.2.2.1 r1 s1 (As.map (mv G)).toArray st0 o t) (fun q => G.1 ≤ q))
    (K : ∀ (r1 : Int) (s1 : St), ∃ st1, (∀ v, RV G M'.2.2.2.1 r1 v → v.toList ++ st.map (mv G) = st1.map (mv G) ∧ (okS st → okS st1)) ∧ VQ QQ G l M (pc + 3) lv st1 s1 (Xk r1 s1)) : VQ QQ G l M pc lv stk s (bnd F Xk) := by
  intro r s' hX
  cases hF : F with
  | none => rw [hF] at hX; cases hX
  | some q =>
    obtain ⟨r1, s1⟩ := q
    rw [hF] at hX
    have hX : Xk r1 s1 = some (r, s') := hX
    obtain ⟨st1, hst1, K⟩ := K r1 s1
    obtain ⟨h1, h2, K⟩ := K r s' hX
    obtain ⟨m1, m2, hM⟩ := hS r1 s1 hF
    refine ⟨by omega, by omega, fun n0 k0 g1 g2 p e R s0 m args below meth c H locs ls hC hc hs hL hO hR hl => ?_⟩
    have hr := run r1 s1 _ _ rfl rfl (hM (fun v hv => hO v (hst v hv))) p e R s0 m args below meth c H locs ls (s.1.1 - n0) (s.1.2 - k0) hC hL.1.1 hR (by omega) (by omega)
    intro T hT Xs
    obtain ⟨v, st₀, t, T', L, h0, X', hL', e1, e2, ⟨⟨v', hv, hrv⟩, hR1⟩, stp⟩ := hr T hT Xs
    cases hv
    obtain ⟨q1, q2⟩ := hst1 v hrv
    have hW := K n0 k0 (by omega) (by omega) p e R s0 m args below meth c T'.heap (locs ++ L) ls hC hc hs hL (q2 (fun v hv => hO v (hst2 v hv))) (by rw [e1]; exact hR1) (fun q hq => by
      rcases List.mem_append.mp hq with h | h
      · exact hl q h
      · exact hL' q h)
    rw [show s1.1.1 - n0 = (s.1.1 - n0) + (s1.1.1 - s.1.1) by omega, show s1.1.2 - k0 = (s.1.2 - k0) + (s1.1.2 - s.1.2) by omega] at hW
    rw [← q1] at hW
    obtain ⟨t2, a1, b1⟩ := hW T' rfl X'
    exact ⟨t2, stp t2 a1, b1⟩
theorem k_tag {ret : Option FieldType} {tag : Nat} {Xk : Int → St → Rs} (hrk : rkk ret = some tag) (K : ∀ (r1 : Int) (s1 : St), VQ QQ G l M (pc + 3) lv ((tag, r1) :: st) s1 (Xk r1 s1)) : ∀ (r1 : Int) (s1 : St), ∃ st1, (∀ v, RV G ret r1 v → v.toList ++ st.map (mv G) = st1.map (mv G) ∧ (okS st → okS st1)) ∧ VQ QQ G l M (pc + 3) lv st1 s1 (Xk r1 s1) :=
  fun r1 s1 => ⟨(tag, r1) :: st, fun v hv => by obtain ⟨e, h⟩ := hv.tag hrk; subst e; exact ⟨rfl, okS_cons h⟩, K r1 s1⟩
theorem k_void {ret : Option FieldType} {Xk : Int → St → Rs} (hrk : ret = none) (K : ∀ (r1 : Int) (s1 : St), VQ QQ G l M (pc + 3) lv st s1 (Xk r1 s1)) : ∀ (r1 : Int) (s1 : St), ∃ st1, (∀ v, RV G ret r1 v → v.toList ++ st.map (mv G) = st1.map (mv G) ∧ (okS st → okS st1)) ∧ VQ QQ G l M (pc + 3) lv st1 s1 (Xk r1 s1) :=
  fun r1 s1 => ⟨st, fun v hv => by subst hrk; rw [hv.void]; exact ⟨rfl, fun h => h⟩, K r1 s1⟩
/-- the link of a call: of its own, or of a nest mate -/
def lkM (M M' : MI) (host : String) (idx : Nat) : Prop := Cond.methodLink M.1.cls idx M'.1 ∈ TW ∨ Cond.methodLinkNest M.1.cls idx M'.1 host ∈ NW
def roomM (M M' : MI) : Bool := Nat.ble (M'.2.2.2.2.1 + 1) M.2.2.2.2.1 && Nat.ble (8 + (M'.2.2.1 + 11) + M'.2.2.2.2.2) M.2.2.2.2.2
theorem roomM_ok {M M' : MI} (h : roomM M M' = true) : M'.2.2.2.2.1 + 1 ≤ M.2.2.2.2.1 ∧ 8 + (M'.2.2.1 + 11) + M'.2.2.2.2.2 ≤ M.2.2.2.2.2 := by
  unfold roomM at h
  rw [Bool.and_eq_true] at h
  exact ⟨Nat.le_of_ble_eq_true h.1, Nat.le_of_ble_eq_true h.2⟩
theorem cb {M' : MI} {n mc ms idx : Nat} {p : Program} {R : Room} {s0 : State} {m : MethodId} {args : Array Value} {meth : Method} {c : Code} (hC : Cx G M p R s0 m args meth c) (hB : CalB M' n) (hl : Cond.methodLink M.1.cls idx M'.1 ∈ TW) (hr : roomM M M' = true) : CallB R s0 args M.1.cls idx M'.1 M'.2.1 M'.2.2.1 M'.2.2.2.1 (Cond.code M'.1 M'.2.1 M'.2.2.1 M'.2.2.2.1 :: TW) { frames := M'.2.2.2.2.1, cells := mc, slots := ms, locals := M'.2.2.2.2.2 } mc ms n := by
  obtain ⟨-, -, -, -, -, hts, -, -, -, hf, hlo⟩ := hC
  obtain ⟨r1, r2⟩ := roomM_ok hr
  exact ⟨rfl, rfl, by rw [hf]; exact r1, by rw [hlo]; exact r2, tw_pay hts hB.1, List.mem_cons_self, hts _ hB.1, hts _ hB.2.1, hB.2.2.1, par_len hB.2.2.2, hts _ hl⟩
theorem cbN {M' : MI} {n mc ms idx : Nat} {host : String} {p : Program} {R : Room} {s0 : State} {m : MethodId} {args : Array Value} {meth : Method} {c : Code} (hC : Cx G M p R s0 m args meth c) (hB : CalB M' n) (hl : Cond.methodLinkNest M.1.cls idx M'.1 host ∈ NW) (hr : roomM M M' = true) : va_CN R s0 args M.1.cls idx M'.1 host M'.2.1 M'.2.2.1 M'.2.2.2.1 (Cond.code M'.1 M'.2.1 M'.2.2.1 M'.2.2.2.1 :: TW) { frames := M'.2.2.2.2.1, cells := mc, slots := ms, locals := M'.2.2.2.2.2 } mc ms n := by
  obtain ⟨-, -, -, -, -, hts, hKN, -, -, hf, hlo⟩ := hC
  obtain ⟨r1, r2⟩ := roomM_ok hr
  exact ⟨⟨rfl, rfl, by rw [hf]; exact r1, by rw [hlo]; exact r2, tw_pay hts hB.1, List.mem_cons_self⟩, hts _ hB.1, hts _ hB.2.1, hB.2.2.1, par_len hB.2.2.2, va_Nw.use rfl (hKN.2.1 _ hl)⟩
theorem fix {p : Program} {R : Room} {s0 : State} {m : MethodId} {args : Array Value} {meth : Method} {c : Code} (hC : Cx G M p R s0 m args meth c) : CallFix p m c M.2.1 M.2.2.1 s0 args TW M.1.cls := ⟨hC.1, hC.2.1, hC.2.2.1, hC.2.2.2.2.1, hC.2.2.2.2.2.1⟩
theorem map_ra (G : Gx) (As st : List PV) : (As.reverse ++ st).map (mv G) = (As.map (mv G)).reverse ++ st.map (mv G) := by rw [List.map_append, List.map_reverse]
theorem rw8 {st : List PV} {m : MethodId} {ls : Array Slot} {rest : List Value} (h : Nat.ble (wsum st) 8 = true) : 2 * (F0 m pc ls rest).monitorRoom + ((st.map (mv G)).map fun v => v.category).sum ≤ 8 := lv_room (by rw [wsum_eq]; exact Nat.le_of_ble_eq_true h)
theorem V_callS0 {As stk : List PV} {F : Rs} {Xk : Int → St → Rs} {M' : MI} {idx n : Nat} {host : String} (hstk : stk = As.reverse ++ st) (hS : Snd G l M' As s F) (hcal : CalS M' n) (hn : As.length = n) (hlk : lkM M M' host idx) (hroom : roomM M M' = true) (hw : Nat.ble (wsum st) 8 = true) (hd : decode M.2.1 pc = .ok (.invokestatic idx, 3))
    (K : ∀ (r1 : Int) (s1 : St), ∃ st1, (∀ v, RV G M'.2.2.2.1 r1 v → v.toList ++ st.map (mv G) = st1.map (mv G) ∧ (okS st → okS st1)) ∧ VQ QQ G l M (pc + 3) lv st1 s1 (Xk r1 s1)) : VQ QQ G l M pc lv stk s (bnd F Xk) := by
  subst hstk
  refine V_runs (fun v hv => List.mem_append_left _ (List.mem_reverse.mpr hv)) (fun v hv => List.mem_append_right _ hv) hS ?_ K
  intro r1 s1 mc ms e1 e2 hM p e R s0 m args below meth c H locs ls cells slots hC hls hR hc1 hc2
  rcases hlk with hlk | hlk
  · exact va_runS (fix hC) hM ⟨cb hC hcal.1 hlk hroom, hC.2.2.2.2.2.1 _ hcal.2⟩ (pcS hC.2.2.2.2.2.2.1 hR) rfl (by rw [List.length_map]; exact hn) hls (map_ra G As st) (rw8 hw) hd ⟨hc1, hc2⟩
  · exact va_runSN (fix hC) hM ⟨cbN hC hcal.1 hlk hroom, hC.2.2.2.2.2.1 _ hcal.2, trivial⟩ (pcS hC.2.2.2.2.2.2.1 hR) rfl (by rw [List.length_map]; exact hn) hls (map_ra G As st) (rw8 hw) hd ⟨hc1, hc2⟩
theorem V_callV0 {a : Int} {As stk : List PV} {F : Rs} {Xk : Int → St → Rs} {M' : MI} {idx n ci : Nat} (hci : (vwCl[ci]?).map (·.1) = some M'.1.cls) (hstk : stk = As.reverse ++ (2, a) :: st) (hS : Snd G l M' ((2, a) :: As) s F) (hcal : CalV M' n) (hn : As.length = n) (hlk : Cond.methodLink M.1.cls idx M'.1 ∈ TW) (hroom : roomM M M' = true) (hw : Nat.ble (wsum st) 8 = true) (hd : decode M.2.1 pc = .ok (.invokevirtual idx, 3))
    (K : ∀ (r1 : Int) (s1 : St), ∃ st1, (∀ v, RV G M'.2.2.2.1 r1 v → v.toList ++ st.map (mv G) = st1.map (mv G) ∧ (okS st → okS st1)) ∧ VQ QQ G l M (pc + 3) lv st1 s1 (Xk r1 s1)) : VQ QQ G l M pc lv stk s (grd (isK s (10 + ci) a) (bnd F Xk)) := by
  refine V_grd fun hk => ?_
  subst hstk
  refine V_runs (As := (2, a) :: As) (fun v hv => ?_) (fun v hv => List.mem_append_right _ (List.mem_cons_of_mem _ hv)) hS ?_ K
  · rcases List.mem_cons.mp hv with rfl | hv
    · exact List.mem_append_right _ List.mem_cons_self
    · exact List.mem_append_left _ (List.mem_reverse.mpr hv)
  intro r1 s1 mc ms e1 e2 hM p e R s0 m args below meth c H locs ls cells slots hC hls hR hc1 hc2
  obtain ⟨q, cell, hq, q1, q2, q3, q4⟩ := hR.obj hk
  have hPC := pcS (As := (2, a) :: As) hC.2.2.2.2.2.2.1 hR
  have hcls : s0.vm.findClass M'.1.cls = some cell.cls := by
    rw [hq] at hci
    rw [q2, ← Option.some.inj hci]
    exact (hC.2.2.2.2.2.2.1.1.1 ci q hq).2.1
  have e9 : mv G (2, a) = .ref (G.1 + a.toNat) := by rw [mv2, mkR_in hk.1]
  rw [List.map_cons, e9] at hPC ⊢
  exact va_runV (As := As.map (mv G)) (fix hC) hM ⟨cb hC hcal.1 hlk hroom, hC.2.2.2.2.2.1 _ hcal.2.1, hC.2.2.2.2.2.1 _ hcal.2.2⟩ ⟨hPC.1, ⟨cell, q1, by rw [q3]; rfl, hcls⟩, hPC.2⟩ rfl (by rw [List.length_map]; exact hn) hls (by rw [← e9]; exact map_ra G As ((2, a) :: st)) (rw8 hw) hd ⟨hc1, hc2⟩
theorem V_callI0 {a : Int} {As stk : List PV} {F : Rs} {Xk : Int → St → Rs} {M' : MI} {idx n ci : Nat} {host : String} (hret : M'.2.2.2.1 = none) (hstk : stk = As.reverse ++ (2, a) :: st) (hS : Snd G l M' ((2, a) :: As) s F) (hcal : CalI M' n) (hn : As.length = n) (hlk : lkM M M' host idx) (hroom : roomM M M' = true) (hw : Nat.ble (wsum st) 8 = true) (hd : decode M.2.1 pc = .ok (.invokespecial idx, 3))
    (K : ∀ (r1 : Int) (s1 : St), VQ QQ G l M (pc + 3) lv st s1 (Xk r1 s1)) : VQ QQ G l M pc lv stk s (grd (isK s (10 + ci) a) (bnd F Xk)) := by
  refine V_grd fun hk => ?_
  subst hstk
  refine V_runs (As := (2, a) :: As) (fun v hv => ?_) (fun v hv => List.mem_append_right _ (List.mem_cons_of_mem _ hv)) hS ?_ (k_void hret K)
  · rcases List.mem_cons.mp hv with rfl | hv
    · exact List.mem_append_right _ List.mem_cons_self
    · exact List.mem_append_left _ (List.mem_reverse.mpr hv)
  intro r1 s1 mc ms e1 e2 hM p e R s0 m args below meth c H locs ls cells slots hC hls hR hc1 hc2
  have hPC := pcS (As := (2, a) :: As) hC.2.2.2.2.2.2.1 hR
  have e9 : mv G (2, a) = .ref (G.1 + a.toNat) := by rw [mv2, mkR_in hk.1]
  rw [List.map_cons, e9] at hPC ⊢
  rcases hlk with hlk | hlk
  · have h8 := cb (mc := mc) (ms := ms) hC hcal.1 hlk hroom
    rw [hret] at h8 hM ⊢
    exact va_runI (As := As.map (mv G)) (fix hC) hM ⟨h8, hcal.2.1, hC.2.2.2.2.2.1 _ hcal.2.2⟩ hPC rfl (by rw [List.length_map]; exact hn) hls (by rw [← e9]; exact map_ra G As ((2, a) :: st)) (rw8 hw) hd ⟨hc1, hc2⟩
  · have h8 := cbN (mc := mc) (ms := ms) hC hcal.1 hlk hroom
    rw [hret] at h8 hM ⊢
    exact va_runIN (As := As.map (mv G)) (fix hC) hM ⟨h8, hcal.2.1, hC.2.2.2.2.2.1 _ hcal.2.2⟩ hPC rfl (by rw [List.length_map]; exact hn) hls (by rw [← e9]; exact map_ra G As ((2, a) :: st)) (rw8 hw) hd ⟨hc1, hc2⟩
theorem V_iter {α : Type} {body : (α → Rs) → α → Rs} {LV : α → List (Nat × PV)} {ST : α → List PV} {SS : α → St} (h : ∀ rec : α → Rs, (∀ a, VQ QQ G l M pc (LV a) (ST a) (SS a) (rec a)) → ∀ a, VQ QQ G l M pc (LV a) (ST a) (SS a) (body rec a)) : ∀ (n : Nat) (a : α), VQ QQ G l M pc (LV a) (ST a) (SS a) (iter body n a)
  | 0, _ => V_none
  | n + 1, a => h (iter body n) (V_iter h n) a
/-- a switch over numbers that lie side by side -/
def swt (x lo : Int) (cs : List Rs) (d : Rs) : Rs := if lo ≤ x then cs.getD (x - lo).toNat d else d
def swOK (QQ : QT) (G : Gx) (l : Launch) (M : MI) (lv : List (Nat × PV)) (st : List PV) (s : St) : List Nat → List Rs → Prop
  | [], [] => True
  | t :: ts, X :: Xs => VQ QQ G l M t lv st s X ∧ swOK QQ G l M lv st s ts Xs
  | _, _ => False
theorem swOK_at : ∀ (ts : List Nat) (Xs : List Rs), swOK QQ G l M lv st s ts Xs → ts.length = Xs.length ∧ ∀ (i t : Nat) (X : Rs), ts[i]? = some t → Xs[i]? = some X → VQ QQ G l M t lv st s X
  | [], [], _ => ⟨rfl, fun i t X h => by simp at h⟩
  | t :: ts, X :: Xs, h => by
    obtain ⟨h1, h2⟩ := swOK_at ts Xs h.2
    refine ⟨by simp [h1], fun i t' X' a b => ?_⟩
    cases i with
    | zero => simp at a b; subst a; subst b; exact h.1
    | succ i => exact h2 i t' X' (by simpa using a) (by simpa using b)
  | [], _ :: _, h => h.elim
  | _ :: _, [], h => h.elim
theorem V_tsw {x lo hi dflt : Int} {offs : Array Int} {len : Nat} {ts : List Nat} {td : Nat} {cs : List Rs} {Xd : Rs} (hd : decode M.2.1 pc = .ok (.tableswitch dflt lo hi offs, len)) (ho : offs.toList = ts.map (fun (t : Nat) => (t : Int) - (pc : Int))) (hh : hi = lo + (ts.length : Int) - 1) (hdf : (pc : Int) + dflt = (td : Int)) (hc : swOK QQ G l M lv st s ts cs) (Kd : VQ QQ G l M td lv st s Xd) : VQ QQ G l M pc lv ((0, x) :: st) s (swt x lo cs Xd) := by
  obtain ⟨hl, hv⟩ := swOK_at ts cs hc
  intro r s' hX
  unfold swt at hX
  by_cases h1 : lo ≤ x
  · rw [if_pos h1] at hX
    by_cases h2 : (x - lo).toNat < cs.length
    · have e1 : cs[(x - lo).toNat]? = some (cs[(x - lo).toNat]) := List.getElem?_eq_getElem h2
      have e2 : ts[(x - lo).toNat]? = some (ts[(x - lo).toNat]'(by omega)) := List.getElem?_eq_getElem (by omega)
      have K := hv _ _ _ e2 e1
      rw [List.getD_eq_getElem?_getD, e1] at hX
      obtain ⟨h3, h4, K⟩ := K r s' hX
      refine ⟨h3, h4, fun n0 k0 g1 g2 p e R s0 m args below meth c H locs ls hC hc hs hL hO hR hl => ?_⟩
      have ox : ok32 x := okS_hd hO
      have e3 : offs[((Int32.ofInt x).toInt - lo).toNat]? = some (((ts[(x - lo).toNat]'(by omega) : Nat) : Int) - (pc : Int)) := by
        rw [i32 ox, ← Array.getElem?_toList, ho, List.getElem?_map, e2]; rfl
      exact lv_tableIn hC.1 hC.2.1 hd (by rw [i32 ox]; omega) (by rw [i32 ox]; omega) e3 (by omega) (K n0 k0 g1 g2 p e R s0 m args below meth c H locs ls hC hc hs hL (okS_tl hO) hR hl)
    · rw [List.getD_eq_getElem?_getD, List.getElem?_eq_none (by omega)] at hX
      obtain ⟨h3, h4, K⟩ := Kd r s' hX
      refine ⟨h3, h4, fun n0 k0 g1 g2 p e R s0 m args below meth c H locs ls hC hc hs hL hO hR hl => ?_⟩
      have ox : ok32 x := okS_hd hO
      exact lv_tableOut hC.1 hC.2.1 hd (by rw [i32 ox]; omega) hdf (K n0 k0 g1 g2 p e R s0 m args below meth c H locs ls hC hc hs hL (okS_tl hO) hR hl)
  · rw [if_neg h1] at hX
    obtain ⟨h3, h4, K⟩ := Kd r s' hX
    refine ⟨h3, h4, fun n0 k0 g1 g2 p e R s0 m args below meth c H locs ls hC hc hs hL hO hR hl => ?_⟩
    have ox : ok32 x := okS_hd hO
    exact lv_tableOut hC.1 hC.2.1 hd (by rw [i32 ox]; omega) hdf (K n0 k0 g1 g2 p e R s0 m args below meth c H locs ls hC hc hs hL (okS_tl hO) hR hl)
end VCALL
