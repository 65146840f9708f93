/-! rows of V: new cells, rows of references, Object's constructor, String constants, System.arraycopy -/
theorem Rel.push {G : Gx} {s : St} {H H1 : Heap} {cell : Cell} {k n : Nat} (h : Rel G s H) (e1 : H1[H.size]? = some cell) (z : H1.size = H.size + 1) (o : ∀ q : Nat, q < H.size → H1[q]? = H[q]?) (hs : s.1.1 < 1000000) (hc : cellR G (k, n) (fun _ => -1) (fun _ => 0) (some cell)) : Rel G (nw s k n) H1 := by
  obtain ⟨r1, r2, r3, r4, r5⟩ := h
  have oo : ∀ q : Nat, q ≠ H.size → H1[q]? = H[q]? := fun q hq => by
    by_cases hl : q < H.size
    · exact o q hl
    · rw [Array.getElem?_eq_none (by omega), Array.getElem?_eq_none (by omega)]
  refine ⟨by rw [z, r1]; show _ = G.1 + (s.1.1 + 1); omega, r2, fun q hq => (oo q (by omega)).trans (r3 q hq), by show s.1.1 + 1 ≤ _; omega, fun a => ?_⟩
  by_cases ha : a = s.1.1
  · subst ha
    have e2 : H1[G.1 + s.1.1]? = some cell := by rw [← r1]; exact e1
    rw [e2]
    have q1 : (nw s k n).2.1 s.1.1 = (k, n) := if_pos rfl
    have q2 : (nw s k n).2.2.1 s.1.1 = fun _ => -1 := funext fun j => if_pos rfl
    have q3 : (nw s k n).2.2.2 s.1.1 = fun _ => 0 := funext fun j => if_pos rfl
    rw [q1, q2, q3]
    exact hc
  · have q1 : (nw s k n).2.1 a = s.2.1 a := if_neg ha
    have q2 : (nw s k n).2.2.1 a = s.2.2.1 a := funext fun j => if_neg ha
    have q3 : (nw s k n).2.2.2 a = s.2.2.2 a := funext fun j => if_neg ha
    rw [q1, q2, q3, oo (G.1 + a) (by omega)]
    exact r5 a
theorem ty_all : ∀ ci, ci < 14 → ∀ k, k < nf ci → (tyCl ci k = .int ∨ tyCl ci k = .long ∨ isRf (tyCl ci k) = true) := by decide +kernel
theorem fp_new {G : Gx} {ci k : Nat} (hci : ci < 14) (hk : k < nf ci) : mv G (fp ci (fun _ => -1) (fun _ => 0) k) = defaultValue (tyCl ci k) ∧ okv (fp ci (fun _ => -1) (fun _ => 0) k) := by
  rcases ty_all ci hci k hk with h | h | h
  · have : ft ci k = 0 := by unfold ft; rw [h]
    unfold fp; rw [this, h]; exact ⟨rfl, ok0⟩
  · have : ft ci k = 1 := by unfold ft; rw [h]
    unfold fp; rw [this, h]; exact ⟨rfl, ok64_0⟩
  · have : ft ci k = 2 := rf_ft h
    unfold fp; rw [this, if_pos rfl]
    refine ⟨?_, trivial⟩
    show mkR G (-1) = _
    rw [mkR_neg (by decide)]
    revert h
    generalize tyCl ci k = t
    intro h
    cases t <;> first | rfl | (cases h; done)
theorem cn1 (G : Gx) {n : Nat} (h : n ≤ 100000) : cellR G (1, n) (fun _ => -1) (fun _ => 0) (some (arrV (G.2.2.1 1) n (fun _ => .int 0))) := by
  unfold cellR; dsimp only
  exact ⟨fun _ => ⟨h, rfl, fun i _ => ok0⟩, fun q => by omega, fun q => by omega, fun q => by omega, fun ci q => by omega⟩
theorem cn2 (G : Gx) {n : Nat} (h : n ≤ 100000) : cellR G (2, n) (fun _ => -1) (fun _ => 0) (some (arrV (G.2.2.1 2) n (fun _ => .int 0))) := by
  unfold cellR; dsimp only
  exact ⟨fun q => by omega, fun _ => ⟨h, rfl, fun i _ => by unfold ok8; omega⟩, fun q => by omega, fun q => by omega, fun ci q => by omega⟩
theorem cn3 (G : Gx) {n : Nat} (h : n ≤ 100000) : cellR G (3, n) (fun _ => -1) (fun _ => 0) (some (arrV (G.2.2.1 3) n (fun _ => .long 0))) := by
  unfold cellR; dsimp only
  exact ⟨fun q => by omega, fun q => by omega, fun _ => ⟨h, rfl, fun i _ => ok64_0⟩, fun q => by omega, fun ci q => by omega⟩
theorem cn4 (G : Gx) {n : Nat} (h : n ≤ 100000) : cellR G (4, n) (fun _ => -1) (fun _ => 0) (some (arrV (G.2.2.1 4) n (fun _ => .null))) := by
  unfold cellR; dsimp only
  exact ⟨fun q => by omega, fun q => by omega, fun q => by omega, fun _ => ⟨h, rfl⟩, fun ci q => by omega⟩
section VNEWS
variable {QQ : QT} {G : Gx} {l : Launch} {M : MI} {pc : Nat} {lv : List (Nat × PV)} {st : List PV} {s : St} {X : Rs}
theorem mk_new {G : Gx} {s : St} {H : Heap} (h : Rel G s H) (hs : s.1.1 < 1000000) : mv G (2, (s.1.1 : Int)) = .ref H.size := by
  rw [mv2, mkR_in ⟨by omega, by omega⟩, h.1]
  rfl
theorem V_new {idx : Nat} (ci : Nat) (q : vw_C) (hq : vwCl[ci]? = some q) (h1 : Cond.classLink M.1.cls idx q.1 ∈ TW) (h2 : Cond.instantiable q.1 q.2.2 ∈ TW) (h3 : Cond.initialized q.1 ∈ TW) (hd : decode M.2.1 pc = .ok (.new idx, 3)) (K : VQ QQ G l M (pc + 3) lv ((2, (s.1.1 : Int)) :: st) (nw s (10 + ci) q.2.2) X) : VQ QQ G l M pc lv st s (grd (s.1.1 < 1000000) X) := by
  refine V_grd fun hs1 => ?_
  intro r s' hX
  obtain ⟨m1, m2, K⟩ := K r s' hX
  have m1 : s.1.1 + 1 ≤ s'.1.1 := m1
  have m2 : s.1.2 + q.2.2 ≤ s'.1.2 := m2
  refine ⟨by omega, by omega, fun n0 k0 g1 g2 p e R s0 m args below meth c H locs ls hC hc hs hL hO hR hl => ?_⟩
  obtain ⟨hx, hb, -, -, hown, hts, hKN, -⟩ := id hC
  have hKn := hKN.1.1 ci q hq
  refine W.newcK hx hb hown (hts _ h1) (hts _ h2) (hts _ h3) rfl hd (by omega) (by omega) hKn.2.1 rfl fun H1 kC hkC e1 z1 o1 => ?_
  have hci := cl_lt hq
  have hnf : nf ci = q.2.2 := by unfold nf; rw [hq]
  obtain ⟨cell, b1, b2, b3, b4⟩ := u_born (o := H.size) (H := H1) (tyCl ci) hts (cl_in hq) hKn hkC e1 (cl_ty hq)
  have hR1 : Rel G (nw s (10 + ci) q.2.2) H1 := hR.push b1 z1 o1 hs1 ⟨fun h => by exfalso; dsimp only at h; omega, fun h => by exfalso; dsimp only at h; omega, fun h => by exfalso; dsimp only at h; omega, fun h => by exfalso; dsimp only at h; omega, fun ci' h => by
    have h9 : ci' = ci := by dsimp only at h; omega
    subst h9
    refine ⟨q, cell, hq, rfl, b2, b3, fun k hk => ?_⟩
    obtain ⟨f1, f2⟩ := fp_new (G := G) (k := k) hci (by rw [hnf]; exact hk)
    exact ⟨by rw [f1]; exact b4 k hk, f2⟩⟩
  have hW := K n0 k0 (show n0 ≤ s.1.1 + 1 by omega) (show k0 ≤ s.1.2 + q.2.2 by omega) p e R s0 m args below meth c H1 locs ls hC hc hs hL (okS_cons (v := (2, (s.1.1 : Int))) trivial hO) hR1 hl
  rw [show (nw s (10 + ci) q.2.2).1.1 - n0 = (s.1.1 - n0) + 1 by show s.1.1 + 1 - n0 = _; omega, show (nw s (10 + ci) q.2.2).1.2 - k0 = (s.1.2 - k0) + q.2.2 by show s.1.2 + q.2.2 - k0 = _; omega, List.map_cons, mk_new hR hs1] at hW
  exact hW
theorem cA_eq {U : State} (h : KN G U) : U.vm.findClass ("[" ++ (FieldType.int).toString) = some (G.2.2.1 1) ∧ U.vm.findClass ("[" ++ (FieldType.byte).toString) = some (G.2.2.1 2) ∧ U.vm.findClass ("[" ++ (FieldType.long).toString) = some (G.2.2.1 3) := ⟨(h.1.2 0 _ rfl).2, (h.1.2 1 _ rfl).2, (h.1.2 2 _ rfl).2⟩
def aKd : ArrayType → Nat
  | .int => 1
  | .byte => 2
  | .long => 3
  | _ => 0
theorem V_newarr {n : Int} {at0 : ArrayType} (ha : aKd at0 ≠ 0) (hw : Cond.arrayClass (newarray.typeOf at0) ∈ TW) (hd : decode M.2.1 pc = .ok (.newarray at0, 2)) (K : VQ QQ G l M (pc + 2) lv ((2, (s.1.1 : Int)) :: st) (nw s (aKd at0) n.toNat) X) : VQ QQ G l M pc lv ((0, n) :: st) s (grd (s.1.1 < 1000000 ∧ 0 ≤ n ∧ n ≤ 100000) X) := by
  refine V_grd fun hs0 => ?_
  obtain ⟨hs1, hn1, hn2⟩ := hs0
  intro r s' hX
  obtain ⟨m1, m2, K⟩ := K r s' hX
  have m1 : s.1.1 + 1 ≤ s'.1.1 := m1
  have m2 : s.1.2 + n.toNat ≤ s'.1.2 := m2
  refine ⟨by omega, by omega, fun n0 k0 g1 g2 p e R s0 m args below meth c H locs ls hC hc hs hL hO hR hl => ?_⟩
  obtain ⟨hx, hb, -, -, hown, hts, hKN, -⟩ := id hC
  have on : ok32 n := okS_hd hO
  have hbytes : n.toNat * componentBytes (newarray.typeOf at0) ≤ 536870912 := by
    have : componentBytes (newarray.typeOf at0) ≤ 8 := by cases at0 <;> decide
    calc n.toNat * componentBytes (newarray.typeOf at0) ≤ 100000 * 8 := Nat.mul_le_mul (by omega) this
      _ ≤ 536870912 := by decide
  refine va_newaK hx hb (hts _ hw) rfl hd rfl (fun q => by have := (lt32 on ok0).mp q; omega) (clamp32 on) hbytes (by omega) (by omega) rfl fun H1 cA e1 z1 o1 hAr hNm => ?_
  have hR1 : Rel G (nw s (aKd at0) n.toNat) H1 := by
    refine hR.push e1 z1 o1 hs1 ?_
    obtain ⟨f1, f2, f3⟩ := cA_eq hKN
    have hnn : n.toNat ≤ 100000 := by omega
    cases at0
    case int => rw [show cA = G.2.2.1 1 from Option.some.inj (hNm.symm.trans f1)]; exact cn1 G hnn
    case byte => rw [show cA = G.2.2.1 2 from Option.some.inj (hNm.symm.trans f2)]; exact cn2 G hnn
    case long => rw [show cA = G.2.2.1 3 from Option.some.inj (hNm.symm.trans f3)]; exact cn3 G hnn
    all_goals exact absurd rfl ha
  have hW := K n0 k0 (show n0 ≤ s.1.1 + 1 by omega) (show k0 ≤ s.1.2 + n.toNat by omega) p e R s0 m args below meth c H1 locs ls hC hc hs hL (okS_cons (v := (2, (s.1.1 : Int))) trivial (okS_tl hO)) hR1 hl
  rw [show (nw s (aKd at0) n.toNat).1.1 - n0 = (s.1.1 - n0) + 1 by show s.1.1 + 1 - n0 = _; omega, show (nw s (aKd at0) n.toNat).1.2 - k0 = (s.1.2 - k0) + n.toNat by show s.1.2 + n.toNat - k0 = _; omega, List.map_cons, mk_new hR hs1] at hW
  exact hW
theorem V_anew {n : Int} {idx : Nat} (hw : Cond.classLink M.1.cls idx "SeanceStreet$State" ∈ TW) (hd : decode M.2.1 pc = .ok (.anewarray idx, 3)) (K : VQ QQ G l M (pc + 3) lv ((2, (s.1.1 : Int)) :: st) (nw s 4 n.toNat) X) : VQ QQ G l M pc lv ((0, n) :: st) s (grd (s.1.1 < 1000000 ∧ 0 ≤ n ∧ n ≤ 100000) X) := by
  refine V_grd fun hs0 => ?_
  obtain ⟨hs1, hn1, hn2⟩ := hs0
  intro r s' hX
  obtain ⟨m1, m2, K⟩ := K r s' hX
  have m1 : s.1.1 + 1 ≤ s'.1.1 := m1
  have m2 : s.1.2 + n.toNat ≤ s'.1.2 := m2
  refine ⟨by omega, by omega, fun n0 k0 g1 g2 p e R s0 m args below meth c H locs ls hC hc hs hL hO hR hl => ?_⟩
  obtain ⟨hx, hb, -, -, hown, hts, hKN, -⟩ := id hC
  have on : ok32 n := okS_hd hO
  have cl := clamp32 on
  refine W.anew hx hb hown (hts _ hw) (va_AO.use hKN.2.2.1) rfl hd (n := Int32.ofInt n) rfl (fun q => by have := (lt32 on ok0).mp q; omega) (by rw [cl]; omega) (by omega) (by rw [cl]; omega) fun cA kA comp f1 f2 f3 f4 => ?_
  rw [cl]
  have hcA : cA = G.2.2.1 4 := by
    obtain ⟨kA', comp', -, -, -, h4⟩ := (hKN.1.2 3 _ rfl).2
    exact Option.some.inj (f1.symm.trans h4)
  subst hcA
  generalize hH1 : H.push ({ cls := G.2.2.1 4, slots := Array.replicate n.toNat .null, vm := .none } : Cell) = H1
  have z1 : H1.size = H.size + 1 := by rw [← hH1, Array.size_push]
  have e1 : H1[H.size]? = some (arrV (G.2.2.1 4) n.toNat (fun _ => .null)) := by rw [← hH1, Array.getElem?_push_size, ← arrV_new]
  have o1 : ∀ q : Nat, q < H.size → H1[q]? = H[q]? := fun q hq => by rw [← hH1, Array.getElem?_push, if_neg (Nat.ne_of_lt hq)]
  have hR1 : Rel G (nw s 4 n.toNat) H1 := hR.push e1 z1 o1 hs1 (cn4 G (by omega))
  have hW := K n0 k0 (show n0 ≤ s.1.1 + 1 by omega) (show k0 ≤ s.1.2 + n.toNat by omega) p e R s0 m args below meth c H1 locs ls hC hc hs hL (okS_cons (v := (2, (s.1.1 : Int))) trivial (okS_tl hO)) hR1 hl
  rw [show (nw s 4 n.toNat).1.1 - n0 = (s.1.1 - n0) + 1 by show s.1.1 + 1 - n0 = _; omega, show (nw s 4 n.toNat).1.2 - k0 = (s.1.2 - k0) + n.toNat by show s.1.2 + n.toNat - k0 = _; omega, List.map_cons, mk_new hR hs1] at hW
  exact hW
theorem Rel.setR {G : Gx} {s : St} {H H1 : Heap} {a x : Int} {j : Nat} (h : Rel G s H) (hk : isK s 4 a) (c1 : H1[G.1 + a.toNat]? = some ((arrV (G.2.2.1 4) (s.2.1 a.toNat).2 (fun i => mv G (2, s.2.2.1 a.toNat i))).setSlot j (mv G (2, x)))) (c2 : H1.size = H.size) (c3 : ∀ q : Nat, q ≠ G.1 + a.toNat → H1[q]? = H[q]?) : Rel G (pR s a j x) H1 := by
  obtain ⟨q1, q2⟩ := h.a4 hk
  refine h.set rfl rfl pR_o c2 c3 ?_
  have hk2 : (s.2.1 a.toNat).1 = 4 := hk.2
  have e : H1[G.1 + a.toNat]? = some (arrV (G.2.2.1 4) (s.2.1 a.toNat).2 (fun i => mv G (2, (pR s a j x).2.2.1 a.toNat i))) := by
    rw [c1, arrV_store, pR_a]
    congr 2
    funext i
    show (if i = j then mv G (2, x) else mv G (2, s.2.2.1 a.toNat i)) = mv G (2, if i = j then x else s.2.2.1 a.toNat i)
    by_cases hi : i = j
    · rw [if_pos hi, if_pos hi]
    · rw [if_neg hi, if_neg hi]
  have e9 : (pR s a j x).2.1 = s.2.1 := rfl
  unfold cellR
  rw [e9, hk2]
  exact ⟨fun q => by omega, fun q => by omega, fun q => by omega, fun _ => ⟨q1, e⟩, fun ci q => by omega⟩
theorem V_aast {a i x : Int} (hd : decode M.2.1 pc = .ok (.aastore, 1)) (K : VQ QQ G l M (pc + 1) lv st (pR s a i.toNat x) X) : VQ QQ G l M pc lv ((2, x) :: (0, i) :: (2, a) :: st) s (grd ((isK s 4 a ∧ 0 ≤ i ∧ i < ln s a) ∧ isK s 16 x) X) := by
  refine V_grd fun hg => ?_
  obtain ⟨⟨hk, hi⟩, hx16⟩ := hg
  intro r s' hX
  obtain ⟨h1, h2, K⟩ := K r s' hX
  refine ⟨h1, h2, fun n0 k0 g1 g2 p e R s0 m args below meth c H locs ls hC hc hs hL hO hR hl => ?_⟩
  obtain ⟨q1, q2⟩ := hR.a4 hk
  have oi : ok32 i := okS_hd (okS_tl hO)
  obtain ⟨q, cellV, hq, v1', v2, v3, v4⟩ := hR.obj (ci := 6) hx16
  obtain ⟨hx, hb, -, -, hown, hts, hKN, -⟩ := id hC
  have hq6 : q = (RX6, TX6, 4) := by cases hq; rfl
  subst hq6
  have hcls := (hKN.1.1 6 _ hq).2
  obtain ⟨kA, comp, k1, k2, k3, -⟩ := (hKN.1.2 3 _ rfl).2
  have hcomp : comp = G.2.1.1 6 := Option.some.inj (k3.symm.trans hcls.1)
  subst hcomp
  obtain ⟨kC, hkC, -⟩ := hcls.2
  have hlt : i.toNat < (s.2.1 a.toNat).2 := by have := hi.2; unfold ln at this; omega
  rw [List.map_cons, List.map_cons, List.map_cons, mv2, mv2, mkR_in hk.1, mkR_in hx16.1]
  refine W.aast hx hb q2 (fun q h => by cases h) (fun h => by cases h) k1 k2 rfl hkC ⟨fun q => by have := (lt32 oi ok0).mp q; omega, by rw [arrV_size, clamp32 oi]; exact hlt⟩ v1' (fun q h => by rw [v3] at h; cases h) (by rw [v2]; exact hkC) (by rw [v2]; exact va_assign hcls) rfl rfl hd fun H1 c1 c2 c3 => ?_
  rw [clamp32 oi] at c1 ⊢
  exact K n0 k0 g1 g2 p e R s0 m args below meth c H1 _ ls hC hc hs hL (okS_tl (okS_tl (okS_tl hO))) (hR.setR hk (by rw [c1, mv2, mkR_in hx16.1]) c2 c3) (locs_put hl)
theorem V_objInit {a : Int} {idx ci : Nat} (h1 : Cond.methodLink M.1.cls idx objectInit ∈ TW) (h2 : Cond.instanceMethod objectInit ∈ TW) (h3 : Cond.code objectInit ⟨#[0xb1]⟩ 1 none ∈ TW) (hr : Nat.ble 1 M.2.2.2.2.1 = true) (hr2 : Nat.ble (wsum st + 12) M.2.2.2.2.2 = true) (hd : decode M.2.1 pc = .ok (.invokespecial idx, 3)) (K : VQ QQ G l M (pc + 3) lv st s X) : VQ QQ G l M pc lv ((2, a) :: st) s (grd (isK s (10 + ci) a) X) := by
  refine V_grd fun hk => ?_
  intro r s' hX
  obtain ⟨m1, m2, K⟩ := K r s' hX
  refine ⟨m1, m2, fun n0 k0 g1 g2 p e R s0 m args below meth c H locs ls hC hc hs hL hO hR hl => ?_⟩
  obtain ⟨hx, hb, hml, -, hown, hts, hKN, -, -, hf, hlo⟩ := id hC
  rw [List.map_cons, mv2, mkR_in hk.1]
  refine W.objInit hx hb hown (hts _ h1) (hts _ h2) (hts _ h3) rfl (by rw [hml]; exact hL.1.1) rfl hd (by rw [hf]; exact Nat.le_of_ble_eq_true hr) ?_ (K n0 k0 g1 g2 p e R s0 m args below meth c H locs ls hC hc hs hL (okS_tl hO) hR hl)
  rw [wsum_eq, hlo]
  show 2 * 0 + _ + 12 ≤ _
  have := Nat.le_of_ble_eq_true hr2
  omega
theorem V_ldcS {idx : Nat} (i : Nat) (q : String × Nat × String × List Nat) (hq : STRS[i]? = some q) (h1 : q.1 = M.1.cls) (h2 : q.2.1 = idx) (hd : decode M.2.1 pc = .ok (.ldc idx, 2)) (K : VQ QQ G l M (pc + 2) lv ((2, 1000000 + (i : Int)) :: st) s X) : VQ QQ G l M pc lv st s X := by
  intro r s' hX
  obtain ⟨m1, m2, K⟩ := K r s' hX
  refine ⟨m1, m2, fun n0 k0 g1 g2 p e R s0 m args below meth c H locs ls hC hc hs hL hO hR hl => ?_⟩
  obtain ⟨hx, hb, hml, -, hown, hts, hKN, -⟩ := id hC
  have hZ := (hKN.2.2.2.1.1 i q hq).1
  rw [h1, h2] at hZ
  refine va_ldcS hx hb hown hZ hd ?_
  have hW := K n0 k0 g1 g2 p e R s0 m args below meth c H locs ls hC hc hs hL (okS_cons (v := (2, 1000000 + (i : Int))) trivial hO) hR hl
  have e9 : mv G (2, 1000000 + (i : Int)) = .ref (G.2.2.2.2.1 i) := by
    rw [mv2]
    unfold mkR
    rw [if_neg (by omega), if_neg (by omega), show (1000000 + (i : Int) - 1000000).toNat = i by omega]
  rw [List.map_cons, e9] at hW
  exact hW
theorem V_ldcSw {idx : Nat} (i : Nat) (q : String × Nat × String × List Nat) (hq : STRS[i]? = some q) (h1 : q.1 = M.1.cls) (h2 : q.2.1 = idx) (hd : decode M.2.1 pc = .ok (.ldc_w idx, 3)) (K : VQ QQ G l M (pc + 3) lv ((2, 1000000 + (i : Int)) :: st) s X) : VQ QQ G l M pc lv st s X := by
  intro r s' hX
  obtain ⟨m1, m2, K⟩ := K r s' hX
  refine ⟨m1, m2, fun n0 k0 g1 g2 p e R s0 m args below meth c H locs ls hC hc hs hL hO hR hl => ?_⟩
  obtain ⟨hx, hb, hml, -, hown, hts, hKN, -⟩ := id hC
  have hZ := (hKN.2.2.2.1.1 i q hq).1
  rw [h1, h2] at hZ
  have hW := K n0 k0 g1 g2 p e R s0 m args below meth c H locs ls hC hc hs hL (okS_cons (v := (2, 1000000 + (i : Int))) trivial hO) hR hl
  have e9 : mv G (2, 1000000 + (i : Int)) = .ref (G.2.2.2.2.1 i) := by
    rw [mv2]
    unfold mkR
    rw [if_neg (by omega), if_neg (by omega), show (1000000 + (i : Int) - 1000000).toNat = i by omega]
  rw [List.map_cons, e9] at hW
  intro T hT Y
  obtain ⟨t, a1, b1⟩ := hW T hT Y
  exact ⟨t, Y.ldcStringW hx hown (text := q.2.2.1) (a := G.2.2.2.2.1 i) hZ.1 hZ.2 (g := F0 m pc ls (st.map (mv G))) rfl (by rw [hb]; exact hd) t a1, b1⟩
end VNEWS
