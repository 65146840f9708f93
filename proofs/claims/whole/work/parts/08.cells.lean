/-! rows of V: arrays, new cells, ends of methods, calls -/
theorem v1 {i : Int} {n : Nat} (hi : ok32 i) (h : 0 ≤ i ∧ i < (n : Int)) : ¬ (Int32.ofInt i < 0 ∨ n ≤ (Int32.ofInt i).toNatClampNeg) := by
  rw [clamp32 hi]
  rintro (q | q)
  · have := (lt32 hi ok0).mp q; omega
  · omega
theorem Rel.a1 {G : Gx} {s : St} {H : Heap} {a : Int} (h : Rel G s H) (hk : isK s 1 a) : (s.2.1 a.toNat).2 ≤ 100000 ∧ H[G.1 + a.toNat]? = some (arrV (G.2.2.1 1) (s.2.1 a.toNat).2 (fun i => mv G (0, s.2.2.2 a.toNat i))) ∧ ∀ i, i < (s.2.1 a.toNat).2 → ok32 (s.2.2.2 a.toNat i) := (h.cell a.toNat).1 hk.2
theorem Rel.a2 {G : Gx} {s : St} {H : Heap} {a : Int} (h : Rel G s H) (hk : isK s 2 a) : (s.2.1 a.toNat).2 ≤ 100000 ∧ H[G.1 + a.toNat]? = some (arrV (G.2.2.1 2) (s.2.1 a.toNat).2 (fun i => mv G (0, s.2.2.2 a.toNat i))) ∧ ∀ i, i < (s.2.1 a.toNat).2 → ok8 (s.2.2.2 a.toNat i) := (h.cell a.toNat).2.1 hk.2
theorem Rel.a3 {G : Gx} {s : St} {H : Heap} {a : Int} (h : Rel G s H) (hk : isK s 3 a) : (s.2.1 a.toNat).2 ≤ 100000 ∧ H[G.1 + a.toNat]? = some (arrV (G.2.2.1 3) (s.2.1 a.toNat).2 (fun i => mv G (1, s.2.2.2 a.toNat i))) ∧ ∀ i, i < (s.2.1 a.toNat).2 → ok64 (s.2.2.2 a.toNat i) := (h.cell a.toNat).2.2.1 hk.2
theorem Rel.a4 {G : Gx} {s : St} {H : Heap} {a : Int} (h : Rel G s H) (hk : isK s 4 a) : (s.2.1 a.toNat).2 ≤ 100000 ∧ H[G.1 + a.toNat]? = some (arrV (G.2.2.1 4) (s.2.1 a.toNat).2 (fun i => mv G (2, s.2.2.1 a.toNat i))) := (h.cell a.toNat).2.2.2.1 hk.2
theorem tA (G : Gx) {U : State} (h : KN G U) : ArrOfT U (G.2.2.1 1) .int ∧ ArrOfT U (G.2.2.1 2) .byte ∧ ArrOfT U (G.2.2.1 3) .long ∧ ArrOfT U (G.2.2.1 4) (.object "SeanceStreet$State") := ⟨(h.1.2 0 _ rfl).1, (h.1.2 1 _ rfl).1, (h.1.2 2 _ rfl).1, (h.1.2 3 _ rfl).1⟩
/-- an array's place is written -/
theorem Rel.setA {G : Gx} {s : St} {H H1 : Heap} {a x : Int} {j kk : Nat} {z : Nat → Value} {cA : ClassId} {tg : Nat} {P : Int → Prop} (h : Rel G s H) (hk : isK s kk a) (hkk : (kk = 1 ∧ tg = 0 ∧ P = ok32) ∨ (kk = 2 ∧ tg = 0 ∧ P = ok8) ∨ (kk = 3 ∧ tg = 1 ∧ P = ok64)) (hA : cA = G.2.2.1 kk) (hn : (s.2.1 a.toNat).2 ≤ 100000) (hz : z = fun i => mv G (tg, s.2.2.2 a.toNat i)) (hP : ∀ i, i < (s.2.1 a.toNat).2 → P (s.2.2.2 a.toNat i)) (hx : P x)
    (c1 : H1[G.1 + a.toNat]? = some ((arrV cA (s.2.1 a.toNat).2 z).setSlot j (mv G (tg, x)))) (c2 : H1.size = H.size) (c3 : ∀ q : Nat, q ≠ G.1 + a.toNat → H1[q]? = H[q]?) : Rel G (pI s a j x) H1 := by
  refine h.set rfl rfl pI_o c2 c3 ?_
  have hk2 : (s.2.1 a.toNat).1 = kk := hk.2
  have e : H1[G.1 + a.toNat]? = some (arrV (G.2.2.1 kk) (s.2.1 a.toNat).2 (fun i => mv G (tg, (pI s a j x).2.2.2 a.toNat i))) := by
    rw [c1, arrV_store, hA, hz, pI_a]
    congr 2
    funext i
    show (if i = j then mv G (tg, x) else mv G (tg, s.2.2.2 a.toNat i)) = mv G (tg, if i = j then x else s.2.2.2 a.toNat i)
    by_cases hi : i = j
    · rw [if_pos hi, if_pos hi]
    · rw [if_neg hi, if_neg hi]
  have hP2 : ∀ i, i < (s.2.1 a.toNat).2 → P ((pI s a j x).2.2.2 a.toNat i) := fun i hi => by
    rw [pI_a]
    show P (if i = j then x else _)
    by_cases hij : i = j
    · rw [if_pos hij]; exact hx
    · rw [if_neg hij]; exact hP i hi
  have e9 : (pI s a j x).2.1 = s.2.1 := rfl
  unfold cellR
  rw [e9, hk2]
  rcases hkk with ⟨rfl, rfl, rfl⟩ | ⟨rfl, rfl, rfl⟩ | ⟨rfl, rfl, rfl⟩
  · exact ⟨fun _ => ⟨hn, e, hP2⟩, fun q => by omega, fun q => by omega, fun q => by omega, fun ci q => by omega⟩
  · exact ⟨fun q => by omega, fun _ => ⟨hn, e, hP2⟩, fun q => by omega, fun q => by omega, fun ci q => by omega⟩
  · exact ⟨fun q => by omega, fun q => by omega, fun _ => ⟨hn, e, hP2⟩, fun q => by omega, fun ci q => by omega⟩
section VARR
variable {QQ : QT} {G : Gx} {l : Launch} {M : MI} {pc : Nat} {lv : List (Nat × PV)} {st : List PV} {s : St} {X : Rs}
theorem V_iald {a i : Int} (hd : decode M.2.1 pc = .ok (.iaload, 1)) (K : VQ QQ G l M (pc + 1) lv ((0, gI s a i.toNat) :: st) s X) : VQ QQ G l M pc lv ((0, i) :: (2, a) :: st) s (grd (isK s 1 a ∧ 0 ≤ i ∧ i < ln s a) X) := by
  refine V_grd fun hg => ?_
  obtain ⟨hk, hi⟩ := hg
  intro r s' hX
  obtain ⟨h1, h2, K⟩ := K r s' hX
  refine ⟨h1, h2, fun n0 k0 g1 g2 p e R s0 m args below meth c H locs ls hC hc hs hL hO hR hl => ?_⟩
  obtain ⟨q1, q2, q3⟩ := hR.a1 hk
  have oi : ok32 i := okS_hd hO
  have hlt : i.toNat < (s.2.1 a.toNat).2 := by have := hi.2; unfold ln at this; omega
  rw [List.map_cons, List.map_cons, mv2, mkR_in hk.1]
  refine W.iald hC.1 hC.2.1 q2 ((tA G hC.2.2.2.2.2.2.1).1 _ _) (fun q => by cases q) (by rw [arrV_size]; exact v1 oi hi) (v := mv G (0, gI s a i.toNat)) (by rw [clamp32 oi, arrV_read _ _ hlt]; rfl) rfl rfl hd ?_
  exact K n0 k0 g1 g2 p e R s0 m args below meth c H locs ls hC hc hs hL (okS_cons (v := (0, gI s a i.toNat)) (q3 _ hlt) (okS_tl (okS_tl hO))) hR hl
theorem V_bald {a i : Int} (hd : decode M.2.1 pc = .ok (.baload, 1)) (K : VQ QQ G l M (pc + 1) lv ((0, gI s a i.toNat) :: st) s X) : VQ QQ G l M pc lv ((0, i) :: (2, a) :: st) s (grd (isK s 2 a ∧ 0 ≤ i ∧ i < ln s a) X) := by
  refine V_grd fun hg => ?_
  obtain ⟨hk, hi⟩ := hg
  intro r s' hX
  obtain ⟨h1, h2, K⟩ := K r s' hX
  refine ⟨h1, h2, fun n0 k0 g1 g2 p e R s0 m args below meth c H locs ls hC hc hs hL hO hR hl => ?_⟩
  obtain ⟨q1, q2, q3⟩ := hR.a2 hk
  have oi : ok32 i := okS_hd hO
  have hlt : i.toNat < (s.2.1 a.toNat).2 := by have := hi.2; unfold ln at this; omega
  rw [List.map_cons, List.map_cons, mv2, mkR_in hk.1]
  refine W.bald hC.1 hC.2.1 q2 ((tA G hC.2.2.2.2.2.2.1).2.1 _ _) (fun q => by cases q) (by rw [arrV_size]; exact v1 oi hi) (v := mv G (0, gI s a i.toNat)) (by rw [clamp32 oi, arrV_read _ _ hlt]; rfl) rfl rfl hd ?_
  exact K n0 k0 g1 g2 p e R s0 m args below meth c H locs ls hC hc hs hL (okS_cons (v := (0, gI s a i.toNat)) (ok8_32 (q3 _ hlt)) (okS_tl (okS_tl hO))) hR hl
theorem V_lald {a i : Int} (hd : decode M.2.1 pc = .ok (.laload, 1)) (K : VQ QQ G l M (pc + 1) lv ((1, gI s a i.toNat) :: st) s X) : VQ QQ G l M pc lv ((0, i) :: (2, a) :: st) s (grd (isK s 3 a ∧ 0 ≤ i ∧ i < ln s a) X) := by
  refine V_grd fun hg => ?_
  obtain ⟨hk, hi⟩ := hg
  intro r s' hX
  obtain ⟨h1, h2, K⟩ := K r s' hX
  refine ⟨h1, h2, fun n0 k0 g1 g2 p e R s0 m args below meth c H locs ls hC hc hs hL hO hR hl => ?_⟩
  obtain ⟨q1, q2, q3⟩ := hR.a3 hk
  have oi : ok32 i := okS_hd hO
  have hlt : i.toNat < (s.2.1 a.toNat).2 := by have := hi.2; unfold ln at this; omega
  rw [List.map_cons, List.map_cons, mv2, mkR_in hk.1]
  refine W.lald hC.1 hC.2.1 q2 ((tA G hC.2.2.2.2.2.2.1).2.2.1 _ _) (fun q => by cases q) (by rw [arrV_size]; exact v1 oi hi) (v := mv G (1, gI s a i.toNat)) (by rw [clamp32 oi, arrV_read _ _ hlt]; rfl) rfl rfl hd ?_
  exact K n0 k0 g1 g2 p e R s0 m args below meth c H locs ls hC hc hs hL (okS_cons (v := (1, gI s a i.toNat)) (q3 _ hlt) (okS_tl (okS_tl hO))) hR hl
theorem V_aald {a i : Int} (hd : decode M.2.1 pc = .ok (.aaload, 1)) (K : VQ QQ G l M (pc + 1) lv ((2, gR s a i.toNat) :: st) s X) : VQ QQ G l M pc lv ((0, i) :: (2, a) :: st) s (grd (isK s 4 a ∧ 0 ≤ i ∧ i < ln s a) X) := by
  refine V_grd fun hg => ?_
  obtain ⟨hk, hi⟩ := hg
  intro r s' hX
  obtain ⟨h1, h2, K⟩ := K r s' hX
  refine ⟨h1, h2, fun n0 k0 g1 g2 p e R s0 m args below meth c H locs ls hC hc hs hL hO hR hl => ?_⟩
  obtain ⟨q1, q2⟩ := hR.a4 hk
  have oi : ok32 i := okS_hd hO
  have hlt : i.toNat < (s.2.1 a.toNat).2 := by have := hi.2; unfold ln at this; omega
  rw [List.map_cons, List.map_cons, mv2, mkR_in hk.1]
  refine W.aald (ty := .object "SeanceStreet$State") hC.1 hC.2.1 q2 ((tA G hC.2.2.2.2.2.2.1).2.2.2 _ _) rfl (fun q => by cases q) (by rw [arrV_size]; exact v1 oi hi) (v := mv G (2, gR s a i.toNat)) (by rw [clamp32 oi, arrV_read _ _ hlt]; rfl) rfl rfl hd ?_
  exact K n0 k0 g1 g2 p e R s0 m args below meth c H locs ls hC hc hs hL (okS_cons (v := (2, gR s a i.toNat)) trivial (okS_tl (okS_tl hO))) hR hl
theorem locs_put {G : Gx} {locs : List Loc} {a j : Nat} (hl : ∀ q ∈ locs, G.1 ≤ q.base) : ∀ q ∈ locs ++ [⟨G.1 + a, j⟩], G.1 ≤ q.base := fun q hq => by
  rcases List.mem_append.mp hq with h | h
  · exact hl q h
  · rw [List.mem_singleton.mp h]; exact Nat.le_add_right _ _
theorem V_iast {a i x : Int} (hd : decode M.2.1 pc = .ok (.iastore, 1)) (K : VQ QQ G l M (pc + 1) lv st (pI s a i.toNat x) X) : VQ QQ G l M pc lv ((0, x) :: (0, i) :: (2, a) :: st) s (grd (isK s 1 a ∧ 0 ≤ i ∧ i < ln s a) X) := by
  refine V_grd fun hg => ?_
  obtain ⟨hk, hi⟩ := hg
  intro r s' hX
  obtain ⟨h1, h2, K⟩ := K r s' hX
  refine ⟨h1, h2, fun n0 k0 g1 g2 p e R s0 m args below meth c H locs ls hC hc hs hL hO hR hl => ?_⟩
  obtain ⟨q1, q2, q3⟩ := hR.a1 hk
  have oi : ok32 i := okS_hd (okS_tl hO)
  rw [List.map_cons, List.map_cons, List.map_cons, mv2, mkR_in hk.1]
  refine W.iast hC.1 hC.2.1 q2 ((tA G hC.2.2.2.2.2.2.1).1 _ _) (fun q => by cases q) (by rw [arrV_size]; exact v1 oi hi) rfl rfl hd fun H1 c1 c2 c3 => ?_
  rw [clamp32 oi] at c1 ⊢
  exact K n0 k0 g1 g2 p e R s0 m args below meth c H1 _ ls hC hc hs hL (okS_tl (okS_tl (okS_tl hO))) (hR.setA hk (Or.inl ⟨rfl, rfl, rfl⟩) rfl q1 rfl q3 (show ok32 x from okS_hd hO) c1 c2 c3) (locs_put hl)
theorem V_bast {a i x : Int} (hd : decode M.2.1 pc = .ok (.bastore, 1)) (K : VQ QQ G l M (pc + 1) lv st (pI s a i.toNat (w8 x)) X) : VQ QQ G l M pc lv ((0, x) :: (0, i) :: (2, a) :: st) s (grd (isK s 2 a ∧ 0 ≤ i ∧ i < ln s a) X) := by
  refine V_grd fun hg => ?_
  obtain ⟨hk, hi⟩ := hg
  intro r s' hX
  obtain ⟨h1, h2, K⟩ := K r s' hX
  refine ⟨h1, h2, fun n0 k0 g1 g2 p e R s0 m args below meth c H locs ls hC hc hs hL hO hR hl => ?_⟩
  obtain ⟨q1, q2, q3⟩ := hR.a2 hk
  have oi : ok32 i := okS_hd (okS_tl hO)
  have ox : ok32 x := okS_hd hO
  rw [List.map_cons, List.map_cons, List.map_cons, mv2, mkR_in hk.1]
  refine W.bast hC.1 hC.2.1 q2 ((tA G hC.2.2.2.2.2.2.1).2.1 _ _) (fun q => by cases q) (by rw [arrV_size]; exact v1 oi hi) rfl rfl hd fun H1 c1 c2 c3 => ?_
  rw [clamp32 oi] at c1 ⊢
  rw [narrow_byte, i2b32 ox] at c1
  exact K n0 k0 g1 g2 p e R s0 m args below meth c H1 _ ls hC hc hs hL (okS_tl (okS_tl (okS_tl hO))) (hR.setA hk (Or.inr (Or.inl ⟨rfl, rfl, rfl⟩)) rfl q1 rfl q3 (ok_w8 x) c1 c2 c3) (locs_put hl)
theorem V_last {a i x : Int} (hd : decode M.2.1 pc = .ok (.lastore, 1)) (K : VQ QQ G l M (pc + 1) lv st (pI s a i.toNat x) X) : VQ QQ G l M pc lv ((1, x) :: (0, i) :: (2, a) :: st) s (grd (isK s 3 a ∧ 0 ≤ i ∧ i < ln s a) X) := by
  refine V_grd fun hg => ?_
  obtain ⟨hk, hi⟩ := hg
  intro r s' hX
  obtain ⟨h1, h2, K⟩ := K r s' hX
  refine ⟨h1, h2, fun n0 k0 g1 g2 p e R s0 m args below meth c H locs ls hC hc hs hL hO hR hl => ?_⟩
  obtain ⟨q1, q2, q3⟩ := hR.a3 hk
  have oi : ok32 i := okS_hd (okS_tl hO)
  rw [List.map_cons, List.map_cons, List.map_cons, mv2, mkR_in hk.1]
  refine W.last hC.1 hC.2.1 q2 ((tA G hC.2.2.2.2.2.2.1).2.2.1 _ _) (fun q => by cases q) (by rw [arrV_size]; exact v1 oi hi) rfl rfl hd fun H1 c1 c2 c3 => ?_
  rw [clamp32 oi] at c1 ⊢
  exact K n0 k0 g1 g2 p e R s0 m args below meth c H1 _ ls hC hc hs hL (okS_tl (okS_tl (okS_tl hO))) (hR.setA hk (Or.inr (Or.inr ⟨rfl, rfl, rfl⟩)) rfl q1 rfl q3 (show ok64 x from okS_hd hO) c1 c2 c3) (locs_put hl)
theorem len32 {n : Nat} (h : n ≤ 100000) : Int32.ofNat n = Int32.ofInt (n : Int) := rfl
theorem V_alen {a : Int} (kk : Nat) (hkk : kk = 1 ∨ kk = 2 ∨ kk = 3) (hd : decode M.2.1 pc = .ok (.arraylength, 1)) (K : VQ QQ G l M (pc + 1) lv ((0, ln s a) :: st) s X) : VQ QQ G l M pc lv ((2, a) :: st) s (grd (isK s kk a) X) := by
  refine V_grd fun hk => ?_
  intro r s' hX
  obtain ⟨h1, h2, K⟩ := K r s' hX
  refine ⟨h1, h2, fun n0 k0 g1 g2 p e R s0 m args below meth c H locs ls hC hc hs hL hO hR hl => ?_⟩
  have hK := fun (q1 : (s.2.1 a.toNat).2 ≤ 100000) => K n0 k0 g1 g2 p e R s0 m args below meth c H locs ls hC hc hs hL (okS_cons (v := (0, ln s a)) (show ok32 _ by unfold ln ok32; omega) (okS_tl hO)) hR hl
  rw [List.map_cons, mv2, mkR_in hk.1]
  rcases hkk with rfl | rfl | rfl
  · obtain ⟨q1, q2, q3⟩ := hR.a1 hk
    exact W.alen (n := Int32.ofInt (ln s a)) hC.1 hC.2.1 q2 ((tA G hC.2.2.2.2.2.2.1).1 _ _) (by rw [arrV_size]; exact len32 q1) rfl rfl hd (hK q1)
  · obtain ⟨q1, q2, q3⟩ := hR.a2 hk
    exact W.alen (n := Int32.ofInt (ln s a)) hC.1 hC.2.1 q2 ((tA G hC.2.2.2.2.2.2.1).2.1 _ _) (by rw [arrV_size]; exact len32 q1) rfl rfl hd (hK q1)
  · obtain ⟨q1, q2, q3⟩ := hR.a3 hk
    exact W.alen (n := Int32.ofInt (ln s a)) hC.1 hC.2.1 q2 ((tA G hC.2.2.2.2.2.2.1).2.2.1 _ _) (by rw [arrV_size]; exact len32 q1) rfl rfl hd (hK q1)
/-! ends -/
theorem V_iret {x : Int} (hr : M.2.2.2.1 = some .int) (hd : decode M.2.1 pc = .ok (.ireturn, 1)) : V G l M pc lv [(0, x)] s (some (x, s)) := by
  intro r s' hX
  cases hX
  refine ⟨Nat.le_refl _, Nat.le_refl _, fun n0 k0 g1 g2 p e R s0 m args below meth c H locs ls hC hc hs hL hO hR hl => ?_⟩
  have hlk := hC.2.2.2.2.2.2.2.1
  refine W.iret (v := Int32.ofInt x) hC.1 hC.2.1 (hC.2.2.2.1.trans hr) (fun t ht hW => ⟨⟨_, rfl, ?_⟩, by rw [ht]; exact hR⟩) hl hd hlk
  unfold RV
  rw [hr, if_neg (by decide)]
  exact ⟨rfl, okS_hd hO⟩
theorem nar_b {x : Int} (h : x = 0 ∨ x = 1) : narrow .boolean (.int (Int32.ofInt x)) = .int (Int32.ofInt x) := by
  rcases h with rfl | rfl <;> decide
theorem V_zret {x : Int} (hr : M.2.2.2.1 = some .boolean) (hd : decode M.2.1 pc = .ok (.ireturn, 1)) : V G l M pc lv [(0, x)] s (grd (x = 0 ∨ x = 1) (some (x, s))) := by
  refine V_grd fun hx => ?_
  intro r s' hX
  cases hX
  refine ⟨Nat.le_refl _, Nat.le_refl _, fun n0 k0 g1 g2 p e R s0 m args below meth c H locs ls hC hc hs hL hO hR hl => ?_⟩
  have hlk := hC.2.2.2.2.2.2.2.1
  refine W.zret (v := Int32.ofInt x) hC.1 hC.2.1 (hC.2.2.2.1.trans hr) (nar_b hx) (fun t ht hW => ⟨⟨_, rfl, ?_⟩, by rw [ht]; exact hR⟩) hl hd hlk
  unfold RV
  rw [hr, if_neg (by decide)]
  exact ⟨rfl, okS_hd hO⟩
theorem V_lret {x : Int} (hr : M.2.2.2.1 = some .long) (hd : decode M.2.1 pc = .ok (.lreturn, 1)) : V G l M pc lv [(1, x)] s (some (x, s)) := by
  intro r s' hX
  cases hX
  refine ⟨Nat.le_refl _, Nat.le_refl _, fun n0 k0 g1 g2 p e R s0 m args below meth c H locs ls hC hc hs hL hO hR hl => ?_⟩
  have hlk := hC.2.2.2.2.2.2.2.1
  refine W.lret (v := Int64.ofInt x) hC.1 hC.2.1 (hC.2.2.2.1.trans hr) (fun t ht hW => ⟨⟨_, rfl, ?_⟩, by rw [ht]; exact hR⟩) hl hd hlk
  unfold RV
  rw [hr, if_neg (by decide)]
  exact ⟨rfl, okS_hd hO⟩
theorem V_vret (hr : M.2.2.2.1 = none) (hd : decode M.2.1 pc = .ok (.return_, 1)) : V G l M pc lv [] s (some (0, s)) := by
  intro r s' hX
  cases hX
  refine ⟨Nat.le_refl _, Nat.le_refl _, fun n0 k0 g1 g2 p e R s0 m args below meth c H locs ls hC hc hs hL hO hR hl => ?_⟩
  have hlk := hC.2.2.2.2.2.2.2.1
  refine W.vret hC.1 hC.2.1 (hC.2.2.2.1.trans hr) (fun t ht hW => ⟨⟨_, rfl, ?_⟩, by rw [ht]; exact hR⟩) hl hd hlk
  unfold RV
  rw [hr, if_pos rfl]
end VARR
