def L_law_b2315 (sc : Nat × (Nat → Int)) (rk23 : St → Int → Int → Int → Int → Rs) (s : St) (x1 x2 x3 x4 : Int) : Rs :=
  rk23 s x1 x2 x3 (w32 (x4 + 6))
set_option maxRecDepth 100000 in
set_option maxHeartbeats 4000000 in
theorem L_law_b2315_s (G : Gx) (l : Launch) (hl : l.stackTraces = false) (rk23 : St → Int → Int → Int → Int → Rs) (hk23 : ∀ (s : St) (x1 x2 x3 x4 : Int), VQ (QLaw G) G l mL_law 23 [(0, (2, 1002000)), (1, (2, x1)), (2, (2, x2)), (3, (2, x3)), (4, (0, x4))] [] s (rk23 s x1 x2 x3 x4)) (s : St) (x1 x2 x3 x4 : Int) : VQ (QLaw G) G l mL_law 2315 [(0, (2, 1002000)), (1, (2, x1)), (2, (2, x2)), (3, (2, x3)), (4, (0, x4))] [] s (L_law_b2315 G.2.2.2.2.2.2 rk23 s x1 x2 x3 x4) := by
  unfold L_law_b2315
  refine V_iinc (lv' := [(4, (0, (w32 (x4 + 6)))), (0, (2, 1002000)), (1, (2, x1)), (2, (2, x2)), (3, (2, x3))]) dec_L_law_59.2.2.1.2 4 rfl (by decide) rfl ?_
  refine V_goto (tgt := 23) dec_L_law_59.2.2.2.1 (by decide) ?_
  exact V_pick [1, 2, 3, 4, 0] rfl (hk23 s x1 x2 x3 (w32 (x4 + 6)))
def L_law_b300 (sc : Nat × (Nat → Int)) (rk23 : St → Int → Int → Int → Int → Rs) (s : St) (x1 x2 x3 x4 : Int) : Rs :=
  grd (0 ≤ (w32 (x4 + 1)) ∧ (w32 (x4 + 1)) < (sc.1 : Int)) (grd (0 ≤ (w32 (x4 + 2)) ∧ (w32 (x4 + 2)) < (sc.1 : Int)) (grd (0 ≤ (w32 (x4 + 3)) ∧ (w32 (x4 + 3)) < (sc.1 : Int)) (grd (0 ≤ (w32 (x4 + 4)) ∧ (w32 (x4 + 4)) < (sc.1 : Int)) (grd (0 ≤ (w32 (x4 + 5)) ∧ (w32 (x4 + 5)) < (sc.1 : Int)) (grd (isK s 21 x1) (bnd (X11_feed s x1 (sc.2 (w32 (x4 + 1)).toNat) (sc.2 (w32 (x4 + 2)).toNat) (sc.2 (w32 (x4 + 3)).toNat) (sc.2 (w32 (x4 + 4)).toNat) (sc.2 (w32 (x4 + 5)).toNat)) (fun r8 s9 => grd (0 ≤ (w32 (x4 + 1)) ∧ (w32 (x4 + 1)) < (sc.1 : Int)) (grd (0 ≤ (w32 (x4 + 2)) ∧ (w32 (x4 + 2)) < (sc.1 : Int)) (grd (0 ≤ (w32 (x4 + 3)) ∧ (w32 (x4 + 3)) < (sc.1 : Int)) (grd (0 ≤ (w32 (x4 + 4)) ∧ (w32 (x4 + 4)) < (sc.1 : Int)) (grd (0 ≤ (w32 (x4 + 5)) ∧ (w32 (x4 + 5)) < (sc.1 : Int)) (grd (isK s9 23 x2) (bnd (X13_feed s9 x2 (sc.2 (w32 (x4 + 1)).toNat) (sc.2 (w32 (x4 + 2)).toNat) (sc.2 (w32 (x4 + 3)).toNat) (sc.2 (w32 (x4 + 4)).toNat) (sc.2 (w32 (x4 + 5)).toNat)) (fun r10 s11 => if r8 = r10 then (L_law_b2315 sc rk23 s11 x1 x2 x3 x4) else (grd ((0 : Int) = 1) (some (0, s11)))))))))))))))))
set_option maxRecDepth 100000 in
set_option maxHeartbeats 4000000 in
theorem L_law_b300_s (G : Gx) (l : Launch) (hl : l.stackTraces = false) (rk23 : St → Int → Int → Int → Int → Rs) (hk23 : ∀ (s : St) (x1 x2 x3 x4 : Int), VQ (QLaw G) G l mL_law 23 [(0, (2, 1002000)), (1, (2, x1)), (2, (2, x2)), (3, (2, x3)), (4, (0, x4))] [] s (rk23 s x1 x2 x3 x4)) (s : St) (x1 x2 x3 x4 : Int) : VQ (QLaw G) G l mL_law 300 [(0, (2, 1002000)), (1, (2, x1)), (2, (2, x2)), (3, (2, x3)), (4, (0, x4))] [] s (L_law_b300 G.2.2.2.2.2.2 rk23 s x1 x2 x3 x4) := by
  unfold L_law_b300
  refine V_aload_n dec_L_law_1.1.1.1.2.1 1 rfl ?_
  refine V_aload_n dec_L_law_1.1.1.1.2.2 0 rfl ?_
  refine V_iload dec_L_law_1.1.1.2.1 4 rfl ?_
  refine V_iconst dec_L_law_1.1.1.2.2.1 rfl ?_
  refine V_iadd dec_L_law_1.1.1.2.2.2 ?_
  refine V_sald dec_L_law_1.1.2.1.1 ?_
  refine V_aload_n dec_L_law_1.1.2.1.2.1 0 rfl ?_
  refine V_iload dec_L_law_1.1.2.1.2.2 4 rfl ?_
  refine V_iconst dec_L_law_1.1.2.2.1 rfl ?_
  refine V_iadd dec_L_law_1.1.2.2.2.1 ?_
  refine V_sald dec_L_law_1.1.2.2.2.2 ?_
  refine V_aload_n dec_L_law_1.2.1.1.1 0 rfl ?_
  refine V_iload dec_L_law_1.2.1.1.2.1 4 rfl ?_
  refine V_iconst dec_L_law_1.2.1.1.2.2 rfl ?_
  refine V_iadd dec_L_law_1.2.1.2.1 ?_
  refine V_sald dec_L_law_1.2.1.2.2.1 ?_
  refine V_aload_n dec_L_law_1.2.1.2.2.2 0 rfl ?_
  refine V_iload dec_L_law_1.2.2.1.1 4 rfl ?_
  refine V_iconst dec_L_law_1.2.2.1.2.1 rfl ?_
  refine V_iadd dec_L_law_1.2.2.1.2.2 ?_
  refine V_sald dec_L_law_1.2.2.2.1 ?_
  refine V_aload_n dec_L_law_1.2.2.2.2.1 0 rfl ?_
  refine V_iload dec_L_law_1.2.2.2.2.2 4 rfl ?_
  refine V_iconst dec_L_law_2.1.1.1.1 rfl ?_
  refine V_iadd dec_L_law_2.1.1.1.2.1 ?_
  refine V_sald dec_L_law_2.1.1.1.2.2 ?_
  refine V_callV0 (ci := 11) (a := x1) (As := [(0, (G.2.2.2.2.2.2.2 (w32 (x4 + 1)).toNat)), (0, (G.2.2.2.2.2.2.2 (w32 (x4 + 2)).toNat)), (0, (G.2.2.2.2.2.2.2 (w32 (x4 + 3)).toNat)), (0, (G.2.2.2.2.2.2.2 (w32 (x4 + 4)).toNat)), (0, (G.2.2.2.2.2.2.2 (w32 (x4 + 5)).toNat))]) (st := []) rfl rfl (X11_feed_s G l s x1 (G.2.2.2.2.2.2.2 (w32 (x4 + 1)).toNat) (G.2.2.2.2.2.2.2 (w32 (x4 + 2)).toNat) (G.2.2.2.2.2.2.2 (w32 (x4 + 3)).toNat) (G.2.2.2.2.2.2.2 (w32 (x4 + 4)).toNat) (G.2.2.2.2.2.2.2 (w32 (x4 + 5)).toNat)) cal_X11_feed rfl ml_L_19 rfl rfl dec_L_law_2.1.1.2.1 (k_tag (tag := 0) rfl fun r8 s9 => ?_)
  refine V_aload_n dec_L_law_2.1.1.2.2.1 2 rfl ?_
  refine V_aload_n dec_L_law_2.1.1.2.2.2 0 rfl ?_
  refine V_iload dec_L_law_2.1.2.1.1 4 rfl ?_
  refine V_iconst dec_L_law_2.1.2.1.2.1 rfl ?_
  refine V_iadd dec_L_law_2.1.2.1.2.2 ?_
  refine V_sald dec_L_law_2.1.2.2.1 ?_
  refine V_aload_n dec_L_law_2.1.2.2.2.1 0 rfl ?_
  refine V_iload dec_L_law_2.1.2.2.2.2 4 rfl ?_
  refine V_iconst dec_L_law_2.2.1.1.1 rfl ?_
  refine V_iadd dec_L_law_2.2.1.1.2.1 ?_
  refine V_sald dec_L_law_2.2.1.1.2.2 ?_
  refine V_aload_n dec_L_law_2.2.1.2.1 0 rfl ?_
  refine V_iload dec_L_law_2.2.1.2.2.1 4 rfl ?_
  refine V_iconst dec_L_law_2.2.1.2.2.2 rfl ?_
  refine V_iadd dec_L_law_2.2.2.1.1 ?_
  refine V_sald dec_L_law_2.2.2.1.2.1 ?_
  refine V_aload_n dec_L_law_2.2.2.1.2.2 0 rfl ?_
  refine V_iload dec_L_law_2.2.2.2.1 4 rfl ?_
  refine V_iconst dec_L_law_2.2.2.2.2.1 rfl ?_
  refine V_iadd dec_L_law_2.2.2.2.2.2 ?_
  refine V_sald dec_L_law_3.1.1.1.1 ?_
  refine V_aload_n dec_L_law_3.1.1.1.2.1 0 rfl ?_
  refine V_iload dec_L_law_3.1.1.1.2.2 4 rfl ?_
  refine V_iconst dec_L_law_3.1.1.2.1 rfl ?_
  refine V_iadd dec_L_law_3.1.1.2.2.1 ?_
  refine V_sald dec_L_law_3.1.1.2.2.2 ?_
  refine V_callV0 (ci := 13) (a := x2) (As := [(0, (G.2.2.2.2.2.2.2 (w32 (x4 + 1)).toNat)), (0, (G.2.2.2.2.2.2.2 (w32 (x4 + 2)).toNat)), (0, (G.2.2.2.2.2.2.2 (w32 (x4 + 3)).toNat)), (0, (G.2.2.2.2.2.2.2 (w32 (x4 + 4)).toNat)), (0, (G.2.2.2.2.2.2.2 (w32 (x4 + 5)).toNat))]) (st := [(0, r8)]) rfl rfl (X13_feed_s G l s9 x2 (G.2.2.2.2.2.2.2 (w32 (x4 + 1)).toNat) (G.2.2.2.2.2.2.2 (w32 (x4 + 2)).toNat) (G.2.2.2.2.2.2.2 (w32 (x4 + 3)).toNat) (G.2.2.2.2.2.2.2 (w32 (x4 + 4)).toNat) (G.2.2.2.2.2.2.2 (w32 (x4 + 5)).toNat)) cal_X13_feed rfl ml_L_23 rfl rfl dec_L_law_3.1.2.1.1 (k_tag (tag := 0) rfl fun r10 s11 => ?_)
  refine V_icmp_eq (tgt := 2315) dec_L_law_3.1.2.1.2.1 (by decide) ?_ ?_
  · exact V_pick [0, 1, 2, 3, 4] rfl (L_law_b2315_s G l hl rk23 hk23 s11 x1 x2 x3 x4)
  · refine V_iconst dec_L_law_3.1.2.1.2.2 rfl ?_
    exact V_lawret rfl dec_L_law_3.1.2.2.1
def L_law_b373 (sc : Nat × (Nat → Int)) (rk23 : St → Int → Int → Int → Int → Rs) (s : St) (x1 x2 x3 x4 : Int) : Rs :=
  grd (0 ≤ (w32 (x4 + 1)) ∧ (w32 (x4 + 1)) < (sc.1 : Int)) (grd (isK s 21 x1) (bnd (X11_town s x1 (sc.2 (w32 (x4 + 1)).toNat)) (fun r12 s13 => grd (0 ≤ (w32 (x4 + 1)) ∧ (w32 (x4 + 1)) < (sc.1 : Int)) (grd (isK s13 23 x2) (bnd (X13_town s13 x2 (sc.2 (w32 (x4 + 1)).toNat)) (fun r14 s15 => if r12 = r14 then (L_law_b2315 sc rk23 s15 x1 x2 x3 x4) else (grd ((0 : Int) = 1) (some (0, s15)))))))))
set_option maxRecDepth 100000 in
set_option maxHeartbeats 4000000 in
theorem L_law_b373_s (G : Gx) (l : Launch) (hl : l.stackTraces = false) (rk23 : St → Int → Int → Int → Int → Rs) (hk23 : ∀ (s : St) (x1 x2 x3 x4 : Int), VQ (QLaw G) G l mL_law 23 [(0, (2, 1002000)), (1, (2, x1)), (2, (2, x2)), (3, (2, x3)), (4, (0, x4))] [] s (rk23 s x1 x2 x3 x4)) (s : St) (x1 x2 x3 x4 : Int) : VQ (QLaw G) G l mL_law 373 [(0, (2, 1002000)), (1, (2, x1)), (2, (2, x2)), (3, (2, x3)), (4, (0, x4))] [] s (L_law_b373 G.2.2.2.2.2.2 rk23 s x1 x2 x3 x4) := by
  unfold L_law_b373
  refine V_aload_n dec_L_law_3.1.2.2.2.1 1 rfl ?_
  refine V_aload_n dec_L_law_3.1.2.2.2.2 0 rfl ?_
  refine V_iload dec_L_law_3.2.1.1.1 4 rfl ?_
  refine V_iconst dec_L_law_3.2.1.1.2.1 rfl ?_
  refine V_iadd dec_L_law_3.2.1.1.2.2 ?_
  refine V_sald dec_L_law_3.2.1.2.1 ?_
  refine V_callV0 (ci := 11) (a := x1) (As := [(0, (G.2.2.2.2.2.2.2 (w32 (x4 + 1)).toNat))]) (st := []) rfl rfl (X11_town_s G l s x1 (G.2.2.2.2.2.2.2 (w32 (x4 + 1)).toNat)) cal_X11_town rfl ml_L_24 rfl rfl dec_L_law_3.2.1.2.2.1 (k_tag (tag := 0) rfl fun r12 s13 => ?_)
  refine V_aload_n dec_L_law_3.2.1.2.2.2 2 rfl ?_
  refine V_aload_n dec_L_law_3.2.2.1.1 0 rfl ?_
  refine V_iload dec_L_law_3.2.2.1.2.1 4 rfl ?_
  refine V_iconst dec_L_law_3.2.2.1.2.2 rfl ?_
  refine V_iadd dec_L_law_3.2.2.2.1 ?_
  refine V_sald dec_L_law_3.2.2.2.2.1 ?_
  refine V_callV0 (ci := 13) (a := x2) (As := [(0, (G.2.2.2.2.2.2.2 (w32 (x4 + 1)).toNat))]) (st := [(0, r12)]) rfl rfl (X13_town_s G l s13 x2 (G.2.2.2.2.2.2.2 (w32 (x4 + 1)).toNat)) cal_X13_town rfl ml_L_27 rfl rfl dec_L_law_3.2.2.2.2.2 (k_tag (tag := 0) rfl fun r14 s15 => ?_)
  refine V_icmp_eq (tgt := 2315) dec_L_law_4.1.1.1.1 (by decide) ?_ ?_
  · exact V_pick [0, 1, 2, 3, 4] rfl (L_law_b2315_s G l hl rk23 hk23 s15 x1 x2 x3 x4)
  · refine V_iconst dec_L_law_4.1.1.1.2.1 rfl ?_
    exact V_lawret rfl dec_L_law_4.1.1.1.2.2
def L_law_b398 (sc : Nat × (Nat → Int)) (rk23 : St → Int → Int → Int → Int → Rs) (s : St) (x1 x2 x3 x4 : Int) : Rs :=
  grd (isK s 21 x1) (bnd (X11_fault s x1) (fun r16 s17 => grd (isK s17 23 x2) (bnd (X13_fault s17 x2) (fun r18 s19 => if r16 = r18 then (L_law_b2315 sc rk23 s19 x1 x2 x3 x4) else (grd ((0 : Int) = 1) (some (0, s19)))))))
set_option maxRecDepth 100000 in
set_option maxHeartbeats 4000000 in
theorem L_law_b398_s (G : Gx) (l : Launch) (hl : l.stackTraces = false) (rk23 : St → Int → Int → Int → Int → Rs) (hk23 : ∀ (s : St) (x1 x2 x3 x4 : Int), VQ (QLaw G) G l mL_law 23 [(0, (2, 1002000)), (1, (2, x1)), (2, (2, x2)), (3, (2, x3)), (4, (0, x4))] [] s (rk23 s x1 x2 x3 x4)) (s : St) (x1 x2 x3 x4 : Int) : VQ (QLaw G) G l mL_law 398 [(0, (2, 1002000)), (1, (2, x1)), (2, (2, x2)), (3, (2, x3)), (4, (0, x4))] [] s (L_law_b398 G.2.2.2.2.2.2 rk23 s x1 x2 x3 x4) := by
  unfold L_law_b398
  refine V_aload_n dec_L_law_4.1.1.2.1 1 rfl ?_
  refine V_callV0 (ci := 11) (a := x1) (As := []) (st := []) rfl rfl (X11_fault_s G l s x1) cal_X11_fault rfl ml_L_28 rfl rfl dec_L_law_4.1.1.2.2.1 (k_tag (tag := 0) rfl fun r16 s17 => ?_)
  refine V_aload_n dec_L_law_4.1.1.2.2.2 2 rfl ?_
  refine V_callV0 (ci := 13) (a := x2) (As := []) (st := [(0, r16)]) rfl rfl (X13_fault_s G l s17 x2) cal_X13_fault rfl ml_L_32 rfl rfl dec_L_law_4.1.2.1.1 (k_tag (tag := 0) rfl fun r18 s19 => ?_)
  refine V_icmp_eq (tgt := 2315) dec_L_law_4.1.2.1.2.1 (by decide) ?_ ?_
  · exact V_pick [0, 1, 2, 3, 4] rfl (L_law_b2315_s G l hl rk23 hk23 s19 x1 x2 x3 x4)
  · refine V_iconst dec_L_law_4.1.2.1.2.2 rfl ?_
    exact V_lawret rfl dec_L_law_4.1.2.2.1
def L_law_b411 (sc : Nat × (Nat → Int)) (rk23 : St → Int → Int → Int → Int → Rs) (s : St) (x1 x2 x3 x4 : Int) : Rs :=
  grd (isK s 21 x1) (bnd (X11_where s x1) (fun r20 s21 => grd (isK s21 23 x2) (bnd (X13_where s21 x2) (fun r22 s23 => if r20 = r22 then (L_law_b2315 sc rk23 s23 x1 x2 x3 x4) else (grd ((0 : Int) = 1) (some (0, s23)))))))
set_option maxRecDepth 100000 in
set_option maxHeartbeats 4000000 in
theorem L_law_b411_s (G : Gx) (l : Launch) (hl : l.stackTraces = false) (rk23 : St → Int → Int → Int → Int → Rs) (hk23 : ∀ (s : St) (x1 x2 x3 x4 : Int), VQ (QLaw G) G l mL_law 23 [(0, (2, 1002000)), (1, (2, x1)), (2, (2, x2)), (3, (2, x3)), (4, (0, x4))] [] s (rk23 s x1 x2 x3 x4)) (s : St) (x1 x2 x3 x4 : Int) : VQ (QLaw G) G l mL_law 411 [(0, (2, 1002000)), (1, (2, x1)), (2, (2, x2)), (3, (2, x3)), (4, (0, x4))] [] s (L_law_b411 G.2.2.2.2.2.2 rk23 s x1 x2 x3 x4) := by
  unfold L_law_b411
  refine V_aload_n dec_L_law_4.1.2.2.2.1 1 rfl ?_
  refine V_callV0 (ci := 11) (a := x1) (As := []) (st := []) rfl rfl (X11_where_s G l s x1) cal_X11_where rfl ml_L_33 rfl rfl dec_L_law_4.1.2.2.2.2 (k_tag (tag := 0) rfl fun r20 s21 => ?_)
  refine V_aload_n dec_L_law_4.2.1.1.1 2 rfl ?_
  refine V_callV0 (ci := 13) (a := x2) (As := []) (st := [(0, r20)]) rfl rfl (X13_where_s G l s21 x2) cal_X13_where rfl ml_L_36 rfl rfl dec_L_law_4.2.1.1.2.1 (k_tag (tag := 0) rfl fun r22 s23 => ?_)
  refine V_icmp_eq (tgt := 2315) dec_L_law_4.2.1.1.2.2 (by decide) ?_ ?_
  · exact V_pick [0, 1, 2, 3, 4] rfl (L_law_b2315_s G l hl rk23 hk23 s23 x1 x2 x3 x4)
  · refine V_iconst dec_L_law_4.2.1.2.1 rfl ?_
    exact V_lawret rfl dec_L_law_4.2.1.2.2.1
def L_law_b424 (sc : Nat × (Nat → Int)) (rk23 : St → Int → Int → Int → Int → Rs) (s : St) (x1 x2 x3 x4 : Int) : Rs :=
  grd (0 ≤ (w32 (x4 + 1)) ∧ (w32 (x4 + 1)) < (sc.1 : Int)) (grd (0 ≤ (w32 (x4 + 2)) ∧ (w32 (x4 + 2)) < (sc.1 : Int)) (grd (isK s 21 x1) (bnd (X11_person s x1 (sc.2 (w32 (x4 + 1)).toNat) (sc.2 (w32 (x4 + 2)).toNat)) (fun r24 s25 => grd (0 ≤ (w32 (x4 + 1)) ∧ (w32 (x4 + 1)) < (sc.1 : Int)) (grd (0 ≤ (w32 (x4 + 2)) ∧ (w32 (x4 + 2)) < (sc.1 : Int)) (grd (isK s25 23 x2) (bnd (X13_person s25 x2 (sc.2 (w32 (x4 + 1)).toNat) (sc.2 (w32 (x4 + 2)).toNat)) (fun r26 s27 => if r24 = r26 then (L_law_b2315 sc rk23 s27 x1 x2 x3 x4) else (grd ((0 : Int) = 1) (some (0, s27)))))))))))
set_option maxRecDepth 100000 in
set_option maxHeartbeats 4000000 in
theorem L_law_b424_s (G : Gx) (l : Launch) (hl : l.stackTraces = false) (rk23 : St → Int → Int → Int → Int → Rs) (hk23 : ∀ (s : St) (x1 x2 x3 x4 : Int), VQ (QLaw G) G l mL_law 23 [(0, (2, 1002000)), (1, (2, x1)), (2, (2, x2)), (3, (2, x3)), (4, (0, x4))] [] s (rk23 s x1 x2 x3 x4)) (s : St) (x1 x2 x3 x4 : Int) : VQ (QLaw G) G l mL_law 424 [(0, (2, 1002000)), (1, (2, x1)), (2, (2, x2)), (3, (2, x3)), (4, (0, x4))] [] s (L_law_b424 G.2.2.2.2.2.2 rk23 s x1 x2 x3 x4) := by
  unfold L_law_b424
  refine V_aload_n dec_L_law_4.2.1.2.2.2 1 rfl ?_
  refine V_aload_n dec_L_law_4.2.2.1.1 0 rfl ?_
  refine V_iload dec_L_law_4.2.2.1.2.1 4 rfl ?_
  refine V_iconst dec_L_law_4.2.2.1.2.2 rfl ?_
  refine V_iadd dec_L_law_4.2.2.2.1 ?_
  refine V_sald dec_L_law_4.2.2.2.2.1 ?_
  refine V_aload_n dec_L_law_4.2.2.2.2.2 0 rfl ?_
  refine V_iload dec_L_law_5.1.1.1.1 4 rfl ?_
  refine V_iconst dec_L_law_5.1.1.1.2.1 rfl ?_
  refine V_iadd dec_L_law_5.1.1.1.2.2 ?_
  refine V_sald dec_L_law_5.1.1.2.1 ?_
  refine V_callV0 (ci := 11) (a := x1) (As := [(0, (G.2.2.2.2.2.2.2 (w32 (x4 + 1)).toNat)), (0, (G.2.2.2.2.2.2.2 (w32 (x4 + 2)).toNat))]) (st := []) rfl rfl (X11_person_s G l s x1 (G.2.2.2.2.2.2.2 (w32 (x4 + 1)).toNat) (G.2.2.2.2.2.2.2 (w32 (x4 + 2)).toNat)) cal_X11_person rfl ml_L_37 rfl rfl dec_L_law_5.1.1.2.2.1 (k_tag (tag := 0) rfl fun r24 s25 => ?_)
  refine V_aload_n dec_L_law_5.1.1.2.2.2 2 rfl ?_
  refine V_aload_n dec_L_law_5.1.2.1.1 0 rfl ?_
  refine V_iload dec_L_law_5.1.2.1.2.1 4 rfl ?_
  refine V_iconst dec_L_law_5.1.2.1.2.2 rfl ?_
  refine V_iadd dec_L_law_5.1.2.2.1 ?_
  refine V_sald dec_L_law_5.1.2.2.2.1 ?_
  refine V_aload_n dec_L_law_5.1.2.2.2.2 0 rfl ?_
  refine V_iload dec_L_law_5.2.1.1.1 4 rfl ?_
  refine V_iconst dec_L_law_5.2.1.1.2.1 rfl ?_
  refine V_iadd dec_L_law_5.2.1.1.2.2 ?_
  refine V_sald dec_L_law_5.2.1.2.1 ?_
  refine V_callV0 (ci := 13) (a := x2) (As := [(0, (G.2.2.2.2.2.2.2 (w32 (x4 + 1)).toNat)), (0, (G.2.2.2.2.2.2.2 (w32 (x4 + 2)).toNat))]) (st := [(0, r24)]) rfl rfl (X13_person_s G l s25 x2 (G.2.2.2.2.2.2.2 (w32 (x4 + 1)).toNat) (G.2.2.2.2.2.2.2 (w32 (x4 + 2)).toNat)) cal_X13_person rfl ml_L_41 rfl rfl dec_L_law_5.2.1.2.2.1 (k_tag (tag := 0) rfl fun r26 s27 => ?_)
  refine V_icmp_eq (tgt := 2315) dec_L_law_5.2.1.2.2.2 (by decide) ?_ ?_
  · exact V_pick [0, 1, 2, 3, 4] rfl (L_law_b2315_s G l hl rk23 hk23 s27 x1 x2 x3 x4)
  · refine V_iconst dec_L_law_5.2.2.1.1 rfl ?_
    exact V_lawret rfl dec_L_law_5.2.2.1.2.1
def L_law_b461 (sc : Nat × (Nat → Int)) (rk23 : St → Int → Int → Int → Int → Rs) (s : St) (x1 x2 x3 x4 : Int) : Rs :=
  grd (0 ≤ (w32 (x4 + 1)) ∧ (w32 (x4 + 1)) < (sc.1 : Int)) (grd (0 ≤ (w32 (x4 + 2)) ∧ (w32 (x4 + 2)) < (sc.1 : Int)) (grd (isK s 21 x1) (bnd (X11_dead s x1 (sc.2 (w32 (x4 + 1)).toNat) (sc.2 (w32 (x4 + 2)).toNat)) (fun r28 s29 => grd (0 ≤ (w32 (x4 + 1)) ∧ (w32 (x4 + 1)) < (sc.1 : Int)) (grd (0 ≤ (w32 (x4 + 2)) ∧ (w32 (x4 + 2)) < (sc.1 : Int)) (grd (isK s29 23 x2) (bnd (X13_dead s29 x2 (sc.2 (w32 (x4 + 1)).toNat) (sc.2 (w32 (x4 + 2)).toNat)) (fun r30 s31 => if r28 = r30 then (L_law_b2315 sc rk23 s31 x1 x2 x3 x4) else (grd ((0 : Int) = 1) (some (0, s31)))))))))))
set_option maxRecDepth 100000 in
set_option maxHeartbeats 4000000 in
theorem L_law_b461_s (G : Gx) (l : Launch) (hl : l.stackTraces = false) (rk23 : St → Int → Int → Int → Int → Rs) (hk23 : ∀ (s : St) (x1 x2 x3 x4 : Int), VQ (QLaw G) G l mL_law 23 [(0, (2, 1002000)), (1, (2, x1)), (2, (2, x2)), (3, (2, x3)), (4, (0, x4))] [] s (rk23 s x1 x2 x3 x4)) (s : St) (x1 x2 x3 x4 : Int) : VQ (QLaw G) G l mL_law 461 [(0, (2, 1002000)), (1, (2, x1)), (2, (2, x2)), (3, (2, x3)), (4, (0, x4))] [] s (L_law_b461 G.2.2.2.2.2.2 rk23 s x1 x2 x3 x4) := by
  unfold L_law_b461
  refine V_aload_n dec_L_law_5.2.2.1.2.2 1 rfl ?_
  refine V_aload_n dec_L_law_5.2.2.2.1 0 rfl ?_
  refine V_iload dec_L_law_5.2.2.2.2.1 4 rfl ?_
  refine V_iconst dec_L_law_5.2.2.2.2.2 rfl ?_
  refine V_iadd dec_L_law_6.1.1.1.1 ?_
  refine V_sald dec_L_law_6.1.1.1.2.1 ?_
  refine V_aload_n dec_L_law_6.1.1.1.2.2 0 rfl ?_
  refine V_iload dec_L_law_6.1.1.2.1 4 rfl ?_
  refine V_iconst dec_L_law_6.1.1.2.2.1 rfl ?_
  refine V_iadd dec_L_law_6.1.1.2.2.2 ?_
  refine V_sald dec_L_law_6.1.2.1.1 ?_
  refine V_callV0 (ci := 11) (a := x1) (As := [(0, (G.2.2.2.2.2.2.2 (w32 (x4 + 1)).toNat)), (0, (G.2.2.2.2.2.2.2 (w32 (x4 + 2)).toNat))]) (st := []) rfl rfl (X11_dead_s G l s x1 (G.2.2.2.2.2.2.2 (w32 (x4 + 1)).toNat) (G.2.2.2.2.2.2.2 (w32 (x4 + 2)).toNat)) cal_X11_dead rfl ml_L_42 rfl rfl dec_L_law_6.1.2.1.2.1 (k_tag (tag := 0) rfl fun r28 s29 => ?_)
  refine V_aload_n dec_L_law_6.1.2.1.2.2 2 rfl ?_
  refine V_aload_n dec_L_law_6.1.2.2.1 0 rfl ?_
  refine V_iload dec_L_law_6.1.2.2.2.1 4 rfl ?_
  refine V_iconst dec_L_law_6.1.2.2.2.2 rfl ?_
  refine V_iadd dec_L_law_6.2.1.1.1 ?_
  refine V_sald dec_L_law_6.2.1.1.2.1 ?_
  refine V_aload_n dec_L_law_6.2.1.1.2.2 0 rfl ?_
  refine V_iload dec_L_law_6.2.1.2.1 4 rfl ?_
  refine V_iconst dec_L_law_6.2.1.2.2.1 rfl ?_
  refine V_iadd dec_L_law_6.2.1.2.2.2 ?_
  refine V_sald dec_L_law_6.2.2.1.1 ?_
  refine V_callV0 (ci := 13) (a := x2) (As := [(0, (G.2.2.2.2.2.2.2 (w32 (x4 + 1)).toNat)), (0, (G.2.2.2.2.2.2.2 (w32 (x4 + 2)).toNat))]) (st := [(0, r28)]) rfl rfl (X13_dead_s G l s29 x2 (G.2.2.2.2.2.2.2 (w32 (x4 + 1)).toNat) (G.2.2.2.2.2.2.2 (w32 (x4 + 2)).toNat)) cal_X13_dead rfl ml_L_45 rfl rfl dec_L_law_6.2.2.1.2.1 (k_tag (tag := 0) rfl fun r30 s31 => ?_)
  refine V_icmp_eq (tgt := 2315) dec_L_law_6.2.2.1.2.2 (by decide) ?_ ?_
  · exact V_pick [0, 1, 2, 3, 4] rfl (L_law_b2315_s G l hl rk23 hk23 s31 x1 x2 x3 x4)
  · refine V_iconst dec_L_law_6.2.2.2.1 rfl ?_
    exact V_lawret rfl dec_L_law_6.2.2.2.2.1
def L_law_b498 (sc : Nat × (Nat → Int)) (rk23 : St → Int → Int → Int → Int → Rs) (s : St) (x1 x2 x3 x4 : Int) : Rs :=
  grd (0 ≤ (w32 (x4 + 1)) ∧ (w32 (x4 + 1)) < (sc.1 : Int)) (grd (isK s 21 x1) (bnd (X11_house s x1 (sc.2 (w32 (x4 + 1)).toNat)) (fun r32 s33 => grd (0 ≤ (w32 (x4 + 1)) ∧ (w32 (x4 + 1)) < (sc.1 : Int)) (grd (isK s33 23 x2) (bnd (X13_house s33 x2 (sc.2 (w32 (x4 + 1)).toNat)) (fun r34 s35 => if r32 = r34 then (L_law_b2315 sc rk23 s35 x1 x2 x3 x4) else (grd ((0 : Int) = 1) (some (0, s35)))))))))
set_option maxRecDepth 100000 in
set_option maxHeartbeats 4000000 in
theorem L_law_b498_s (G : Gx) (l : Launch) (hl : l.stackTraces = false) (rk23 : St → Int → Int → Int → Int → Rs) (hk23 : ∀ (s : St) (x1 x2 x3 x4 : Int), VQ (QLaw G) G l mL_law 23 [(0, (2, 1002000)), (1, (2, x1)), (2, (2, x2)), (3, (2, x3)), (4, (0, x4))] [] s (rk23 s x1 x2 x3 x4)) (s : St) (x1 x2 x3 x4 : Int) : VQ (QLaw G) G l mL_law 498 [(0, (2, 1002000)), (1, (2, x1)), (2, (2, x2)), (3, (2, x3)), (4, (0, x4))] [] s (L_law_b498 G.2.2.2.2.2.2 rk23 s x1 x2 x3 x4) := by
  unfold L_law_b498
  refine V_aload_n dec_L_law_6.2.2.2.2.2 1 rfl ?_
  refine V_aload_n dec_L_law_7.1.1.1.1 0 rfl ?_
  refine V_iload dec_L_law_7.1.1.1.2.1 4 rfl ?_
  refine V_iconst dec_L_law_7.1.1.1.2.2 rfl ?_
  refine V_iadd dec_L_law_7.1.1.2.1 ?_
  refine V_sald dec_L_law_7.1.1.2.2.1 ?_
  refine V_callV0 (ci := 11) (a := x1) (As := [(0, (G.2.2.2.2.2.2.2 (w32 (x4 + 1)).toNat))]) (st := []) rfl rfl (X11_house_s G l s x1 (G.2.2.2.2.2.2.2 (w32 (x4 + 1)).toNat)) cal_X11_house rfl ml_L_46 rfl rfl dec_L_law_7.1.1.2.2.2 (k_tag (tag := 0) rfl fun r32 s33 => ?_)
  refine V_aload_n dec_L_law_7.1.2.1.1 2 rfl ?_
  refine V_aload_n dec_L_law_7.1.2.1.2.1 0 rfl ?_
  refine V_iload dec_L_law_7.1.2.1.2.2 4 rfl ?_
  refine V_iconst dec_L_law_7.1.2.2.1 rfl ?_
  refine V_iadd dec_L_law_7.1.2.2.2.1 ?_
  refine V_sald dec_L_law_7.1.2.2.2.2 ?_
  refine V_callV0 (ci := 13) (a := x2) (As := [(0, (G.2.2.2.2.2.2.2 (w32 (x4 + 1)).toNat))]) (st := [(0, r32)]) rfl rfl (X13_house_s G l s33 x2 (G.2.2.2.2.2.2.2 (w32 (x4 + 1)).toNat)) cal_X13_house rfl ml_L_49 rfl rfl dec_L_law_7.2.1.1.1 (k_tag (tag := 0) rfl fun r34 s35 => ?_)
  refine V_icmp_eq (tgt := 2315) dec_L_law_7.2.1.1.2.1 (by decide) ?_ ?_
  · exact V_pick [0, 1, 2, 3, 4] rfl (L_law_b2315_s G l hl rk23 hk23 s35 x1 x2 x3 x4)
  · refine V_iconst dec_L_law_7.2.1.1.2.2 rfl ?_
    exact V_lawret rfl dec_L_law_7.2.1.2.1
def L_law_b523 (sc : Nat × (Nat → Int)) (rk23 : St → Int → Int → Int → Int → Rs) (s : St) (x1 x2 x3 x4 : Int) : Rs :=
  grd (0 ≤ (w32 (x4 + 1)) ∧ (w32 (x4 + 1)) < (sc.1 : Int)) (grd (0 ≤ (w32 (x4 + 2)) ∧ (w32 (x4 + 2)) < (sc.1 : Int)) (grd (isK s 21 x1) (bnd (X11_comesOut s x1 (sc.2 (w32 (x4 + 1)).toNat) (sc.2 (w32 (x4 + 2)).toNat)) (fun r36 s37 => grd (0 ≤ (w32 (x4 + 1)) ∧ (w32 (x4 + 1)) < (sc.1 : Int)) (grd (0 ≤ (w32 (x4 + 2)) ∧ (w32 (x4 + 2)) < (sc.1 : Int)) (grd (isK s37 23 x2) (bnd (X13_comesOut s37 x2 (sc.2 (w32 (x4 + 1)).toNat) (sc.2 (w32 (x4 + 2)).toNat)) (fun r38 s39 => if r36 = r38 then (L_law_b2315 sc rk23 s39 x1 x2 x3 x4) else (grd ((0 : Int) = 1) (some (0, s39)))))))))))
set_option maxRecDepth 100000 in
set_option maxHeartbeats 4000000 in
theorem L_law_b523_s (G : Gx) (l : Launch) (hl : l.stackTraces = false) (rk23 : St → Int → Int → Int → Int → Rs) (hk23 : ∀ (s : St) (x1 x2 x3 x4 : Int), VQ (QLaw G) G l mL_law 23 [(0, (2, 1002000)), (1, (2, x1)), (2, (2, x2)), (3, (2, x3)), (4, (0, x4))] [] s (rk23 s x1 x2 x3 x4)) (s : St) (x1 x2 x3 x4 : Int) : VQ (QLaw G) G l mL_law 523 [(0, (2, 1002000)), (1, (2, x1)), (2, (2, x2)), (3, (2, x3)), (4, (0, x4))] [] s (L_law_b523 G.2.2.2.2.2.2 rk23 s x1 x2 x3 x4) := by
  unfold L_law_b523
  refine V_aload_n dec_L_law_7.2.1.2.2.1 1 rfl ?_
  refine V_aload_n dec_L_law_7.2.1.2.2.2 0 rfl ?_
  refine V_iload dec_L_law_7.2.2.1.1 4 rfl ?_
  refine V_iconst dec_L_law_7.2.2.1.2.1 rfl ?_
  refine V_iadd dec_L_law_7.2.2.1.2.2 ?_
  refine V_sald dec_L_law_7.2.2.2.1 ?_
  refine V_aload_n dec_L_law_7.2.2.2.2.1 0 rfl ?_
  refine V_iload dec_L_law_7.2.2.2.2.2 4 rfl ?_
  refine V_iconst dec_L_law_8.1.1.1.1 rfl ?_
  refine V_iadd dec_L_law_8.1.1.1.2.1 ?_
  refine V_sald dec_L_law_8.1.1.1.2.2 ?_
  refine V_callV0 (ci := 11) (a := x1) (As := [(0, (G.2.2.2.2.2.2.2 (w32 (x4 + 1)).toNat)), (0, (G.2.2.2.2.2.2.2 (w32 (x4 + 2)).toNat))]) (st := []) rfl rfl (X11_comesOut_s G l s x1 (G.2.2.2.2.2.2.2 (w32 (x4 + 1)).toNat) (G.2.2.2.2.2.2.2 (w32 (x4 + 2)).toNat)) cal_X11_comesOut rfl ml_L_50 rfl rfl dec_L_law_8.1.1.2.1 (k_tag (tag := 0) rfl fun r36 s37 => ?_)
  refine V_aload_n dec_L_law_8.1.1.2.2.1 2 rfl ?_
  refine V_aload_n dec_L_law_8.1.1.2.2.2 0 rfl ?_
  refine V_iload dec_L_law_8.1.2.1.1 4 rfl ?_
  refine V_iconst dec_L_law_8.1.2.1.2.1 rfl ?_
  refine V_iadd dec_L_law_8.1.2.1.2.2 ?_
  refine V_sald dec_L_law_8.1.2.2.1 ?_
  refine V_aload_n dec_L_law_8.1.2.2.2.1 0 rfl ?_
  refine V_iload dec_L_law_8.1.2.2.2.2 4 rfl ?_
  refine V_iconst dec_L_law_8.2.1.1.1 rfl ?_
  refine V_iadd dec_L_law_8.2.1.1.2.1 ?_
  refine V_sald dec_L_law_8.2.1.1.2.2 ?_
  refine V_callV0 (ci := 13) (a := x2) (As := [(0, (G.2.2.2.2.2.2.2 (w32 (x4 + 1)).toNat)), (0, (G.2.2.2.2.2.2.2 (w32 (x4 + 2)).toNat))]) (st := [(0, r36)]) rfl rfl (X13_comesOut_s G l s37 x2 (G.2.2.2.2.2.2.2 (w32 (x4 + 1)).toNat) (G.2.2.2.2.2.2.2 (w32 (x4 + 2)).toNat)) cal_X13_comesOut rfl ml_L_53 rfl rfl dec_L_law_8.2.1.2.1 (k_tag (tag := 0) rfl fun r38 s39 => ?_)
  refine V_icmp_eq (tgt := 2315) dec_L_law_8.2.1.2.2.1 (by decide) ?_ ?_
  · exact V_pick [0, 1, 2, 3, 4] rfl (L_law_b2315_s G l hl rk23 hk23 s39 x1 x2 x3 x4)
  · refine V_iconst dec_L_law_8.2.1.2.2.2 rfl ?_
    exact V_lawret rfl dec_L_law_8.2.2.1.1
def L_law_b560 (sc : Nat × (Nat → Int)) (rk23 : St → Int → Int → Int → Int → Rs) (s : St) (x1 x2 x3 x4 : Int) : Rs :=
  grd (0 ≤ (w32 (x4 + 1)) ∧ (w32 (x4 + 1)) < (sc.1 : Int)) (grd (0 ≤ (w32 (x4 + 2)) ∧ (w32 (x4 + 2)) < (sc.1 : Int)) (grd (0 ≤ (w32 (x4 + 3)) ∧ (w32 (x4 + 3)) < (sc.1 : Int)) (grd (isK s 21 x1) (bnd (X11_outIf s x1 (sc.2 (w32 (x4 + 1)).toNat) (sc.2 (w32 (x4 + 2)).toNat) (sc.2 (w32 (x4 + 3)).toNat)) (fun r40 s41 => grd (0 ≤ (w32 (x4 + 1)) ∧ (w32 (x4 + 1)) < (sc.1 : Int)) (grd (0 ≤ (w32 (x4 + 2)) ∧ (w32 (x4 + 2)) < (sc.1 : Int)) (grd (0 ≤ (w32 (x4 + 3)) ∧ (w32 (x4 + 3)) < (sc.1 : Int)) (grd (isK s41 23 x2) (bnd (X13_outIf s41 x2 (sc.2 (w32 (x4 + 1)).toNat) (sc.2 (w32 (x4 + 2)).toNat) (sc.2 (w32 (x4 + 3)).toNat)) (fun r42 s43 => if r40 = r42 then (L_law_b2315 sc rk23 s43 x1 x2 x3 x4) else (grd ((0 : Int) = 1) (some (0, s43)))))))))))))
set_option maxRecDepth 100000 in
set_option maxHeartbeats 4000000 in
theorem L_law_b560_s (G : Gx) (l : Launch) (hl : l.stackTraces = false) (rk23 : St → Int → Int → Int → Int → Rs) (hk23 : ∀ (s : St) (x1 x2 x3 x4 : Int), VQ (QLaw G) G l mL_law 23 [(0, (2, 1002000)), (1, (2, x1)), (2, (2, x2)), (3, (2, x3)), (4, (0, x4))] [] s (rk23 s x1 x2 x3 x4)) (s : St) (x1 x2 x3 x4 : Int) : VQ (QLaw G) G l mL_law 560 [(0, (2, 1002000)), (1, (2, x1)), (2, (2, x2)), (3, (2, x3)), (4, (0, x4))] [] s (L_law_b560 G.2.2.2.2.2.2 rk23 s x1 x2 x3 x4) := by
  unfold L_law_b560
  refine V_aload_n dec_L_law_8.2.2.1.2.1 1 rfl ?_
  refine V_aload_n dec_L_law_8.2.2.1.2.2 0 rfl ?_
  refine V_iload dec_L_law_8.2.2.2.1 4 rfl ?_
  refine V_iconst dec_L_law_8.2.2.2.2.1 rfl ?_
  refine V_iadd dec_L_law_8.2.2.2.2.2 ?_
  refine V_sald dec_L_law_9.1.1.1.1 ?_
  refine V_aload_n dec_L_law_9.1.1.1.2.1 0 rfl ?_
  refine V_iload dec_L_law_9.1.1.1.2.2 4 rfl ?_
  refine V_iconst dec_L_law_9.1.1.2.1 rfl ?_
  refine V_iadd dec_L_law_9.1.1.2.2.1 ?_
  refine V_sald dec_L_law_9.1.1.2.2.2 ?_
  refine V_aload_n dec_L_law_9.1.2.1.1 0 rfl ?_
  refine V_iload dec_L_law_9.1.2.1.2.1 4 rfl ?_
  refine V_iconst dec_L_law_9.1.2.1.2.2 rfl ?_
  refine V_iadd dec_L_law_9.1.2.2.1 ?_
  refine V_sald dec_L_law_9.1.2.2.2.1 ?_
  refine V_callV0 (ci := 11) (a := x1) (As := [(0, (G.2.2.2.2.2.2.2 (w32 (x4 + 1)).toNat)), (0, (G.2.2.2.2.2.2.2 (w32 (x4 + 2)).toNat)), (0, (G.2.2.2.2.2.2.2 (w32 (x4 + 3)).toNat))]) (st := []) rfl rfl (X11_outIf_s G l s x1 (G.2.2.2.2.2.2.2 (w32 (x4 + 1)).toNat) (G.2.2.2.2.2.2.2 (w32 (x4 + 2)).toNat) (G.2.2.2.2.2.2.2 (w32 (x4 + 3)).toNat)) cal_X11_outIf rfl ml_L_54 rfl rfl dec_L_law_9.1.2.2.2.2 (k_tag (tag := 0) rfl fun r40 s41 => ?_)
  refine V_aload_n dec_L_law_9.2.1.1.1 2 rfl ?_
  refine V_aload_n dec_L_law_9.2.1.1.2.1 0 rfl ?_
  refine V_iload dec_L_law_9.2.1.1.2.2 4 rfl ?_
  refine V_iconst dec_L_law_9.2.1.2.1 rfl ?_
  refine V_iadd dec_L_law_9.2.1.2.2.1 ?_
  refine V_sald dec_L_law_9.2.1.2.2.2 ?_
  refine V_aload_n dec_L_law_9.2.2.1.1 0 rfl ?_
  refine V_iload dec_L_law_9.2.2.1.2.1 4 rfl ?_
  refine V_iconst dec_L_law_9.2.2.1.2.2 rfl ?_
  refine V_iadd dec_L_law_9.2.2.2.1 ?_
  refine V_sald dec_L_law_9.2.2.2.2.1 ?_
  refine V_aload_n dec_L_law_9.2.2.2.2.2 0 rfl ?_
  refine V_iload dec_L_law_10.1.1.1.1 4 rfl ?_
  refine V_iconst dec_L_law_10.1.1.1.2.1 rfl ?_
  refine V_iadd dec_L_law_10.1.1.1.2.2 ?_
  refine V_sald dec_L_law_10.1.1.2.1 ?_
  refine V_callV0 (ci := 13) (a := x2) (As := [(0, (G.2.2.2.2.2.2.2 (w32 (x4 + 1)).toNat)), (0, (G.2.2.2.2.2.2.2 (w32 (x4 + 2)).toNat)), (0, (G.2.2.2.2.2.2.2 (w32 (x4 + 3)).toNat))]) (st := [(0, r40)]) rfl rfl (X13_outIf_s G l s41 x2 (G.2.2.2.2.2.2.2 (w32 (x4 + 1)).toNat) (G.2.2.2.2.2.2.2 (w32 (x4 + 2)).toNat) (G.2.2.2.2.2.2.2 (w32 (x4 + 3)).toNat)) cal_X13_outIf rfl ml_L_58 rfl rfl dec_L_law_10.1.1.2.2.1 (k_tag (tag := 0) rfl fun r42 s43 => ?_)
  refine V_icmp_eq (tgt := 2315) dec_L_law_10.1.1.2.2.2 (by decide) ?_ ?_
  · exact V_pick [0, 1, 2, 3, 4] rfl (L_law_b2315_s G l hl rk23 hk23 s43 x1 x2 x3 x4)
  · refine V_iconst dec_L_law_10.1.2.1.1 rfl ?_
    exact V_lawret rfl dec_L_law_10.1.2.1.2.1
def L_law_b609 (sc : Nat × (Nat → Int)) (rk23 : St → Int → Int → Int → Int → Rs) (s : St) (x1 x2 x3 x4 : Int) : Rs :=
  grd (0 ≤ (w32 (x4 + 1)) ∧ (w32 (x4 + 1)) < (sc.1 : Int)) (grd (0 ≤ (w32 (x4 + 2)) ∧ (w32 (x4 + 2)) < (sc.1 : Int)) (grd (isK s 21 x1) (bnd (X11_hears s x1 (sc.2 (w32 (x4 + 1)).toNat) (sc.2 (w32 (x4 + 2)).toNat)) (fun r44 s45 => grd (0 ≤ (w32 (x4 + 1)) ∧ (w32 (x4 + 1)) < (sc.1 : Int)) (grd (0 ≤ (w32 (x4 + 2)) ∧ (w32 (x4 + 2)) < (sc.1 : Int)) (grd (isK s45 23 x2) (bnd (X13_hears s45 x2 (sc.2 (w32 (x4 + 1)).toNat) (sc.2 (w32 (x4 + 2)).toNat)) (fun r46 s47 => if r44 = r46 then (L_law_b2315 sc rk23 s47 x1 x2 x3 x4) else (grd ((0 : Int) = 1) (some (0, s47)))))))))))
set_option maxRecDepth 100000 in
set_option maxHeartbeats 4000000 in
theorem L_law_b609_s (G : Gx) (l : Launch) (hl : l.stackTraces = false) (rk23 : St → Int → Int → Int → Int → Rs) (hk23 : ∀ (s : St) (x1 x2 x3 x4 : Int), VQ (QLaw G) G l mL_law 23 [(0, (2, 1002000)), (1, (2, x1)), (2, (2, x2)), (3, (2, x3)), (4, (0, x4))] [] s (rk23 s x1 x2 x3 x4)) (s : St) (x1 x2 x3 x4 : Int) : VQ (QLaw G) G l mL_law 609 [(0, (2, 1002000)), (1, (2, x1)), (2, (2, x2)), (3, (2, x3)), (4, (0, x4))] [] s (L_law_b609 G.2.2.2.2.2.2 rk23 s x1 x2 x3 x4) := by
  unfold L_law_b609
  refine V_aload_n dec_L_law_10.1.2.1.2.2 1 rfl ?_
  refine V_aload_n dec_L_law_10.1.2.2.1 0 rfl ?_
  refine V_iload dec_L_law_10.1.2.2.2.1 4 rfl ?_
  refine V_iconst dec_L_law_10.1.2.2.2.2 rfl ?_
  refine V_iadd dec_L_law_10.2.1.1.1 ?_
  refine V_sald dec_L_law_10.2.1.1.2.1 ?_
  refine V_aload_n dec_L_law_10.2.1.1.2.2 0 rfl ?_
  refine V_iload dec_L_law_10.2.1.2.1 4 rfl ?_
  refine V_iconst dec_L_law_10.2.1.2.2.1 rfl ?_
  refine V_iadd dec_L_law_10.2.1.2.2.2 ?_
  refine V_sald dec_L_law_10.2.2.1.1 ?_
  refine V_callV0 (ci := 11) (a := x1) (As := [(0, (G.2.2.2.2.2.2.2 (w32 (x4 + 1)).toNat)), (0, (G.2.2.2.2.2.2.2 (w32 (x4 + 2)).toNat))]) (st := []) rfl rfl (X11_hears_s G l s x1 (G.2.2.2.2.2.2.2 (w32 (x4 + 1)).toNat) (G.2.2.2.2.2.2.2 (w32 (x4 + 2)).toNat)) cal_X11_hears rfl ml_L_59 rfl rfl dec_L_law_10.2.2.1.2.1 (k_tag (tag := 0) rfl fun r44 s45 => ?_)
  refine V_aload_n dec_L_law_10.2.2.1.2.2 2 rfl ?_
  refine V_aload_n dec_L_law_10.2.2.2.1 0 rfl ?_
  refine V_iload dec_L_law_10.2.2.2.2.1 4 rfl ?_
  refine V_iconst dec_L_law_10.2.2.2.2.2 rfl ?_
  refine V_iadd dec_L_law_11.1.1.1.1 ?_
  refine V_sald dec_L_law_11.1.1.1.2.1 ?_
  refine V_aload_n dec_L_law_11.1.1.1.2.2 0 rfl ?_
  refine V_iload dec_L_law_11.1.1.2.1 4 rfl ?_
  refine V_iconst dec_L_law_11.1.1.2.2.1 rfl ?_
  refine V_iadd dec_L_law_11.1.1.2.2.2 ?_
  refine V_sald dec_L_law_11.1.2.1.1 ?_
  refine V_callV0 (ci := 13) (a := x2) (As := [(0, (G.2.2.2.2.2.2.2 (w32 (x4 + 1)).toNat)), (0, (G.2.2.2.2.2.2.2 (w32 (x4 + 2)).toNat))]) (st := [(0, r44)]) rfl rfl (X13_hears_s G l s45 x2 (G.2.2.2.2.2.2.2 (w32 (x4 + 1)).toNat) (G.2.2.2.2.2.2.2 (w32 (x4 + 2)).toNat)) cal_X13_hears rfl ml_L_62 rfl rfl dec_L_law_11.1.2.1.2.1 (k_tag (tag := 0) rfl fun r46 s47 => ?_)
  refine V_icmp_eq (tgt := 2315) dec_L_law_11.1.2.1.2.2 (by decide) ?_ ?_
  · exact V_pick [0, 1, 2, 3, 4] rfl (L_law_b2315_s G l hl rk23 hk23 s47 x1 x2 x3 x4)
  · refine V_iconst dec_L_law_11.1.2.2.1 rfl ?_
    exact V_lawret rfl dec_L_law_11.1.2.2.2.1
def L_law_b646 (sc : Nat × (Nat → Int)) (rk23 : St → Int → Int → Int → Int → Rs) (s : St) (x1 x2 x3 x4 : Int) : Rs :=
  grd (0 ≤ (w32 (x4 + 1)) ∧ (w32 (x4 + 1)) < (sc.1 : Int)) (grd (0 ≤ (w32 (x4 + 2)) ∧ (w32 (x4 + 2)) < (sc.1 : Int)) (grd (isK s 21 x1) (bnd (X11_off s x1 (sc.2 (w32 (x4 + 1)).toNat) (sc.2 (w32 (x4 + 2)).toNat)) (fun r48 s49 => grd (0 ≤ (w32 (x4 + 1)) ∧ (w32 (x4 + 1)) < (sc.1 : Int)) (grd (0 ≤ (w32 (x4 + 2)) ∧ (w32 (x4 + 2)) < (sc.1 : Int)) (grd (isK s49 23 x2) (bnd (X13_off s49 x2 (sc.2 (w32 (x4 + 1)).toNat) (sc.2 (w32 (x4 + 2)).toNat)) (fun r50 s51 => if r48 = r50 then (L_law_b2315 sc rk23 s51 x1 x2 x3 x4) else (grd ((0 : Int) = 1) (some (0, s51)))))))))))
set_option maxRecDepth 100000 in
set_option maxHeartbeats 4000000 in
theorem L_law_b646_s (G : Gx) (l : Launch) (hl : l.stackTraces = false) (rk23 : St → Int → Int → Int → Int → Rs) (hk23 : ∀ (s : St) (x1 x2 x3 x4 : Int), VQ (QLaw G) G l mL_law 23 [(0, (2, 1002000)), (1, (2, x1)), (2, (2, x2)), (3, (2, x3)), (4, (0, x4))] [] s (rk23 s x1 x2 x3 x4)) (s : St) (x1 x2 x3 x4 : Int) : VQ (QLaw G) G l mL_law 646 [(0, (2, 1002000)), (1, (2, x1)), (2, (2, x2)), (3, (2, x3)), (4, (0, x4))] [] s (L_law_b646 G.2.2.2.2.2.2 rk23 s x1 x2 x3 x4) := by
  unfold L_law_b646
  refine V_aload_n dec_L_law_11.1.2.2.2.2 1 rfl ?_
  refine V_aload_n dec_L_law_11.2.1.1.1 0 rfl ?_
  refine V_iload dec_L_law_11.2.1.1.2.1 4 rfl ?_
  refine V_iconst dec_L_law_11.2.1.1.2.2 rfl ?_
  refine V_iadd dec_L_law_11.2.1.2.1 ?_
  refine V_sald dec_L_law_11.2.1.2.2.1 ?_
  refine V_aload_n dec_L_law_11.2.1.2.2.2 0 rfl ?_
  refine V_iload dec_L_law_11.2.2.1.1 4 rfl ?_
  refine V_iconst dec_L_law_11.2.2.1.2.1 rfl ?_
  refine V_iadd dec_L_law_11.2.2.1.2.2 ?_
  refine V_sald dec_L_law_11.2.2.2.1 ?_
  refine V_callV0 (ci := 11) (a := x1) (As := [(0, (G.2.2.2.2.2.2.2 (w32 (x4 + 1)).toNat)), (0, (G.2.2.2.2.2.2.2 (w32 (x4 + 2)).toNat))]) (st := []) rfl rfl (X11_off_s G l s x1 (G.2.2.2.2.2.2.2 (w32 (x4 + 1)).toNat) (G.2.2.2.2.2.2.2 (w32 (x4 + 2)).toNat)) cal_X11_off rfl ml_L_63 rfl rfl dec_L_law_11.2.2.2.2.1 (k_tag (tag := 0) rfl fun r48 s49 => ?_)
  refine V_aload_n dec_L_law_11.2.2.2.2.2 2 rfl ?_
  refine V_aload_n dec_L_law_12.1.1.1.1 0 rfl ?_
  refine V_iload dec_L_law_12.1.1.1.2.1 4 rfl ?_
  refine V_iconst dec_L_law_12.1.1.1.2.2 rfl ?_
  refine V_iadd dec_L_law_12.1.1.2.1 ?_
  refine V_sald dec_L_law_12.1.1.2.2.1 ?_
  refine V_aload_n dec_L_law_12.1.1.2.2.2 0 rfl ?_
  refine V_iload dec_L_law_12.1.2.1.1 4 rfl ?_
  refine V_iconst dec_L_law_12.1.2.1.2.1 rfl ?_
  refine V_iadd dec_L_law_12.1.2.1.2.2 ?_
  refine V_sald dec_L_law_12.1.2.2.1 ?_
  refine V_callV0 (ci := 13) (a := x2) (As := [(0, (G.2.2.2.2.2.2.2 (w32 (x4 + 1)).toNat)), (0, (G.2.2.2.2.2.2.2 (w32 (x4 + 2)).toNat))]) (st := [(0, r48)]) rfl rfl (X13_off_s G l s49 x2 (G.2.2.2.2.2.2.2 (w32 (x4 + 1)).toNat) (G.2.2.2.2.2.2.2 (w32 (x4 + 2)).toNat)) cal_X13_off rfl ml_L_66 rfl rfl dec_L_law_12.1.2.2.2.1 (k_tag (tag := 0) rfl fun r50 s51 => ?_)
  refine V_icmp_eq (tgt := 2315) dec_L_law_12.1.2.2.2.2 (by decide) ?_ ?_
  · exact V_pick [0, 1, 2, 3, 4] rfl (L_law_b2315_s G l hl rk23 hk23 s51 x1 x2 x3 x4)
  · refine V_iconst dec_L_law_12.2.1.1.1 rfl ?_
    exact V_lawret rfl dec_L_law_12.2.1.1.2.1
def L_law_b683 (sc : Nat × (Nat → Int)) (rk23 : St → Int → Int → Int → Int → Rs) (s : St) (x1 x2 x3 x4 : Int) : Rs :=
  grd (0 ≤ (w32 (x4 + 1)) ∧ (w32 (x4 + 1)) < (sc.1 : Int)) (grd (isK s 21 x1) (bnd (X11_right s x1 (sc.2 (w32 (x4 + 1)).toNat)) (fun r52 s53 => grd (0 ≤ (w32 (x4 + 1)) ∧ (w32 (x4 + 1)) < (sc.1 : Int)) (grd (isK s53 23 x2) (bnd (X13_right s53 x2 (sc.2 (w32 (x4 + 1)).toNat)) (fun r54 s55 => if r52 = r54 then (L_law_b2315 sc rk23 s55 x1 x2 x3 x4) else (grd ((0 : Int) = 1) (some (0, s55)))))))))
set_option maxRecDepth 100000 in
set_option maxHeartbeats 4000000 in
theorem L_law_b683_s (G : Gx) (l : Launch) (hl : l.stackTraces = false) (rk23 : St → Int → Int → Int → Int → Rs) (hk23 : ∀ (s : St) (x1 x2 x3 x4 : Int), VQ (QLaw G) G l mL_law 23 [(0, (2, 1002000)), (1, (2, x1)), (2, (2, x2)), (3, (2, x3)), (4, (0, x4))] [] s (rk23 s x1 x2 x3 x4)) (s : St) (x1 x2 x3 x4 : Int) : VQ (QLaw G) G l mL_law 683 [(0, (2, 1002000)), (1, (2, x1)), (2, (2, x2)), (3, (2, x3)), (4, (0, x4))] [] s (L_law_b683 G.2.2.2.2.2.2 rk23 s x1 x2 x3 x4) := by
  unfold L_law_b683
  refine V_aload_n dec_L_law_12.2.1.1.2.2 1 rfl ?_
  refine V_aload_n dec_L_law_12.2.1.2.1 0 rfl ?_
  refine V_iload dec_L_law_12.2.1.2.2.1 4 rfl ?_
  refine V_iconst dec_L_law_12.2.1.2.2.2 rfl ?_
  refine V_iadd dec_L_law_12.2.2.1.1 ?_
  refine V_sald dec_L_law_12.2.2.1.2.1 ?_
  refine V_callV0 (ci := 11) (a := x1) (As := [(0, (G.2.2.2.2.2.2.2 (w32 (x4 + 1)).toNat))]) (st := []) rfl rfl (X11_right_s G l s x1 (G.2.2.2.2.2.2.2 (w32 (x4 + 1)).toNat)) cal_X11_right rfl ml_L_67 rfl rfl dec_L_law_12.2.2.1.2.2 (k_tag (tag := 0) rfl fun r52 s53 => ?_)
  refine V_aload_n dec_L_law_12.2.2.2.1 2 rfl ?_
  refine V_aload_n dec_L_law_12.2.2.2.2.1 0 rfl ?_
  refine V_iload dec_L_law_12.2.2.2.2.2 4 rfl ?_
  refine V_iconst dec_L_law_13.1.1.1.1 rfl ?_
  refine V_iadd dec_L_law_13.1.1.1.2.1 ?_
  refine V_sald dec_L_law_13.1.1.1.2.2 ?_
  refine V_callV0 (ci := 13) (a := x2) (As := [(0, (G.2.2.2.2.2.2.2 (w32 (x4 + 1)).toNat))]) (st := [(0, r52)]) rfl rfl (X13_right_s G l s53 x2 (G.2.2.2.2.2.2.2 (w32 (x4 + 1)).toNat)) cal_X13_right rfl ml_L_70 rfl rfl dec_L_law_13.1.1.2.1 (k_tag (tag := 0) rfl fun r54 s55 => ?_)
  refine V_icmp_eq (tgt := 2315) dec_L_law_13.1.1.2.2.1 (by decide) ?_ ?_
  · exact V_pick [0, 1, 2, 3, 4] rfl (L_law_b2315_s G l hl rk23 hk23 s55 x1 x2 x3 x4)
  · refine V_iconst dec_L_law_13.1.1.2.2.2 rfl ?_
    exact V_lawret rfl dec_L_law_13.1.2.1.1
def L_law_b708 (sc : Nat × (Nat → Int)) (rk23 : St → Int → Int → Int → Int → Rs) (s : St) (x1 x2 x3 x4 : Int) : Rs :=
  grd (0 ≤ (w32 (x4 + 1)) ∧ (w32 (x4 + 1)) < (sc.1 : Int)) (grd (isK s 21 x1) (bnd (X11_medium s x1 (sc.2 (w32 (x4 + 1)).toNat)) (fun r56 s57 => grd (0 ≤ (w32 (x4 + 1)) ∧ (w32 (x4 + 1)) < (sc.1 : Int)) (grd (isK s57 23 x2) (bnd (X13_medium s57 x2 (sc.2 (w32 (x4 + 1)).toNat)) (fun r58 s59 => if r56 = r58 then (L_law_b2315 sc rk23 s59 x1 x2 x3 x4) else (grd ((0 : Int) = 1) (some (0, s59)))))))))
set_option maxRecDepth 100000 in
set_option maxHeartbeats 4000000 in
theorem L_law_b708_s (G : Gx) (l : Launch) (hl : l.stackTraces = false) (rk23 : St → Int → Int → Int → Int → Rs) (hk23 : ∀ (s : St) (x1 x2 x3 x4 : Int), VQ (QLaw G) G l mL_law 23 [(0, (2, 1002000)), (1, (2, x1)), (2, (2, x2)), (3, (2, x3)), (4, (0, x4))] [] s (rk23 s x1 x2 x3 x4)) (s : St) (x1 x2 x3 x4 : Int) : VQ (QLaw G) G l mL_law 708 [(0, (2, 1002000)), (1, (2, x1)), (2, (2, x2)), (3, (2, x3)), (4, (0, x4))] [] s (L_law_b708 G.2.2.2.2.2.2 rk23 s x1 x2 x3 x4) := by
  unfold L_law_b708
  refine V_aload_n dec_L_law_13.1.2.1.2.1 1 rfl ?_
  refine V_aload_n dec_L_law_13.1.2.1.2.2 0 rfl ?_
  refine V_iload dec_L_law_13.1.2.2.1 4 rfl ?_
  refine V_iconst dec_L_law_13.1.2.2.2.1 rfl ?_
  refine V_iadd dec_L_law_13.1.2.2.2.2 ?_
  refine V_sald dec_L_law_13.2.1.1.1 ?_
  refine V_callV0 (ci := 11) (a := x1) (As := [(0, (G.2.2.2.2.2.2.2 (w32 (x4 + 1)).toNat))]) (st := []) rfl rfl (X11_medium_s G l s x1 (G.2.2.2.2.2.2.2 (w32 (x4 + 1)).toNat)) cal_X11_medium rfl ml_L_71 rfl rfl dec_L_law_13.2.1.1.2.1 (k_tag (tag := 0) rfl fun r56 s57 => ?_)
  refine V_aload_n dec_L_law_13.2.1.1.2.2 2 rfl ?_
  refine V_aload_n dec_L_law_13.2.1.2.1 0 rfl ?_
  refine V_iload dec_L_law_13.2.1.2.2.1 4 rfl ?_
  refine V_iconst dec_L_law_13.2.1.2.2.2 rfl ?_
  refine V_iadd dec_L_law_13.2.2.1.1 ?_
  refine V_sald dec_L_law_13.2.2.1.2.1 ?_
  refine V_callV0 (ci := 13) (a := x2) (As := [(0, (G.2.2.2.2.2.2.2 (w32 (x4 + 1)).toNat))]) (st := [(0, r56)]) rfl rfl (X13_medium_s G l s57 x2 (G.2.2.2.2.2.2.2 (w32 (x4 + 1)).toNat)) cal_X13_medium rfl ml_L_74 rfl rfl dec_L_law_13.2.2.1.2.2 (k_tag (tag := 0) rfl fun r58 s59 => ?_)
  refine V_icmp_eq (tgt := 2315) dec_L_law_13.2.2.2.1 (by decide) ?_ ?_
  · exact V_pick [0, 1, 2, 3, 4] rfl (L_law_b2315_s G l hl rk23 hk23 s59 x1 x2 x3 x4)
  · refine V_iconst dec_L_law_13.2.2.2.2.1 rfl ?_
    exact V_lawret rfl dec_L_law_13.2.2.2.2.2
def L_law_b733 (sc : Nat × (Nat → Int)) (rk23 : St → Int → Int → Int → Int → Rs) (s : St) (x1 x2 x3 x4 : Int) : Rs :=
  grd (0 ≤ (w32 (x4 + 1)) ∧ (w32 (x4 + 1)) < (sc.1 : Int)) (grd (isK s 21 x1) (bnd (X11_silent s x1 (sc.2 (w32 (x4 + 1)).toNat)) (fun r60 s61 => grd (0 ≤ (w32 (x4 + 1)) ∧ (w32 (x4 + 1)) < (sc.1 : Int)) (grd (isK s61 23 x2) (bnd (X13_silent s61 x2 (sc.2 (w32 (x4 + 1)).toNat)) (fun r62 s63 => if r60 = r62 then (L_law_b2315 sc rk23 s63 x1 x2 x3 x4) else (grd ((0 : Int) = 1) (some (0, s63)))))))))
set_option maxRecDepth 100000 in
set_option maxHeartbeats 4000000 in
theorem L_law_b733_s (G : Gx) (l : Launch) (hl : l.stackTraces = false) (rk23 : St → Int → Int → Int → Int → Rs) (hk23 : ∀ (s : St) (x1 x2 x3 x4 : Int), VQ (QLaw G) G l mL_law 23 [(0, (2, 1002000)), (1, (2, x1)), (2, (2, x2)), (3, (2, x3)), (4, (0, x4))] [] s (rk23 s x1 x2 x3 x4)) (s : St) (x1 x2 x3 x4 : Int) : VQ (QLaw G) G l mL_law 733 [(0, (2, 1002000)), (1, (2, x1)), (2, (2, x2)), (3, (2, x3)), (4, (0, x4))] [] s (L_law_b733 G.2.2.2.2.2.2 rk23 s x1 x2 x3 x4) := by
  unfold L_law_b733
  refine V_aload_n dec_L_law_14.1.1.1.1 1 rfl ?_
  refine V_aload_n dec_L_law_14.1.1.1.2.1 0 rfl ?_
  refine V_iload dec_L_law_14.1.1.1.2.2 4 rfl ?_
  refine V_iconst dec_L_law_14.1.1.2.1 rfl ?_
  refine V_iadd dec_L_law_14.1.1.2.2.1 ?_
  refine V_sald dec_L_law_14.1.1.2.2.2 ?_
  refine V_callV0 (ci := 11) (a := x1) (As := [(0, (G.2.2.2.2.2.2.2 (w32 (x4 + 1)).toNat))]) (st := []) rfl rfl (X11_silent_s G l s x1 (G.2.2.2.2.2.2.2 (w32 (x4 + 1)).toNat)) cal_X11_silent rfl ml_L_75 rfl rfl dec_L_law_14.1.2.1.1 (k_tag (tag := 0) rfl fun r60 s61 => ?_)
  refine V_aload_n dec_L_law_14.1.2.1.2.1 2 rfl ?_
  refine V_aload_n dec_L_law_14.1.2.1.2.2 0 rfl ?_
  refine V_iload dec_L_law_14.1.2.2.1 4 rfl ?_
  refine V_iconst dec_L_law_14.1.2.2.2.1 rfl ?_
  refine V_iadd dec_L_law_14.1.2.2.2.2 ?_
  refine V_sald dec_L_law_14.2.1.1.1 ?_
  refine V_callV0 (ci := 13) (a := x2) (As := [(0, (G.2.2.2.2.2.2.2 (w32 (x4 + 1)).toNat))]) (st := [(0, r60)]) rfl rfl (X13_silent_s G l s61 x2 (G.2.2.2.2.2.2.2 (w32 (x4 + 1)).toNat)) cal_X13_silent rfl ml_L_78 rfl rfl dec_L_law_14.2.1.1.2.1 (k_tag (tag := 0) rfl fun r62 s63 => ?_)
  refine V_icmp_eq (tgt := 2315) dec_L_law_14.2.1.1.2.2 (by decide) ?_ ?_
  · exact V_pick [0, 1, 2, 3, 4] rfl (L_law_b2315_s G l hl rk23 hk23 s63 x1 x2 x3 x4)
  · refine V_iconst dec_L_law_14.2.1.2.1 rfl ?_
    exact V_lawret rfl dec_L_law_14.2.1.2.2.1
def L_law_b758 (sc : Nat × (Nat → Int)) (rk23 : St → Int → Int → Int → Int → Rs) (s : St) (x1 x2 x3 x4 : Int) : Rs :=
  grd (0 ≤ (w32 (x4 + 1)) ∧ (w32 (x4 + 1)) < (sc.1 : Int)) (grd (0 ≤ (w32 (x4 + 2)) ∧ (w32 (x4 + 2)) < (sc.1 : Int)) (grd (isK s 21 x1) (bnd (X11_rightFrom s x1 (sc.2 (w32 (x4 + 1)).toNat) (sc.2 (w32 (x4 + 2)).toNat)) (fun r64 s65 => grd (0 ≤ (w32 (x4 + 1)) ∧ (w32 (x4 + 1)) < (sc.1 : Int)) (grd (0 ≤ (w32 (x4 + 2)) ∧ (w32 (x4 + 2)) < (sc.1 : Int)) (grd (isK s65 23 x2) (bnd (X13_rightFrom s65 x2 (sc.2 (w32 (x4 + 1)).toNat) (sc.2 (w32 (x4 + 2)).toNat)) (fun r66 s67 => if r64 = r66 then (L_law_b2315 sc rk23 s67 x1 x2 x3 x4) else (grd ((0 : Int) = 1) (some (0, s67)))))))))))
set_option maxRecDepth 100000 in
set_option maxHeartbeats 4000000 in
theorem L_law_b758_s (G : Gx) (l : Launch) (hl : l.stackTraces = false) (rk23 : St → Int → Int → Int → Int → Rs) (hk23 : ∀ (s : St) (x1 x2 x3 x4 : Int), VQ (QLaw G) G l mL_law 23 [(0, (2, 1002000)), (1, (2, x1)), (2, (2, x2)), (3, (2, x3)), (4, (0, x4))] [] s (rk23 s x1 x2 x3 x4)) (s : St) (x1 x2 x3 x4 : Int) : VQ (QLaw G) G l mL_law 758 [(0, (2, 1002000)), (1, (2, x1)), (2, (2, x2)), (3, (2, x3)), (4, (0, x4))] [] s (L_law_b758 G.2.2.2.2.2.2 rk23 s x1 x2 x3 x4) := by
  unfold L_law_b758
  refine V_aload_n dec_L_law_14.2.1.2.2.2 1 rfl ?_
  refine V_aload_n dec_L_law_14.2.2.1.1 0 rfl ?_
  refine V_iload dec_L_law_14.2.2.1.2.1 4 rfl ?_
  refine V_iconst dec_L_law_14.2.2.1.2.2 rfl ?_
  refine V_iadd dec_L_law_14.2.2.2.1 ?_
  refine V_sald dec_L_law_14.2.2.2.2.1 ?_
  refine V_aload_n dec_L_law_14.2.2.2.2.2 0 rfl ?_
  refine V_iload dec_L_law_15.1.1.1.1 4 rfl ?_
  refine V_iconst dec_L_law_15.1.1.1.2.1 rfl ?_
  refine V_iadd dec_L_law_15.1.1.1.2.2 ?_
  refine V_sald dec_L_law_15.1.1.2.1 ?_
  refine V_callV0 (ci := 11) (a := x1) (As := [(0, (G.2.2.2.2.2.2.2 (w32 (x4 + 1)).toNat)), (0, (G.2.2.2.2.2.2.2 (w32 (x4 + 2)).toNat))]) (st := []) rfl rfl (X11_rightFrom_s G l s x1 (G.2.2.2.2.2.2.2 (w32 (x4 + 1)).toNat) (G.2.2.2.2.2.2.2 (w32 (x4 + 2)).toNat)) cal_X11_rightFrom rfl ml_L_79 rfl rfl dec_L_law_15.1.1.2.2.1 (k_tag (tag := 0) rfl fun r64 s65 => ?_)
  refine V_aload_n dec_L_law_15.1.1.2.2.2 2 rfl ?_
  refine V_aload_n dec_L_law_15.1.2.1.1 0 rfl ?_
  refine V_iload dec_L_law_15.1.2.1.2.1 4 rfl ?_
  refine V_iconst dec_L_law_15.1.2.1.2.2 rfl ?_
  refine V_iadd dec_L_law_15.1.2.2.1 ?_
  refine V_sald dec_L_law_15.1.2.2.2.1 ?_
  refine V_aload_n dec_L_law_15.1.2.2.2.2 0 rfl ?_
  refine V_iload dec_L_law_15.2.1.1.1 4 rfl ?_
  refine V_iconst dec_L_law_15.2.1.1.2.1 rfl ?_
  refine V_iadd dec_L_law_15.2.1.1.2.2 ?_
  refine V_sald dec_L_law_15.2.1.2.1 ?_
  refine V_callV0 (ci := 13) (a := x2) (As := [(0, (G.2.2.2.2.2.2.2 (w32 (x4 + 1)).toNat)), (0, (G.2.2.2.2.2.2.2 (w32 (x4 + 2)).toNat))]) (st := [(0, r64)]) rfl rfl (X13_rightFrom_s G l s65 x2 (G.2.2.2.2.2.2.2 (w32 (x4 + 1)).toNat) (G.2.2.2.2.2.2.2 (w32 (x4 + 2)).toNat)) cal_X13_rightFrom rfl ml_L_82 rfl rfl dec_L_law_15.2.1.2.2.1 (k_tag (tag := 0) rfl fun r66 s67 => ?_)
  refine V_icmp_eq (tgt := 2315) dec_L_law_15.2.1.2.2.2 (by decide) ?_ ?_
  · exact V_pick [0, 1, 2, 3, 4] rfl (L_law_b2315_s G l hl rk23 hk23 s67 x1 x2 x3 x4)
  · refine V_iconst dec_L_law_15.2.2.1.1 rfl ?_
    exact V_lawret rfl dec_L_law_15.2.2.1.2.1
def L_law_b795 (sc : Nat × (Nat → Int)) (rk23 : St → Int → Int → Int → Int → Rs) (s : St) (x1 x2 x3 x4 : Int) : Rs :=
  grd (0 ≤ (w32 (x4 + 1)) ∧ (w32 (x4 + 1)) < (sc.1 : Int)) (grd (0 ≤ (w32 (x4 + 2)) ∧ (w32 (x4 + 2)) < (sc.1 : Int)) (grd (isK s 21 x1) (bnd (X11_nightsOf s x1 (sc.2 (w32 (x4 + 1)).toNat) (sc.2 (w32 (x4 + 2)).toNat)) (fun r68 s69 => grd (0 ≤ (w32 (x4 + 1)) ∧ (w32 (x4 + 1)) < (sc.1 : Int)) (grd (0 ≤ (w32 (x4 + 2)) ∧ (w32 (x4 + 2)) < (sc.1 : Int)) (grd (isK s69 23 x2) (bnd (X13_nightsOf s69 x2 (sc.2 (w32 (x4 + 1)).toNat) (sc.2 (w32 (x4 + 2)).toNat)) (fun r70 s71 => if r68 = r70 then (L_law_b2315 sc rk23 s71 x1 x2 x3 x4) else (grd ((0 : Int) = 1) (some (0, s71)))))))))))
set_option maxRecDepth 100000 in
set_option maxHeartbeats 4000000 in
theorem L_law_b795_s (G : Gx) (l : Launch) (hl : l.stackTraces = false) (rk23 : St → Int → Int → Int → Int → Rs) (hk23 : ∀ (s : St) (x1 x2 x3 x4 : Int), VQ (QLaw G) G l mL_law 23 [(0, (2, 1002000)), (1, (2, x1)), (2, (2, x2)), (3, (2, x3)), (4, (0, x4))] [] s (rk23 s x1 x2 x3 x4)) (s : St) (x1 x2 x3 x4 : Int) : VQ (QLaw G) G l mL_law 795 [(0, (2, 1002000)), (1, (2, x1)), (2, (2, x2)), (3, (2, x3)), (4, (0, x4))] [] s (L_law_b795 G.2.2.2.2.2.2 rk23 s x1 x2 x3 x4) := by
  unfold L_law_b795
  refine V_aload_n dec_L_law_15.2.2.1.2.2 1 rfl ?_
  refine V_aload_n dec_L_law_15.2.2.2.1 0 rfl ?_
  refine V_iload dec_L_law_15.2.2.2.2.1 4 rfl ?_
  refine V_iconst dec_L_law_15.2.2.2.2.2 rfl ?_
  refine V_iadd dec_L_law_16.1.1.1.1 ?_
  refine V_sald dec_L_law_16.1.1.1.2.1 ?_
  refine V_aload_n dec_L_law_16.1.1.1.2.2 0 rfl ?_
  refine V_iload dec_L_law_16.1.1.2.1 4 rfl ?_
  refine V_iconst dec_L_law_16.1.1.2.2.1 rfl ?_
  refine V_iadd dec_L_law_16.1.1.2.2.2 ?_
  refine V_sald dec_L_law_16.1.2.1.1 ?_
  refine V_callV0 (ci := 11) (a := x1) (As := [(0, (G.2.2.2.2.2.2.2 (w32 (x4 + 1)).toNat)), (0, (G.2.2.2.2.2.2.2 (w32 (x4 + 2)).toNat))]) (st := []) rfl rfl (X11_nightsOf_s G l s x1 (G.2.2.2.2.2.2.2 (w32 (x4 + 1)).toNat) (G.2.2.2.2.2.2.2 (w32 (x4 + 2)).toNat)) cal_X11_nightsOf rfl ml_L_83 rfl rfl dec_L_law_16.1.2.1.2.1 (k_tag (tag := 0) rfl fun r68 s69 => ?_)
  refine V_aload_n dec_L_law_16.1.2.1.2.2 2 rfl ?_
  refine V_aload_n dec_L_law_16.1.2.2.1 0 rfl ?_
  refine V_iload dec_L_law_16.1.2.2.2.1 4 rfl ?_
  refine V_iconst dec_L_law_16.1.2.2.2.2 rfl ?_
  refine V_iadd dec_L_law_16.2.1.1.1 ?_
  refine V_sald dec_L_law_16.2.1.1.2.1 ?_
  refine V_aload_n dec_L_law_16.2.1.1.2.2 0 rfl ?_
  refine V_iload dec_L_law_16.2.1.2.1 4 rfl ?_
  refine V_iconst dec_L_law_16.2.1.2.2.1 rfl ?_
  refine V_iadd dec_L_law_16.2.1.2.2.2 ?_
  refine V_sald dec_L_law_16.2.2.1.1 ?_
  refine V_callV0 (ci := 13) (a := x2) (As := [(0, (G.2.2.2.2.2.2.2 (w32 (x4 + 1)).toNat)), (0, (G.2.2.2.2.2.2.2 (w32 (x4 + 2)).toNat))]) (st := [(0, r68)]) rfl rfl (X13_nightsOf_s G l s69 x2 (G.2.2.2.2.2.2.2 (w32 (x4 + 1)).toNat) (G.2.2.2.2.2.2.2 (w32 (x4 + 2)).toNat)) cal_X13_nightsOf rfl ml_L_86 rfl rfl dec_L_law_16.2.2.1.2.1 (k_tag (tag := 0) rfl fun r70 s71 => ?_)
  refine V_icmp_eq (tgt := 2315) dec_L_law_16.2.2.1.2.2 (by decide) ?_ ?_
  · exact V_pick [0, 1, 2, 3, 4] rfl (L_law_b2315_s G l hl rk23 hk23 s71 x1 x2 x3 x4)
  · refine V_iconst dec_L_law_16.2.2.2.1 rfl ?_
    exact V_lawret rfl dec_L_law_16.2.2.2.2.1
def L_law_b832 (sc : Nat × (Nat → Int)) (rk23 : St → Int → Int → Int → Int → Rs) (s : St) (x1 x2 x3 x4 : Int) : Rs :=
  grd (0 ≤ (w32 (x4 + 1)) ∧ (w32 (x4 + 1)) < (sc.1 : Int)) (grd (isK s 21 x1) (bnd (X11_round s x1 (sc.2 (w32 (x4 + 1)).toNat)) (fun r72 s73 => grd (0 ≤ (w32 (x4 + 1)) ∧ (w32 (x4 + 1)) < (sc.1 : Int)) (grd (isK s73 23 x2) (bnd (X13_round s73 x2 (sc.2 (w32 (x4 + 1)).toNat)) (fun r74 s75 => if r72 = r74 then (L_law_b2315 sc rk23 s75 x1 x2 x3 x4) else (grd ((0 : Int) = 1) (some (0, s75)))))))))
set_option maxRecDepth 100000 in
set_option maxHeartbeats 4000000 in
theorem L_law_b832_s (G : Gx) (l : Launch) (hl : l.stackTraces = false) (rk23 : St → Int → Int → Int → Int → Rs) (hk23 : ∀ (s : St) (x1 x2 x3 x4 : Int), VQ (QLaw G) G l mL_law 23 [(0, (2, 1002000)), (1, (2, x1)), (2, (2, x2)), (3, (2, x3)), (4, (0, x4))] [] s (rk23 s x1 x2 x3 x4)) (s : St) (x1 x2 x3 x4 : Int) : VQ (QLaw G) G l mL_law 832 [(0, (2, 1002000)), (1, (2, x1)), (2, (2, x2)), (3, (2, x3)), (4, (0, x4))] [] s (L_law_b832 G.2.2.2.2.2.2 rk23 s x1 x2 x3 x4) := by
  unfold L_law_b832
  refine V_aload_n dec_L_law_16.2.2.2.2.2 1 rfl ?_
  refine V_aload_n dec_L_law_17.1.1.1.1 0 rfl ?_
  refine V_iload dec_L_law_17.1.1.1.2.1 4 rfl ?_
  refine V_iconst dec_L_law_17.1.1.1.2.2 rfl ?_
  refine V_iadd dec_L_law_17.1.1.2.1 ?_
  refine V_sald dec_L_law_17.1.1.2.2.1 ?_
  refine V_callV0 (ci := 11) (a := x1) (As := [(0, (G.2.2.2.2.2.2.2 (w32 (x4 + 1)).toNat))]) (st := []) rfl rfl (X11_round_s G l s x1 (G.2.2.2.2.2.2.2 (w32 (x4 + 1)).toNat)) cal_X11_round rfl ml_L_87 rfl rfl dec_L_law_17.1.1.2.2.2 (k_tag (tag := 0) rfl fun r72 s73 => ?_)
  refine V_aload_n dec_L_law_17.1.2.1.1 2 rfl ?_
  refine V_aload_n dec_L_law_17.1.2.1.2.1 0 rfl ?_
  refine V_iload dec_L_law_17.1.2.1.2.2 4 rfl ?_
  refine V_iconst dec_L_law_17.1.2.2.1 rfl ?_
  refine V_iadd dec_L_law_17.1.2.2.2.1 ?_
  refine V_sald dec_L_law_17.1.2.2.2.2 ?_
  refine V_callV0 (ci := 13) (a := x2) (As := [(0, (G.2.2.2.2.2.2.2 (w32 (x4 + 1)).toNat))]) (st := [(0, r72)]) rfl rfl (X13_round_s G l s73 x2 (G.2.2.2.2.2.2.2 (w32 (x4 + 1)).toNat)) cal_X13_round rfl ml_L_90 rfl rfl dec_L_law_17.2.1.1.1 (k_tag (tag := 0) rfl fun r74 s75 => ?_)
  refine V_icmp_eq (tgt := 2315) dec_L_law_17.2.1.1.2.1 (by decide) ?_ ?_
  · exact V_pick [0, 1, 2, 3, 4] rfl (L_law_b2315_s G l hl rk23 hk23 s75 x1 x2 x3 x4)
  · refine V_iconst dec_L_law_17.2.1.1.2.2 rfl ?_
    exact V_lawret rfl dec_L_law_17.2.1.2.1
def L_law_b857 (sc : Nat × (Nat → Int)) (rk23 : St → Int → Int → Int → Int → Rs) (s : St) (x1 x2 x3 x4 : Int) : Rs :=
  grd (isK s 21 x1) (bnd (X11_bestNight s x1) (fun r76 s77 => grd (isK s77 23 x2) (bnd (X13_bestNight s77 x2) (fun r78 s79 => if r76 = r78 then (L_law_b2315 sc rk23 s79 x1 x2 x3 x4) else (grd ((0 : Int) = 1) (some (0, s79)))))))
set_option maxRecDepth 100000 in
set_option maxHeartbeats 4000000 in
theorem L_law_b857_s (G : Gx) (l : Launch) (hl : l.stackTraces = false) (rk23 : St → Int → Int → Int → Int → Rs) (hk23 : ∀ (s : St) (x1 x2 x3 x4 : Int), VQ (QLaw G) G l mL_law 23 [(0, (2, 1002000)), (1, (2, x1)), (2, (2, x2)), (3, (2, x3)), (4, (0, x4))] [] s (rk23 s x1 x2 x3 x4)) (s : St) (x1 x2 x3 x4 : Int) : VQ (QLaw G) G l mL_law 857 [(0, (2, 1002000)), (1, (2, x1)), (2, (2, x2)), (3, (2, x3)), (4, (0, x4))] [] s (L_law_b857 G.2.2.2.2.2.2 rk23 s x1 x2 x3 x4) := by
  unfold L_law_b857
  refine V_aload_n dec_L_law_17.2.1.2.2.1 1 rfl ?_
  refine V_callV0 (ci := 11) (a := x1) (As := []) (st := []) rfl rfl (X11_bestNight_s G l s x1) cal_X11_bestNight rfl ml_L_91 rfl rfl dec_L_law_17.2.1.2.2.2 (k_tag (tag := 0) rfl fun r76 s77 => ?_)
  refine V_aload_n dec_L_law_17.2.2.1.1 2 rfl ?_
  refine V_callV0 (ci := 13) (a := x2) (As := []) (st := [(0, r76)]) rfl rfl (X13_bestNight_s G l s77 x2) cal_X13_bestNight rfl ml_L_94 rfl rfl dec_L_law_17.2.2.1.2.1 (k_tag (tag := 0) rfl fun r78 s79 => ?_)
  refine V_icmp_eq (tgt := 2315) dec_L_law_17.2.2.1.2.2 (by decide) ?_ ?_
  · exact V_pick [0, 1, 2, 3, 4] rfl (L_law_b2315_s G l hl rk23 hk23 s79 x1 x2 x3 x4)
  · refine V_iconst dec_L_law_17.2.2.2.1 rfl ?_
    exact V_lawret rfl dec_L_law_17.2.2.2.2.1
def L_law_b870 (sc : Nat × (Nat → Int)) (rk23 : St → Int → Int → Int → Int → Rs) (s : St) (x1 x2 x3 x4 : Int) : Rs :=
  grd (isK s 21 x1) (bnd (X11_perfect s x1) (fun r80 s81 => grd (isK s81 23 x2) (bnd (X13_perfect s81 x2) (fun r82 s83 => if r80 = r82 then (L_law_b2315 sc rk23 s83 x1 x2 x3 x4) else (grd ((0 : Int) = 1) (some (0, s83)))))))
set_option maxRecDepth 100000 in
set_option maxHeartbeats 4000000 in
theorem L_law_b870_s (G : Gx) (l : Launch) (hl : l.stackTraces = false) (rk23 : St → Int → Int → Int → Int → Rs) (hk23 : ∀ (s : St) (x1 x2 x3 x4 : Int), VQ (QLaw G) G l mL_law 23 [(0, (2, 1002000)), (1, (2, x1)), (2, (2, x2)), (3, (2, x3)), (4, (0, x4))] [] s (rk23 s x1 x2 x3 x4)) (s : St) (x1 x2 x3 x4 : Int) : VQ (QLaw G) G l mL_law 870 [(0, (2, 1002000)), (1, (2, x1)), (2, (2, x2)), (3, (2, x3)), (4, (0, x4))] [] s (L_law_b870 G.2.2.2.2.2.2 rk23 s x1 x2 x3 x4) := by
  unfold L_law_b870
  refine V_aload_n dec_L_law_17.2.2.2.2.2 1 rfl ?_
  refine V_callV0 (ci := 11) (a := x1) (As := []) (st := []) rfl rfl (X11_perfect_s G l s x1) cal_X11_perfect rfl ml_L_95 rfl rfl dec_L_law_18.1.1.1.1 (k_tag (tag := 0) rfl fun r80 s81 => ?_)
  refine V_aload_n dec_L_law_18.1.1.1.2.1 2 rfl ?_
  refine V_callV0 (ci := 13) (a := x2) (As := []) (st := [(0, r80)]) rfl rfl (X13_perfect_s G l s81 x2) cal_X13_perfect rfl ml_L_98 rfl rfl dec_L_law_18.1.1.1.2.2 (k_tag (tag := 0) rfl fun r82 s83 => ?_)
  refine V_icmp_eq (tgt := 2315) dec_L_law_18.1.1.2.1 (by decide) ?_ ?_
  · exact V_pick [0, 1, 2, 3, 4] rfl (L_law_b2315_s G l hl rk23 hk23 s83 x1 x2 x3 x4)
  · refine V_iconst dec_L_law_18.1.1.2.2.1 rfl ?_
    exact V_lawret rfl dec_L_law_18.1.1.2.2.2
def L_law_b883 (sc : Nat × (Nat → Int)) (rk23 : St → Int → Int → Int → Int → Rs) (s : St) (x1 x2 x3 x4 : Int) : Rs :=
  grd (0 ≤ (w32 (x4 + 1)) ∧ (w32 (x4 + 1)) < (sc.1 : Int)) (grd (0 ≤ (w32 (x4 + 2)) ∧ (w32 (x4 + 2)) < (sc.1 : Int)) (grd (isK s 21 x1) (bnd (X11_together s x1 (sc.2 (w32 (x4 + 1)).toNat) (sc.2 (w32 (x4 + 2)).toNat)) (fun r84 s85 => grd (0 ≤ (w32 (x4 + 1)) ∧ (w32 (x4 + 1)) < (sc.1 : Int)) (grd (0 ≤ (w32 (x4 + 2)) ∧ (w32 (x4 + 2)) < (sc.1 : Int)) (grd (isK s85 23 x2) (bnd (X13_together s85 x2 (sc.2 (w32 (x4 + 1)).toNat) (sc.2 (w32 (x4 + 2)).toNat)) (fun r86 s87 => if r84 = r86 then (L_law_b2315 sc rk23 s87 x1 x2 x3 x4) else (grd ((0 : Int) = 1) (some (0, s87)))))))))))
set_option maxRecDepth 100000 in
set_option maxHeartbeats 4000000 in
theorem L_law_b883_s (G : Gx) (l : Launch) (hl : l.stackTraces = false) (rk23 : St → Int → Int → Int → Int → Rs) (hk23 : ∀ (s : St) (x1 x2 x3 x4 : Int), VQ (QLaw G) G l mL_law 23 [(0, (2, 1002000)), (1, (2, x1)), (2, (2, x2)), (3, (2, x3)), (4, (0, x4))] [] s (rk23 s x1 x2 x3 x4)) (s : St) (x1 x2 x3 x4 : Int) : VQ (QLaw G) G l mL_law 883 [(0, (2, 1002000)), (1, (2, x1)), (2, (2, x2)), (3, (2, x3)), (4, (0, x4))] [] s (L_law_b883 G.2.2.2.2.2.2 rk23 s x1 x2 x3 x4) := by
  unfold L_law_b883
  refine V_aload_n dec_L_law_18.1.2.1.1 1 rfl ?_
  refine V_aload_n dec_L_law_18.1.2.1.2.1 0 rfl ?_
  refine V_iload dec_L_law_18.1.2.1.2.2 4 rfl ?_
  refine V_iconst dec_L_law_18.1.2.2.1 rfl ?_
  refine V_iadd dec_L_law_18.1.2.2.2.1 ?_
  refine V_sald dec_L_law_18.1.2.2.2.2 ?_
  refine V_aload_n dec_L_law_18.2.1.1.1 0 rfl ?_
  refine V_iload dec_L_law_18.2.1.1.2.1 4 rfl ?_
  refine V_iconst dec_L_law_18.2.1.1.2.2 rfl ?_
  refine V_iadd dec_L_law_18.2.1.2.1 ?_
  refine V_sald dec_L_law_18.2.1.2.2.1 ?_
  refine V_callV0 (ci := 11) (a := x1) (As := [(0, (G.2.2.2.2.2.2.2 (w32 (x4 + 1)).toNat)), (0, (G.2.2.2.2.2.2.2 (w32 (x4 + 2)).toNat))]) (st := []) rfl rfl (X11_together_s G l s x1 (G.2.2.2.2.2.2.2 (w32 (x4 + 1)).toNat) (G.2.2.2.2.2.2.2 (w32 (x4 + 2)).toNat)) cal_X11_together rfl ml_L_99 rfl rfl dec_L_law_18.2.1.2.2.2 (k_tag (tag := 0) rfl fun r84 s85 => ?_)
  refine V_aload_n dec_L_law_18.2.2.1.1 2 rfl ?_
  refine V_aload_n dec_L_law_18.2.2.1.2.1 0 rfl ?_
  refine V_iload dec_L_law_18.2.2.1.2.2 4 rfl ?_
  refine V_iconst dec_L_law_18.2.2.2.1 rfl ?_
  refine V_iadd dec_L_law_18.2.2.2.2.1 ?_
  refine V_sald dec_L_law_18.2.2.2.2.2 ?_
  refine V_aload_n dec_L_law_19.1.1.1.1 0 rfl ?_
  refine V_iload dec_L_law_19.1.1.1.2.1 4 rfl ?_
  refine V_iconst dec_L_law_19.1.1.1.2.2 rfl ?_
  refine V_iadd dec_L_law_19.1.1.2.1 ?_
  refine V_sald dec_L_law_19.1.1.2.2.1 ?_
  refine V_callV0 (ci := 13) (a := x2) (As := [(0, (G.2.2.2.2.2.2.2 (w32 (x4 + 1)).toNat)), (0, (G.2.2.2.2.2.2.2 (w32 (x4 + 2)).toNat))]) (st := [(0, r84)]) rfl rfl (X13_together_s G l s85 x2 (G.2.2.2.2.2.2.2 (w32 (x4 + 1)).toNat) (G.2.2.2.2.2.2.2 (w32 (x4 + 2)).toNat)) cal_X13_together rfl ml_L_102 rfl rfl dec_L_law_19.1.1.2.2.2 (k_tag (tag := 0) rfl fun r86 s87 => ?_)
  refine V_icmp_eq (tgt := 2315) dec_L_law_19.1.2.1.1 (by decide) ?_ ?_
  · exact V_pick [0, 1, 2, 3, 4] rfl (L_law_b2315_s G l hl rk23 hk23 s87 x1 x2 x3 x4)
  · refine V_iconst dec_L_law_19.1.2.1.2.1 rfl ?_
    exact V_lawret rfl dec_L_law_19.1.2.1.2.2
def L_law_b920 (sc : Nat × (Nat → Int)) (rk23 : St → Int → Int → Int → Int → Rs) (s : St) (x1 x2 x3 x4 : Int) : Rs :=
  grd (0 ≤ (w32 (x4 + 1)) ∧ (w32 (x4 + 1)) < (sc.1 : Int)) (grd (0 ≤ (w32 (x4 + 2)) ∧ (w32 (x4 + 2)) < (sc.1 : Int)) (grd (0 ≤ (w32 (x4 + 3)) ∧ (w32 (x4 + 3)) < (sc.1 : Int)) (grd (isK s 21 x1) (bnd (X11_aimFor s x1 (sc.2 (w32 (x4 + 1)).toNat) (sc.2 (w32 (x4 + 2)).toNat) (sc.2 (w32 (x4 + 3)).toNat)) (fun r88 s89 => grd (0 ≤ (w32 (x4 + 1)) ∧ (w32 (x4 + 1)) < (sc.1 : Int)) (grd (0 ≤ (w32 (x4 + 2)) ∧ (w32 (x4 + 2)) < (sc.1 : Int)) (grd (0 ≤ (w32 (x4 + 3)) ∧ (w32 (x4 + 3)) < (sc.1 : Int)) (grd (isK s89 23 x2) (bnd (X13_aimFor s89 x2 (sc.2 (w32 (x4 + 1)).toNat) (sc.2 (w32 (x4 + 2)).toNat) (sc.2 (w32 (x4 + 3)).toNat)) (fun r90 s91 => if r88 = r90 then (L_law_b2315 sc rk23 s91 x1 x2 x3 x4) else (grd ((0 : Int) = 1) (some (0, s91)))))))))))))
set_option maxRecDepth 100000 in
set_option maxHeartbeats 4000000 in
theorem L_law_b920_s (G : Gx) (l : Launch) (hl : l.stackTraces = false) (rk23 : St → Int → Int → Int → Int → Rs) (hk23 : ∀ (s : St) (x1 x2 x3 x4 : Int), VQ (QLaw G) G l mL_law 23 [(0, (2, 1002000)), (1, (2, x1)), (2, (2, x2)), (3, (2, x3)), (4, (0, x4))] [] s (rk23 s x1 x2 x3 x4)) (s : St) (x1 x2 x3 x4 : Int) : VQ (QLaw G) G l mL_law 920 [(0, (2, 1002000)), (1, (2, x1)), (2, (2, x2)), (3, (2, x3)), (4, (0, x4))] [] s (L_law_b920 G.2.2.2.2.2.2 rk23 s x1 x2 x3 x4) := by
  unfold L_law_b920
  refine V_aload_n dec_L_law_19.1.2.2.1 1 rfl ?_
  refine V_aload_n dec_L_law_19.1.2.2.2.1 0 rfl ?_
  refine V_iload dec_L_law_19.1.2.2.2.2 4 rfl ?_
  refine V_iconst dec_L_law_19.2.1.1.1 rfl ?_
  refine V_iadd dec_L_law_19.2.1.1.2.1 ?_
  refine V_sald dec_L_law_19.2.1.1.2.2 ?_
  refine V_aload_n dec_L_law_19.2.1.2.1 0 rfl ?_
  refine V_iload dec_L_law_19.2.1.2.2.1 4 rfl ?_
  refine V_iconst dec_L_law_19.2.1.2.2.2 rfl ?_
  refine V_iadd dec_L_law_19.2.2.1.1 ?_
  refine V_sald dec_L_law_19.2.2.1.2.1 ?_
  refine V_aload_n dec_L_law_19.2.2.1.2.2 0 rfl ?_
  refine V_iload dec_L_law_19.2.2.2.1 4 rfl ?_
  refine V_iconst dec_L_law_19.2.2.2.2.1 rfl ?_
  refine V_iadd dec_L_law_19.2.2.2.2.2 ?_
  refine V_sald dec_L_law_20.1.1.1.1 ?_
  refine V_callV0 (ci := 11) (a := x1) (As := [(0, (G.2.2.2.2.2.2.2 (w32 (x4 + 1)).toNat)), (0, (G.2.2.2.2.2.2.2 (w32 (x4 + 2)).toNat)), (0, (G.2.2.2.2.2.2.2 (w32 (x4 + 3)).toNat))]) (st := []) rfl rfl (X11_aimFor_s G l s x1 (G.2.2.2.2.2.2.2 (w32 (x4 + 1)).toNat) (G.2.2.2.2.2.2.2 (w32 (x4 + 2)).toNat) (G.2.2.2.2.2.2.2 (w32 (x4 + 3)).toNat)) cal_X11_aimFor rfl ml_L_103 rfl rfl dec_L_law_20.1.1.1.2.1 (k_tag (tag := 0) rfl fun r88 s89 => ?_)
  refine V_aload_n dec_L_law_20.1.1.1.2.2 2 rfl ?_
  refine V_aload_n dec_L_law_20.1.1.2.1 0 rfl ?_
  refine V_iload dec_L_law_20.1.1.2.2.1 4 rfl ?_
  refine V_iconst dec_L_law_20.1.1.2.2.2 rfl ?_
  refine V_iadd dec_L_law_20.1.2.1.1 ?_
  refine V_sald dec_L_law_20.1.2.1.2.1 ?_
  refine V_aload_n dec_L_law_20.1.2.1.2.2 0 rfl ?_
  refine V_iload dec_L_law_20.1.2.2.1 4 rfl ?_
  refine V_iconst dec_L_law_20.1.2.2.2.1 rfl ?_
  refine V_iadd dec_L_law_20.1.2.2.2.2 ?_
  refine V_sald dec_L_law_20.2.1.1.1 ?_
  refine V_aload_n dec_L_law_20.2.1.1.2.1 0 rfl ?_
  refine V_iload dec_L_law_20.2.1.1.2.2 4 rfl ?_
  refine V_iconst dec_L_law_20.2.1.2.1 rfl ?_
  refine V_iadd dec_L_law_20.2.1.2.2.1 ?_
  refine V_sald dec_L_law_20.2.1.2.2.2 ?_
  refine V_callV0 (ci := 13) (a := x2) (As := [(0, (G.2.2.2.2.2.2.2 (w32 (x4 + 1)).toNat)), (0, (G.2.2.2.2.2.2.2 (w32 (x4 + 2)).toNat)), (0, (G.2.2.2.2.2.2.2 (w32 (x4 + 3)).toNat))]) (st := [(0, r88)]) rfl rfl (X13_aimFor_s G l s89 x2 (G.2.2.2.2.2.2.2 (w32 (x4 + 1)).toNat) (G.2.2.2.2.2.2.2 (w32 (x4 + 2)).toNat) (G.2.2.2.2.2.2.2 (w32 (x4 + 3)).toNat)) cal_X13_aimFor rfl ml_L_106 rfl rfl dec_L_law_20.2.2.1.1 (k_tag (tag := 0) rfl fun r90 s91 => ?_)
  refine V_icmp_eq (tgt := 2315) dec_L_law_20.2.2.1.2.1 (by decide) ?_ ?_
  · exact V_pick [0, 1, 2, 3, 4] rfl (L_law_b2315_s G l hl rk23 hk23 s91 x1 x2 x3 x4)
  · refine V_iconst dec_L_law_20.2.2.1.2.2 rfl ?_
    exact V_lawret rfl dec_L_law_20.2.2.2.1
def L_law_b969 (sc : Nat × (Nat → Int)) (rk23 : St → Int → Int → Int → Int → Rs) (s : St) (x1 x2 x3 x4 : Int) : Rs :=
  grd (0 ≤ (w32 (x4 + 1)) ∧ (w32 (x4 + 1)) < (sc.1 : Int)) (grd (0 ≤ (w32 (x4 + 2)) ∧ (w32 (x4 + 2)) < (sc.1 : Int)) (grd (0 ≤ (w32 (x4 + 3)) ∧ (w32 (x4 + 3)) < (sc.1 : Int)) (grd (isK s 21 x1) (bnd (X11_aims s x1 (sc.2 (w32 (x4 + 1)).toNat) (sc.2 (w32 (x4 + 2)).toNat) (sc.2 (w32 (x4 + 3)).toNat)) (fun r92 s93 => grd (0 ≤ (w32 (x4 + 1)) ∧ (w32 (x4 + 1)) < (sc.1 : Int)) (grd (0 ≤ (w32 (x4 + 2)) ∧ (w32 (x4 + 2)) < (sc.1 : Int)) (grd (0 ≤ (w32 (x4 + 3)) ∧ (w32 (x4 + 3)) < (sc.1 : Int)) (grd (isK s93 23 x2) (bnd (X13_aims s93 x2 (sc.2 (w32 (x4 + 1)).toNat) (sc.2 (w32 (x4 + 2)).toNat) (sc.2 (w32 (x4 + 3)).toNat)) (fun r94 s95 => if r92 = r94 then (L_law_b2315 sc rk23 s95 x1 x2 x3 x4) else (grd ((0 : Int) = 1) (some (0, s95)))))))))))))
set_option maxRecDepth 100000 in
set_option maxHeartbeats 4000000 in
theorem L_law_b969_s (G : Gx) (l : Launch) (hl : l.stackTraces = false) (rk23 : St → Int → Int → Int → Int → Rs) (hk23 : ∀ (s : St) (x1 x2 x3 x4 : Int), VQ (QLaw G) G l mL_law 23 [(0, (2, 1002000)), (1, (2, x1)), (2, (2, x2)), (3, (2, x3)), (4, (0, x4))] [] s (rk23 s x1 x2 x3 x4)) (s : St) (x1 x2 x3 x4 : Int) : VQ (QLaw G) G l mL_law 969 [(0, (2, 1002000)), (1, (2, x1)), (2, (2, x2)), (3, (2, x3)), (4, (0, x4))] [] s (L_law_b969 G.2.2.2.2.2.2 rk23 s x1 x2 x3 x4) := by
  unfold L_law_b969
  refine V_aload_n dec_L_law_20.2.2.2.2.1 1 rfl ?_
  refine V_aload_n dec_L_law_20.2.2.2.2.2 0 rfl ?_
  refine V_iload dec_L_law_21.1.1.1.1 4 rfl ?_
  refine V_iconst dec_L_law_21.1.1.1.2.1 rfl ?_
  refine V_iadd dec_L_law_21.1.1.1.2.2 ?_
  refine V_sald dec_L_law_21.1.1.2.1 ?_
  refine V_aload_n dec_L_law_21.1.1.2.2.1 0 rfl ?_
  refine V_iload dec_L_law_21.1.1.2.2.2 4 rfl ?_
  refine V_iconst dec_L_law_21.1.2.1.1 rfl ?_
  refine V_iadd dec_L_law_21.1.2.1.2.1 ?_
  refine V_sald dec_L_law_21.1.2.1.2.2 ?_
  refine V_aload_n dec_L_law_21.1.2.2.1 0 rfl ?_
  refine V_iload dec_L_law_21.1.2.2.2.1 4 rfl ?_
  refine V_iconst dec_L_law_21.1.2.2.2.2 rfl ?_
  refine V_iadd dec_L_law_21.2.1.1.1 ?_
  refine V_sald dec_L_law_21.2.1.1.2.1 ?_
  refine V_callV0 (ci := 11) (a := x1) (As := [(0, (G.2.2.2.2.2.2.2 (w32 (x4 + 1)).toNat)), (0, (G.2.2.2.2.2.2.2 (w32 (x4 + 2)).toNat)), (0, (G.2.2.2.2.2.2.2 (w32 (x4 + 3)).toNat))]) (st := []) rfl rfl (X11_aims_s G l s x1 (G.2.2.2.2.2.2.2 (w32 (x4 + 1)).toNat) (G.2.2.2.2.2.2.2 (w32 (x4 + 2)).toNat) (G.2.2.2.2.2.2.2 (w32 (x4 + 3)).toNat)) cal_X11_aims rfl ml_L_107 rfl rfl dec_L_law_21.2.1.1.2.2 (k_tag (tag := 0) rfl fun r92 s93 => ?_)
  refine V_aload_n dec_L_law_21.2.1.2.1 2 rfl ?_
  refine V_aload_n dec_L_law_21.2.1.2.2.1 0 rfl ?_
  refine V_iload dec_L_law_21.2.1.2.2.2 4 rfl ?_
  refine V_iconst dec_L_law_21.2.2.1.1 rfl ?_
  refine V_iadd dec_L_law_21.2.2.1.2.1 ?_
  refine V_sald dec_L_law_21.2.2.1.2.2 ?_
  refine V_aload_n dec_L_law_21.2.2.2.1 0 rfl ?_
  refine V_iload dec_L_law_21.2.2.2.2.1 4 rfl ?_
  refine V_iconst dec_L_law_21.2.2.2.2.2 rfl ?_
  refine V_iadd dec_L_law_22.1.1.1.1 ?_
  refine V_sald dec_L_law_22.1.1.1.2.1 ?_
  refine V_aload_n dec_L_law_22.1.1.1.2.2 0 rfl ?_
  refine V_iload dec_L_law_22.1.1.2.1 4 rfl ?_
  refine V_iconst dec_L_law_22.1.1.2.2.1 rfl ?_
  refine V_iadd dec_L_law_22.1.1.2.2.2 ?_
  refine V_sald dec_L_law_22.1.2.1.1 ?_
  refine V_callV0 (ci := 13) (a := x2) (As := [(0, (G.2.2.2.2.2.2.2 (w32 (x4 + 1)).toNat)), (0, (G.2.2.2.2.2.2.2 (w32 (x4 + 2)).toNat)), (0, (G.2.2.2.2.2.2.2 (w32 (x4 + 3)).toNat))]) (st := [(0, r92)]) rfl rfl (X13_aims_s G l s93 x2 (G.2.2.2.2.2.2.2 (w32 (x4 + 1)).toNat) (G.2.2.2.2.2.2.2 (w32 (x4 + 2)).toNat) (G.2.2.2.2.2.2.2 (w32 (x4 + 3)).toNat)) cal_X13_aims rfl ml_L_110 rfl rfl dec_L_law_22.1.2.1.2.1 (k_tag (tag := 0) rfl fun r94 s95 => ?_)
  refine V_icmp_eq (tgt := 2315) dec_L_law_22.1.2.1.2.2 (by decide) ?_ ?_
  · exact V_pick [0, 1, 2, 3, 4] rfl (L_law_b2315_s G l hl rk23 hk23 s95 x1 x2 x3 x4)
  · refine V_iconst dec_L_law_22.1.2.2.1 rfl ?_
    exact V_lawret rfl dec_L_law_22.1.2.2.2.1
def L_law_b1018 (sc : Nat × (Nat → Int)) (rk23 : St → Int → Int → Int → Int → Rs) (s : St) (x1 x2 x3 x4 : Int) : Rs :=
  grd (0 ≤ (w32 (x4 + 1)) ∧ (w32 (x4 + 1)) < (sc.1 : Int)) (grd (0 ≤ (w32 (x4 + 2)) ∧ (w32 (x4 + 2)) < (sc.1 : Int)) (grd (isK s 21 x1) (bnd (X11_mirrorFor s x1 (sc.2 (w32 (x4 + 1)).toNat) (sc.2 (w32 (x4 + 2)).toNat)) (fun r96 s97 => grd (0 ≤ (w32 (x4 + 1)) ∧ (w32 (x4 + 1)) < (sc.1 : Int)) (grd (0 ≤ (w32 (x4 + 2)) ∧ (w32 (x4 + 2)) < (sc.1 : Int)) (grd (isK s97 23 x2) (bnd (X13_mirrorFor s97 x2 (sc.2 (w32 (x4 + 1)).toNat) (sc.2 (w32 (x4 + 2)).toNat)) (fun r98 s99 => if r96 = r98 then (L_law_b2315 sc rk23 s99 x1 x2 x3 x4) else (grd ((0 : Int) = 1) (some (0, s99)))))))))))
set_option maxRecDepth 100000 in
set_option maxHeartbeats 4000000 in
theorem L_law_b1018_s (G : Gx) (l : Launch) (hl : l.stackTraces = false) (rk23 : St → Int → Int → Int → Int → Rs) (hk23 : ∀ (s : St) (x1 x2 x3 x4 : Int), VQ (QLaw G) G l mL_law 23 [(0, (2, 1002000)), (1, (2, x1)), (2, (2, x2)), (3, (2, x3)), (4, (0, x4))] [] s (rk23 s x1 x2 x3 x4)) (s : St) (x1 x2 x3 x4 : Int) : VQ (QLaw G) G l mL_law 1018 [(0, (2, 1002000)), (1, (2, x1)), (2, (2, x2)), (3, (2, x3)), (4, (0, x4))] [] s (L_law_b1018 G.2.2.2.2.2.2 rk23 s x1 x2 x3 x4) := by
  unfold L_law_b1018
  refine V_aload_n dec_L_law_22.1.2.2.2.2 1 rfl ?_
  refine V_aload_n dec_L_law_22.2.1.1.1 0 rfl ?_
  refine V_iload dec_L_law_22.2.1.1.2.1 4 rfl ?_
  refine V_iconst dec_L_law_22.2.1.1.2.2 rfl ?_
  refine V_iadd dec_L_law_22.2.1.2.1 ?_
  refine V_sald dec_L_law_22.2.1.2.2.1 ?_
  refine V_aload_n dec_L_law_22.2.1.2.2.2 0 rfl ?_
  refine V_iload dec_L_law_22.2.2.1.1 4 rfl ?_
  refine V_iconst dec_L_law_22.2.2.1.2.1 rfl ?_
  refine V_iadd dec_L_law_22.2.2.1.2.2 ?_
  refine V_sald dec_L_law_22.2.2.2.1 ?_
  refine V_callV0 (ci := 11) (a := x1) (As := [(0, (G.2.2.2.2.2.2.2 (w32 (x4 + 1)).toNat)), (0, (G.2.2.2.2.2.2.2 (w32 (x4 + 2)).toNat))]) (st := []) rfl rfl (X11_mirrorFor_s G l s x1 (G.2.2.2.2.2.2.2 (w32 (x4 + 1)).toNat) (G.2.2.2.2.2.2.2 (w32 (x4 + 2)).toNat)) cal_X11_mirrorFor rfl ml_L_111 rfl rfl dec_L_law_22.2.2.2.2.1 (k_tag (tag := 0) rfl fun r96 s97 => ?_)
  refine V_aload_n dec_L_law_22.2.2.2.2.2 2 rfl ?_
  refine V_aload_n dec_L_law_23.1.1.1.1 0 rfl ?_
  refine V_iload dec_L_law_23.1.1.1.2.1 4 rfl ?_
  refine V_iconst dec_L_law_23.1.1.1.2.2 rfl ?_
  refine V_iadd dec_L_law_23.1.1.2.1 ?_
  refine V_sald dec_L_law_23.1.1.2.2.1 ?_
  refine V_aload_n dec_L_law_23.1.1.2.2.2 0 rfl ?_
  refine V_iload dec_L_law_23.1.2.1.1 4 rfl ?_
  refine V_iconst dec_L_law_23.1.2.1.2.1 rfl ?_
  refine V_iadd dec_L_law_23.1.2.1.2.2 ?_
  refine V_sald dec_L_law_23.1.2.2.1 ?_
  refine V_callV0 (ci := 13) (a := x2) (As := [(0, (G.2.2.2.2.2.2.2 (w32 (x4 + 1)).toNat)), (0, (G.2.2.2.2.2.2.2 (w32 (x4 + 2)).toNat))]) (st := [(0, r96)]) rfl rfl (X13_mirrorFor_s G l s97 x2 (G.2.2.2.2.2.2.2 (w32 (x4 + 1)).toNat) (G.2.2.2.2.2.2.2 (w32 (x4 + 2)).toNat)) cal_X13_mirrorFor rfl ml_L_114 rfl rfl dec_L_law_23.1.2.2.2.1 (k_tag (tag := 0) rfl fun r98 s99 => ?_)
  refine V_icmp_eq (tgt := 2315) dec_L_law_23.1.2.2.2.2 (by decide) ?_ ?_
  · exact V_pick [0, 1, 2, 3, 4] rfl (L_law_b2315_s G l hl rk23 hk23 s99 x1 x2 x3 x4)
  · refine V_iconst dec_L_law_23.2.1.1.1 rfl ?_
    exact V_lawret rfl dec_L_law_23.2.1.1.2.1
def L_law_b1055 (sc : Nat × (Nat → Int)) (rk23 : St → Int → Int → Int → Int → Rs) (s : St) (x1 x2 x3 x4 : Int) : Rs :=
  grd (0 ≤ (w32 (x4 + 1)) ∧ (w32 (x4 + 1)) < (sc.1 : Int)) (grd (isK s 21 x1) (bnd (X11_mirrorBest s x1 (sc.2 (w32 (x4 + 1)).toNat)) (fun r100 s101 => grd (0 ≤ (w32 (x4 + 1)) ∧ (w32 (x4 + 1)) < (sc.1 : Int)) (grd (isK s101 23 x2) (bnd (X13_mirrorBest s101 x2 (sc.2 (w32 (x4 + 1)).toNat)) (fun r102 s103 => if r100 = r102 then (L_law_b2315 sc rk23 s103 x1 x2 x3 x4) else (grd ((0 : Int) = 1) (some (0, s103)))))))))
set_option maxRecDepth 100000 in
set_option maxHeartbeats 4000000 in
theorem L_law_b1055_s (G : Gx) (l : Launch) (hl : l.stackTraces = false) (rk23 : St → Int → Int → Int → Int → Rs) (hk23 : ∀ (s : St) (x1 x2 x3 x4 : Int), VQ (QLaw G) G l mL_law 23 [(0, (2, 1002000)), (1, (2, x1)), (2, (2, x2)), (3, (2, x3)), (4, (0, x4))] [] s (rk23 s x1 x2 x3 x4)) (s : St) (x1 x2 x3 x4 : Int) : VQ (QLaw G) G l mL_law 1055 [(0, (2, 1002000)), (1, (2, x1)), (2, (2, x2)), (3, (2, x3)), (4, (0, x4))] [] s (L_law_b1055 G.2.2.2.2.2.2 rk23 s x1 x2 x3 x4) := by
  unfold L_law_b1055
  refine V_aload_n dec_L_law_23.2.1.1.2.2 1 rfl ?_
  refine V_aload_n dec_L_law_23.2.1.2.1 0 rfl ?_
  refine V_iload dec_L_law_23.2.1.2.2.1 4 rfl ?_
  refine V_iconst dec_L_law_23.2.1.2.2.2 rfl ?_
  refine V_iadd dec_L_law_23.2.2.1.1 ?_
  refine V_sald dec_L_law_23.2.2.1.2.1 ?_
  refine V_callV0 (ci := 11) (a := x1) (As := [(0, (G.2.2.2.2.2.2.2 (w32 (x4 + 1)).toNat))]) (st := []) rfl rfl (X11_mirrorBest_s G l s x1 (G.2.2.2.2.2.2.2 (w32 (x4 + 1)).toNat)) cal_X11_mirrorBest rfl ml_L_115 rfl rfl dec_L_law_23.2.2.1.2.2 (k_tag (tag := 0) rfl fun r100 s101 => ?_)
  refine V_aload_n dec_L_law_23.2.2.2.1 2 rfl ?_
  refine V_aload_n dec_L_law_23.2.2.2.2.1 0 rfl ?_
  refine V_iload dec_L_law_23.2.2.2.2.2 4 rfl ?_
  refine V_iconst dec_L_law_24.1.1.1.1 rfl ?_
  refine V_iadd dec_L_law_24.1.1.1.2.1 ?_
  refine V_sald dec_L_law_24.1.1.1.2.2 ?_
  refine V_callV0 (ci := 13) (a := x2) (As := [(0, (G.2.2.2.2.2.2.2 (w32 (x4 + 1)).toNat))]) (st := [(0, r100)]) rfl rfl (X13_mirrorBest_s G l s101 x2 (G.2.2.2.2.2.2.2 (w32 (x4 + 1)).toNat)) cal_X13_mirrorBest rfl ml_L_118 rfl rfl dec_L_law_24.1.1.2.1 (k_tag (tag := 0) rfl fun r102 s103 => ?_)
  refine V_icmp_eq (tgt := 2315) dec_L_law_24.1.1.2.2.1 (by decide) ?_ ?_
  · exact V_pick [0, 1, 2, 3, 4] rfl (L_law_b2315_s G l hl rk23 hk23 s103 x1 x2 x3 x4)
  · refine V_iconst dec_L_law_24.1.1.2.2.2 rfl ?_
    exact V_lawret rfl dec_L_law_24.1.2.1.1
def L_law_b1080 (sc : Nat × (Nat → Int)) (rk23 : St → Int → Int → Int → Int → Rs) (s : St) (x1 x2 x3 x4 : Int) : Rs :=
  grd (0 ≤ (w32 (x4 + 1)) ∧ (w32 (x4 + 1)) < (sc.1 : Int)) (grd (0 ≤ (w32 (x4 + 2)) ∧ (w32 (x4 + 2)) < (sc.1 : Int)) (grd (isK s 21 x1) (bnd (X11_slipFor s x1 (sc.2 (w32 (x4 + 1)).toNat) (sc.2 (w32 (x4 + 2)).toNat)) (fun r104 s105 => grd (0 ≤ (w32 (x4 + 1)) ∧ (w32 (x4 + 1)) < (sc.1 : Int)) (grd (0 ≤ (w32 (x4 + 2)) ∧ (w32 (x4 + 2)) < (sc.1 : Int)) (grd (isK s105 23 x2) (bnd (X13_slipFor s105 x2 (sc.2 (w32 (x4 + 1)).toNat) (sc.2 (w32 (x4 + 2)).toNat)) (fun r106 s107 => if r104 = r106 then (L_law_b2315 sc rk23 s107 x1 x2 x3 x4) else (grd ((0 : Int) = 1) (some (0, s107)))))))))))
set_option maxRecDepth 100000 in
set_option maxHeartbeats 4000000 in
theorem L_law_b1080_s (G : Gx) (l : Launch) (hl : l.stackTraces = false) (rk23 : St → Int → Int → Int → Int → Rs) (hk23 : ∀ (s : St) (x1 x2 x3 x4 : Int), VQ (QLaw G) G l mL_law 23 [(0, (2, 1002000)), (1, (2, x1)), (2, (2, x2)), (3, (2, x3)), (4, (0, x4))] [] s (rk23 s x1 x2 x3 x4)) (s : St) (x1 x2 x3 x4 : Int) : VQ (QLaw G) G l mL_law 1080 [(0, (2, 1002000)), (1, (2, x1)), (2, (2, x2)), (3, (2, x3)), (4, (0, x4))] [] s (L_law_b1080 G.2.2.2.2.2.2 rk23 s x1 x2 x3 x4) := by
  unfold L_law_b1080
  refine V_aload_n dec_L_law_24.1.2.1.2.1 1 rfl ?_
  refine V_aload_n dec_L_law_24.1.2.1.2.2 0 rfl ?_
  refine V_iload dec_L_law_24.1.2.2.1 4 rfl ?_
  refine V_iconst dec_L_law_24.1.2.2.2.1 rfl ?_
  refine V_iadd dec_L_law_24.1.2.2.2.2 ?_
  refine V_sald dec_L_law_24.2.1.1.1 ?_
  refine V_aload_n dec_L_law_24.2.1.1.2.1 0 rfl ?_
  refine V_iload dec_L_law_24.2.1.1.2.2 4 rfl ?_
  refine V_iconst dec_L_law_24.2.1.2.1 rfl ?_
  refine V_iadd dec_L_law_24.2.1.2.2.1 ?_
  refine V_sald dec_L_law_24.2.1.2.2.2 ?_
  refine V_callV0 (ci := 11) (a := x1) (As := [(0, (G.2.2.2.2.2.2.2 (w32 (x4 + 1)).toNat)), (0, (G.2.2.2.2.2.2.2 (w32 (x4 + 2)).toNat))]) (st := []) rfl rfl (X11_slipFor_s G l s x1 (G.2.2.2.2.2.2.2 (w32 (x4 + 1)).toNat) (G.2.2.2.2.2.2.2 (w32 (x4 + 2)).toNat)) cal_X11_slipFor rfl ml_L_119 rfl rfl dec_L_law_24.2.2.1.1 (k_tag (tag := 0) rfl fun r104 s105 => ?_)
  refine V_aload_n dec_L_law_24.2.2.1.2.1 2 rfl ?_
  refine V_aload_n dec_L_law_24.2.2.1.2.2 0 rfl ?_
  refine V_iload dec_L_law_24.2.2.2.1 4 rfl ?_
  refine V_iconst dec_L_law_24.2.2.2.2.1 rfl ?_
  refine V_iadd dec_L_law_24.2.2.2.2.2 ?_
  refine V_sald dec_L_law_25.1.1.1.1 ?_
  refine V_aload_n dec_L_law_25.1.1.1.2.1 0 rfl ?_
  refine V_iload dec_L_law_25.1.1.1.2.2 4 rfl ?_
  refine V_iconst dec_L_law_25.1.1.2.1 rfl ?_
  refine V_iadd dec_L_law_25.1.1.2.2.1 ?_
  refine V_sald dec_L_law_25.1.1.2.2.2 ?_
  refine V_callV0 (ci := 13) (a := x2) (As := [(0, (G.2.2.2.2.2.2.2 (w32 (x4 + 1)).toNat)), (0, (G.2.2.2.2.2.2.2 (w32 (x4 + 2)).toNat))]) (st := [(0, r104)]) rfl rfl (X13_slipFor_s G l s105 x2 (G.2.2.2.2.2.2.2 (w32 (x4 + 1)).toNat) (G.2.2.2.2.2.2.2 (w32 (x4 + 2)).toNat)) cal_X13_slipFor rfl ml_L_122 rfl rfl dec_L_law_25.1.2.1.1 (k_tag (tag := 0) rfl fun r106 s107 => ?_)
  refine V_icmp_eq (tgt := 2315) dec_L_law_25.1.2.1.2.1 (by decide) ?_ ?_
  · exact V_pick [0, 1, 2, 3, 4] rfl (L_law_b2315_s G l hl rk23 hk23 s107 x1 x2 x3 x4)
  · refine V_iconst dec_L_law_25.1.2.1.2.2 rfl ?_
    exact V_lawret rfl dec_L_law_25.1.2.2.1
def L_law_b1117 (sc : Nat × (Nat → Int)) (rk23 : St → Int → Int → Int → Int → Rs) (s : St) (x1 x2 x3 x4 : Int) : Rs :=
  grd (0 ≤ (w32 (x4 + 1)) ∧ (w32 (x4 + 1)) < (sc.1 : Int)) (grd (isK s 21 x1) (bnd (X11_seat s x1 (sc.2 (w32 (x4 + 1)).toNat)) (fun r108 s109 => grd (0 ≤ (w32 (x4 + 1)) ∧ (w32 (x4 + 1)) < (sc.1 : Int)) (grd (isK s109 23 x2) (bnd (X13_seat s109 x2 (sc.2 (w32 (x4 + 1)).toNat)) (fun r110 s111 => if r108 = r110 then (L_law_b2315 sc rk23 s111 x1 x2 x3 x4) else (grd ((0 : Int) = 1) (some (0, s111)))))))))
set_option maxRecDepth 100000 in
set_option maxHeartbeats 4000000 in
theorem L_law_b1117_s (G : Gx) (l : Launch) (hl : l.stackTraces = false) (rk23 : St → Int → Int → Int → Int → Rs) (hk23 : ∀ (s : St) (x1 x2 x3 x4 : Int), VQ (QLaw G) G l mL_law 23 [(0, (2, 1002000)), (1, (2, x1)), (2, (2, x2)), (3, (2, x3)), (4, (0, x4))] [] s (rk23 s x1 x2 x3 x4)) (s : St) (x1 x2 x3 x4 : Int) : VQ (QLaw G) G l mL_law 1117 [(0, (2, 1002000)), (1, (2, x1)), (2, (2, x2)), (3, (2, x3)), (4, (0, x4))] [] s (L_law_b1117 G.2.2.2.2.2.2 rk23 s x1 x2 x3 x4) := by
  unfold L_law_b1117
  refine V_aload_n dec_L_law_25.1.2.2.2.1 1 rfl ?_
  refine V_aload_n dec_L_law_25.1.2.2.2.2 0 rfl ?_
  refine V_iload dec_L_law_25.2.1.1.1 4 rfl ?_
  refine V_iconst dec_L_law_25.2.1.1.2.1 rfl ?_
  refine V_iadd dec_L_law_25.2.1.1.2.2 ?_
  refine V_sald dec_L_law_25.2.1.2.1 ?_
  refine V_callV0 (ci := 11) (a := x1) (As := [(0, (G.2.2.2.2.2.2.2 (w32 (x4 + 1)).toNat))]) (st := []) rfl rfl (X11_seat_s G l s x1 (G.2.2.2.2.2.2.2 (w32 (x4 + 1)).toNat)) cal_X11_seat rfl ml_L_123 rfl rfl dec_L_law_25.2.1.2.2.1 (k_tag (tag := 0) rfl fun r108 s109 => ?_)
  refine V_aload_n dec_L_law_25.2.1.2.2.2 2 rfl ?_
  refine V_aload_n dec_L_law_25.2.2.1.1 0 rfl ?_
  refine V_iload dec_L_law_25.2.2.1.2.1 4 rfl ?_
  refine V_iconst dec_L_law_25.2.2.1.2.2 rfl ?_
  refine V_iadd dec_L_law_25.2.2.2.1 ?_
  refine V_sald dec_L_law_25.2.2.2.2.1 ?_
  refine V_callV0 (ci := 13) (a := x2) (As := [(0, (G.2.2.2.2.2.2.2 (w32 (x4 + 1)).toNat))]) (st := [(0, r108)]) rfl rfl (X13_seat_s G l s109 x2 (G.2.2.2.2.2.2.2 (w32 (x4 + 1)).toNat)) cal_X13_seat rfl ml_L_126 rfl rfl dec_L_law_25.2.2.2.2.2 (k_tag (tag := 0) rfl fun r110 s111 => ?_)
  refine V_icmp_eq (tgt := 2315) dec_L_law_26.1.1.1.1 (by decide) ?_ ?_
  · exact V_pick [0, 1, 2, 3, 4] rfl (L_law_b2315_s G l hl rk23 hk23 s111 x1 x2 x3 x4)
  · refine V_iconst dec_L_law_26.1.1.1.2.1 rfl ?_
    exact V_lawret rfl dec_L_law_26.1.1.1.2.2
def L_law_b1142 (sc : Nat × (Nat → Int)) (rk23 : St → Int → Int → Int → Int → Rs) (s : St) (x1 x2 x3 x4 : Int) : Rs :=
  grd (0 ≤ (w32 (x4 + 1)) ∧ (w32 (x4 + 1)) < (sc.1 : Int)) (grd (0 ≤ (w32 (x4 + 2)) ∧ (w32 (x4 + 2)) < (sc.1 : Int)) (grd (isK s 21 x1) (bnd (X11_seatAt s x1 (sc.2 (w32 (x4 + 1)).toNat) (sc.2 (w32 (x4 + 2)).toNat)) (fun r112 s113 => grd (0 ≤ (w32 (x4 + 1)) ∧ (w32 (x4 + 1)) < (sc.1 : Int)) (grd (0 ≤ (w32 (x4 + 2)) ∧ (w32 (x4 + 2)) < (sc.1 : Int)) (grd (isK s113 23 x2) (bnd (X13_seatAt s113 x2 (sc.2 (w32 (x4 + 1)).toNat) (sc.2 (w32 (x4 + 2)).toNat)) (fun r114 s115 => if r112 = r114 then (L_law_b2315 sc rk23 s115 x1 x2 x3 x4) else (grd ((0 : Int) = 1) (some (0, s115)))))))))))
set_option maxRecDepth 100000 in
set_option maxHeartbeats 4000000 in
theorem L_law_b1142_s (G : Gx) (l : Launch) (hl : l.stackTraces = false) (rk23 : St → Int → Int → Int → Int → Rs) (hk23 : ∀ (s : St) (x1 x2 x3 x4 : Int), VQ (QLaw G) G l mL_law 23 [(0, (2, 1002000)), (1, (2, x1)), (2, (2, x2)), (3, (2, x3)), (4, (0, x4))] [] s (rk23 s x1 x2 x3 x4)) (s : St) (x1 x2 x3 x4 : Int) : VQ (QLaw G) G l mL_law 1142 [(0, (2, 1002000)), (1, (2, x1)), (2, (2, x2)), (3, (2, x3)), (4, (0, x4))] [] s (L_law_b1142 G.2.2.2.2.2.2 rk23 s x1 x2 x3 x4) := by
  unfold L_law_b1142
  refine V_aload_n dec_L_law_26.1.1.2.1 1 rfl ?_
  refine V_aload_n dec_L_law_26.1.1.2.2.1 0 rfl ?_
  refine V_iload dec_L_law_26.1.1.2.2.2 4 rfl ?_
  refine V_iconst dec_L_law_26.1.2.1.1 rfl ?_
  refine V_iadd dec_L_law_26.1.2.1.2.1 ?_
  refine V_sald dec_L_law_26.1.2.1.2.2 ?_
  refine V_aload_n dec_L_law_26.1.2.2.1 0 rfl ?_
  refine V_iload dec_L_law_26.1.2.2.2.1 4 rfl ?_
  refine V_iconst dec_L_law_26.1.2.2.2.2 rfl ?_
  refine V_iadd dec_L_law_26.2.1.1.1 ?_
  refine V_sald dec_L_law_26.2.1.1.2.1 ?_
  refine V_callV0 (ci := 11) (a := x1) (As := [(0, (G.2.2.2.2.2.2.2 (w32 (x4 + 1)).toNat)), (0, (G.2.2.2.2.2.2.2 (w32 (x4 + 2)).toNat))]) (st := []) rfl rfl (X11_seatAt_s G l s x1 (G.2.2.2.2.2.2.2 (w32 (x4 + 1)).toNat) (G.2.2.2.2.2.2.2 (w32 (x4 + 2)).toNat)) cal_X11_seatAt rfl ml_L_127 rfl rfl dec_L_law_26.2.1.1.2.2 (k_tag (tag := 0) rfl fun r112 s113 => ?_)
  refine V_aload_n dec_L_law_26.2.1.2.1 2 rfl ?_
  refine V_aload_n dec_L_law_26.2.1.2.2.1 0 rfl ?_
  refine V_iload dec_L_law_26.2.1.2.2.2 4 rfl ?_
  refine V_iconst dec_L_law_26.2.2.1.1 rfl ?_
  refine V_iadd dec_L_law_26.2.2.1.2.1 ?_
  refine V_sald dec_L_law_26.2.2.1.2.2 ?_
  refine V_aload_n dec_L_law_26.2.2.2.1 0 rfl ?_
  refine V_iload dec_L_law_26.2.2.2.2.1 4 rfl ?_
  refine V_iconst dec_L_law_26.2.2.2.2.2 rfl ?_
  refine V_iadd dec_L_law_27.1.1.1.1 ?_
  refine V_sald dec_L_law_27.1.1.1.2.1 ?_
  refine V_callV0 (ci := 13) (a := x2) (As := [(0, (G.2.2.2.2.2.2.2 (w32 (x4 + 1)).toNat)), (0, (G.2.2.2.2.2.2.2 (w32 (x4 + 2)).toNat))]) (st := [(0, r112)]) rfl rfl (X13_seatAt_s G l s113 x2 (G.2.2.2.2.2.2.2 (w32 (x4 + 1)).toNat) (G.2.2.2.2.2.2.2 (w32 (x4 + 2)).toNat)) cal_X13_seatAt rfl ml_L_130 rfl rfl dec_L_law_27.1.1.1.2.2 (k_tag (tag := 0) rfl fun r114 s115 => ?_)
  refine V_icmp_eq (tgt := 2315) dec_L_law_27.1.1.2.1 (by decide) ?_ ?_
  · exact V_pick [0, 1, 2, 3, 4] rfl (L_law_b2315_s G l hl rk23 hk23 s115 x1 x2 x3 x4)
  · refine V_iconst dec_L_law_27.1.1.2.2.1 rfl ?_
    exact V_lawret rfl dec_L_law_27.1.1.2.2.2
def L_law_b1179 (sc : Nat × (Nat → Int)) (rk23 : St → Int → Int → Int → Int → Rs) (s : St) (x1 x2 x3 x4 : Int) : Rs :=
  grd (0 ≤ (w32 (x4 + 1)) ∧ (w32 (x4 + 1)) < (sc.1 : Int)) (grd (0 ≤ (w32 (x4 + 2)) ∧ (w32 (x4 + 2)) < (sc.1 : Int)) (grd (0 ≤ (w32 (x4 + 3)) ∧ (w32 (x4 + 3)) < (sc.1 : Int)) (grd (isK s 21 x1) (bnd (X11_likes s x1 (sc.2 (w32 (x4 + 1)).toNat) (sc.2 (w32 (x4 + 2)).toNat) (sc.2 (w32 (x4 + 3)).toNat)) (fun r116 s117 => grd (0 ≤ (w32 (x4 + 1)) ∧ (w32 (x4 + 1)) < (sc.1 : Int)) (grd (0 ≤ (w32 (x4 + 2)) ∧ (w32 (x4 + 2)) < (sc.1 : Int)) (grd (0 ≤ (w32 (x4 + 3)) ∧ (w32 (x4 + 3)) < (sc.1 : Int)) (grd (isK s117 23 x2) (bnd (X13_likes s117 x2 (sc.2 (w32 (x4 + 1)).toNat) (sc.2 (w32 (x4 + 2)).toNat) (sc.2 (w32 (x4 + 3)).toNat)) (fun r118 s119 => if r116 = r118 then (L_law_b2315 sc rk23 s119 x1 x2 x3 x4) else (grd ((0 : Int) = 1) (some (0, s119)))))))))))))
set_option maxRecDepth 100000 in
set_option maxHeartbeats 4000000 in
theorem L_law_b1179_s (G : Gx) (l : Launch) (hl : l.stackTraces = false) (rk23 : St → Int → Int → Int → Int → Rs) (hk23 : ∀ (s : St) (x1 x2 x3 x4 : Int), VQ (QLaw G) G l mL_law 23 [(0, (2, 1002000)), (1, (2, x1)), (2, (2, x2)), (3, (2, x3)), (4, (0, x4))] [] s (rk23 s x1 x2 x3 x4)) (s : St) (x1 x2 x3 x4 : Int) : VQ (QLaw G) G l mL_law 1179 [(0, (2, 1002000)), (1, (2, x1)), (2, (2, x2)), (3, (2, x3)), (4, (0, x4))] [] s (L_law_b1179 G.2.2.2.2.2.2 rk23 s x1 x2 x3 x4) := by
  unfold L_law_b1179
  refine V_aload_n dec_L_law_27.1.2.1.1 1 rfl ?_
  refine V_aload_n dec_L_law_27.1.2.1.2.1 0 rfl ?_
  refine V_iload dec_L_law_27.1.2.1.2.2 4 rfl ?_
  refine V_iconst dec_L_law_27.1.2.2.1 rfl ?_
  refine V_iadd dec_L_law_27.1.2.2.2.1 ?_
  refine V_sald dec_L_law_27.1.2.2.2.2 ?_
  refine V_aload_n dec_L_law_27.2.1.1.1 0 rfl ?_
  refine V_iload dec_L_law_27.2.1.1.2.1 4 rfl ?_
  refine V_iconst dec_L_law_27.2.1.1.2.2 rfl ?_
  refine V_iadd dec_L_law_27.2.1.2.1 ?_
  refine V_sald dec_L_law_27.2.1.2.2.1 ?_
  refine V_aload_n dec_L_law_27.2.1.2.2.2 0 rfl ?_
  refine V_iload dec_L_law_27.2.2.1.1 4 rfl ?_
  refine V_iconst dec_L_law_27.2.2.1.2.1 rfl ?_
  refine V_iadd dec_L_law_27.2.2.1.2.2 ?_
  refine V_sald dec_L_law_27.2.2.2.1 ?_
  refine V_callV0 (ci := 11) (a := x1) (As := [(0, (G.2.2.2.2.2.2.2 (w32 (x4 + 1)).toNat)), (0, (G.2.2.2.2.2.2.2 (w32 (x4 + 2)).toNat)), (0, (G.2.2.2.2.2.2.2 (w32 (x4 + 3)).toNat))]) (st := []) rfl rfl (X11_likes_s G l s x1 (G.2.2.2.2.2.2.2 (w32 (x4 + 1)).toNat) (G.2.2.2.2.2.2.2 (w32 (x4 + 2)).toNat) (G.2.2.2.2.2.2.2 (w32 (x4 + 3)).toNat)) cal_X11_likes rfl ml_L_131 rfl rfl dec_L_law_27.2.2.2.2.1 (k_tag (tag := 0) rfl fun r116 s117 => ?_)
  refine V_aload_n dec_L_law_27.2.2.2.2.2 2 rfl ?_
  refine V_aload_n dec_L_law_28.1.1.1.1 0 rfl ?_
  refine V_iload dec_L_law_28.1.1.1.2.1 4 rfl ?_
  refine V_iconst dec_L_law_28.1.1.1.2.2 rfl ?_
  refine V_iadd dec_L_law_28.1.1.2.1 ?_
  refine V_sald dec_L_law_28.1.1.2.2.1 ?_
  refine V_aload_n dec_L_law_28.1.1.2.2.2 0 rfl ?_
  refine V_iload dec_L_law_28.1.2.1.1 4 rfl ?_
  refine V_iconst dec_L_law_28.1.2.1.2.1 rfl ?_
  refine V_iadd dec_L_law_28.1.2.1.2.2 ?_
  refine V_sald dec_L_law_28.1.2.2.1 ?_
  refine V_aload_n dec_L_law_28.1.2.2.2.1 0 rfl ?_
  refine V_iload dec_L_law_28.1.2.2.2.2 4 rfl ?_
  refine V_iconst dec_L_law_28.2.1.1.1 rfl ?_
  refine V_iadd dec_L_law_28.2.1.1.2.1 ?_
  refine V_sald dec_L_law_28.2.1.1.2.2 ?_
  refine V_callV0 (ci := 13) (a := x2) (As := [(0, (G.2.2.2.2.2.2.2 (w32 (x4 + 1)).toNat)), (0, (G.2.2.2.2.2.2.2 (w32 (x4 + 2)).toNat)), (0, (G.2.2.2.2.2.2.2 (w32 (x4 + 3)).toNat))]) (st := [(0, r116)]) rfl rfl (X13_likes_s G l s117 x2 (G.2.2.2.2.2.2.2 (w32 (x4 + 1)).toNat) (G.2.2.2.2.2.2.2 (w32 (x4 + 2)).toNat) (G.2.2.2.2.2.2.2 (w32 (x4 + 3)).toNat)) cal_X13_likes rfl ml_L_134 rfl rfl dec_L_law_28.2.1.2.1 (k_tag (tag := 0) rfl fun r118 s119 => ?_)
  refine V_icmp_eq (tgt := 2315) dec_L_law_28.2.1.2.2.1 (by decide) ?_ ?_
  · exact V_pick [0, 1, 2, 3, 4] rfl (L_law_b2315_s G l hl rk23 hk23 s119 x1 x2 x3 x4)
  · refine V_iconst dec_L_law_28.2.1.2.2.2 rfl ?_
    exact V_lawret rfl dec_L_law_28.2.2.1.1
def L_law_b1228 (sc : Nat × (Nat → Int)) (rk23 : St → Int → Int → Int → Int → Rs) (s : St) (x1 x2 x3 x4 : Int) : Rs :=
  grd (0 ≤ (w32 (x4 + 1)) ∧ (w32 (x4 + 1)) < (sc.1 : Int)) (grd (isK s 21 x1) (bnd (X11_restless s x1 (sc.2 (w32 (x4 + 1)).toNat)) (fun r120 s121 => grd (0 ≤ (w32 (x4 + 1)) ∧ (w32 (x4 + 1)) < (sc.1 : Int)) (grd (isK s121 23 x2) (bnd (X13_restless s121 x2 (sc.2 (w32 (x4 + 1)).toNat)) (fun r122 s123 => if r120 = r122 then (L_law_b2315 sc rk23 s123 x1 x2 x3 x4) else (grd ((0 : Int) = 1) (some (0, s123)))))))))
set_option maxRecDepth 100000 in
set_option maxHeartbeats 4000000 in
theorem L_law_b1228_s (G : Gx) (l : Launch) (hl : l.stackTraces = false) (rk23 : St → Int → Int → Int → Int → Rs) (hk23 : ∀ (s : St) (x1 x2 x3 x4 : Int), VQ (QLaw G) G l mL_law 23 [(0, (2, 1002000)), (1, (2, x1)), (2, (2, x2)), (3, (2, x3)), (4, (0, x4))] [] s (rk23 s x1 x2 x3 x4)) (s : St) (x1 x2 x3 x4 : Int) : VQ (QLaw G) G l mL_law 1228 [(0, (2, 1002000)), (1, (2, x1)), (2, (2, x2)), (3, (2, x3)), (4, (0, x4))] [] s (L_law_b1228 G.2.2.2.2.2.2 rk23 s x1 x2 x3 x4) := by
  unfold L_law_b1228
  refine V_aload_n dec_L_law_28.2.2.1.2.1 1 rfl ?_
  refine V_aload_n dec_L_law_28.2.2.1.2.2 0 rfl ?_
  refine V_iload dec_L_law_28.2.2.2.1 4 rfl ?_
  refine V_iconst dec_L_law_28.2.2.2.2.1 rfl ?_
  refine V_iadd dec_L_law_28.2.2.2.2.2 ?_
  refine V_sald dec_L_law_29.1.1.1.1 ?_
  refine V_callV0 (ci := 11) (a := x1) (As := [(0, (G.2.2.2.2.2.2.2 (w32 (x4 + 1)).toNat))]) (st := []) rfl rfl (X11_restless_s G l s x1 (G.2.2.2.2.2.2.2 (w32 (x4 + 1)).toNat)) cal_X11_restless rfl ml_L_135 rfl rfl dec_L_law_29.1.1.1.2.1 (k_tag (tag := 0) rfl fun r120 s121 => ?_)
  refine V_aload_n dec_L_law_29.1.1.1.2.2 2 rfl ?_
  refine V_aload_n dec_L_law_29.1.1.2.1 0 rfl ?_
  refine V_iload dec_L_law_29.1.1.2.2.1 4 rfl ?_
  refine V_iconst dec_L_law_29.1.1.2.2.2 rfl ?_
  refine V_iadd dec_L_law_29.1.2.1.1 ?_
  refine V_sald dec_L_law_29.1.2.1.2.1 ?_
  refine V_callV0 (ci := 13) (a := x2) (As := [(0, (G.2.2.2.2.2.2.2 (w32 (x4 + 1)).toNat))]) (st := [(0, r120)]) rfl rfl (X13_restless_s G l s121 x2 (G.2.2.2.2.2.2.2 (w32 (x4 + 1)).toNat)) cal_X13_restless rfl ml_L_138 rfl rfl dec_L_law_29.1.2.1.2.2 (k_tag (tag := 0) rfl fun r122 s123 => ?_)
  refine V_icmp_eq (tgt := 2315) dec_L_law_29.1.2.2.1 (by decide) ?_ ?_
  · exact V_pick [0, 1, 2, 3, 4] rfl (L_law_b2315_s G l hl rk23 hk23 s123 x1 x2 x3 x4)
  · refine V_iconst dec_L_law_29.1.2.2.2.1 rfl ?_
    exact V_lawret rfl dec_L_law_29.1.2.2.2.2
def L_law_b1253 (sc : Nat × (Nat → Int)) (rk23 : St → Int → Int → Int → Int → Rs) (s : St) (x1 x2 x3 x4 : Int) : Rs :=
  grd (0 ≤ (w32 (x4 + 1)) ∧ (w32 (x4 + 1)) < (sc.1 : Int)) (grd (0 ≤ (w32 (x4 + 2)) ∧ (w32 (x4 + 2)) < (sc.1 : Int)) (grd (isK s 21 x1) (bnd (X11_moveFor s x1 (sc.2 (w32 (x4 + 1)).toNat) (sc.2 (w32 (x4 + 2)).toNat)) (fun r124 s125 => grd (0 ≤ (w32 (x4 + 1)) ∧ (w32 (x4 + 1)) < (sc.1 : Int)) (grd (0 ≤ (w32 (x4 + 2)) ∧ (w32 (x4 + 2)) < (sc.1 : Int)) (grd (isK s125 23 x2) (bnd (X13_moveFor s125 x2 (sc.2 (w32 (x4 + 1)).toNat) (sc.2 (w32 (x4 + 2)).toNat)) (fun r126 s127 => if r124 = r126 then (L_law_b2315 sc rk23 s127 x1 x2 x3 x4) else (grd ((0 : Int) = 1) (some (0, s127)))))))))))
set_option maxRecDepth 100000 in
set_option maxHeartbeats 4000000 in
theorem L_law_b1253_s (G : Gx) (l : Launch) (hl : l.stackTraces = false) (rk23 : St → Int → Int → Int → Int → Rs) (hk23 : ∀ (s : St) (x1 x2 x3 x4 : Int), VQ (QLaw G) G l mL_law 23 [(0, (2, 1002000)), (1, (2, x1)), (2, (2, x2)), (3, (2, x3)), (4, (0, x4))] [] s (rk23 s x1 x2 x3 x4)) (s : St) (x1 x2 x3 x4 : Int) : VQ (QLaw G) G l mL_law 1253 [(0, (2, 1002000)), (1, (2, x1)), (2, (2, x2)), (3, (2, x3)), (4, (0, x4))] [] s (L_law_b1253 G.2.2.2.2.2.2 rk23 s x1 x2 x3 x4) := by
  unfold L_law_b1253
  refine V_aload_n dec_L_law_29.2.1.1.1 1 rfl ?_
  refine V_aload_n dec_L_law_29.2.1.1.2.1 0 rfl ?_
  refine V_iload dec_L_law_29.2.1.1.2.2 4 rfl ?_
  refine V_iconst dec_L_law_29.2.1.2.1 rfl ?_
  refine V_iadd dec_L_law_29.2.1.2.2.1 ?_
  refine V_sald dec_L_law_29.2.1.2.2.2 ?_
  refine V_aload_n dec_L_law_29.2.2.1.1 0 rfl ?_
  refine V_iload dec_L_law_29.2.2.1.2.1 4 rfl ?_
  refine V_iconst dec_L_law_29.2.2.1.2.2 rfl ?_
  refine V_iadd dec_L_law_29.2.2.2.1 ?_
  refine V_sald dec_L_law_29.2.2.2.2.1 ?_
  refine V_callV0 (ci := 11) (a := x1) (As := [(0, (G.2.2.2.2.2.2.2 (w32 (x4 + 1)).toNat)), (0, (G.2.2.2.2.2.2.2 (w32 (x4 + 2)).toNat))]) (st := []) rfl rfl (X11_moveFor_s G l s x1 (G.2.2.2.2.2.2.2 (w32 (x4 + 1)).toNat) (G.2.2.2.2.2.2.2 (w32 (x4 + 2)).toNat)) cal_X11_moveFor rfl ml_L_139 rfl rfl dec_L_law_29.2.2.2.2.2 (k_tag (tag := 0) rfl fun r124 s125 => ?_)
  refine V_aload_n dec_L_law_30.1.1.1.1 2 rfl ?_
  refine V_aload_n dec_L_law_30.1.1.1.2.1 0 rfl ?_
  refine V_iload dec_L_law_30.1.1.1.2.2 4 rfl ?_
  refine V_iconst dec_L_law_30.1.1.2.1 rfl ?_
  refine V_iadd dec_L_law_30.1.1.2.2.1 ?_
  refine V_sald dec_L_law_30.1.1.2.2.2 ?_
  refine V_aload_n dec_L_law_30.1.2.1.1 0 rfl ?_
  refine V_iload dec_L_law_30.1.2.1.2.1 4 rfl ?_
  refine V_iconst dec_L_law_30.1.2.1.2.2 rfl ?_
  refine V_iadd dec_L_law_30.1.2.2.1 ?_
  refine V_sald dec_L_law_30.1.2.2.2.1 ?_
  refine V_callV0 (ci := 13) (a := x2) (As := [(0, (G.2.2.2.2.2.2.2 (w32 (x4 + 1)).toNat)), (0, (G.2.2.2.2.2.2.2 (w32 (x4 + 2)).toNat))]) (st := [(0, r124)]) rfl rfl (X13_moveFor_s G l s125 x2 (G.2.2.2.2.2.2.2 (w32 (x4 + 1)).toNat) (G.2.2.2.2.2.2.2 (w32 (x4 + 2)).toNat)) cal_X13_moveFor rfl ml_L_142 rfl rfl dec_L_law_30.1.2.2.2.2 (k_tag (tag := 0) rfl fun r126 s127 => ?_)
  refine V_icmp_eq (tgt := 2315) dec_L_law_30.2.1.1.1 (by decide) ?_ ?_
  · exact V_pick [0, 1, 2, 3, 4] rfl (L_law_b2315_s G l hl rk23 hk23 s127 x1 x2 x3 x4)
  · refine V_iconst dec_L_law_30.2.1.1.2.1 rfl ?_
    exact V_lawret rfl dec_L_law_30.2.1.1.2.2
def L_law_b1290 (sc : Nat × (Nat → Int)) (rk23 : St → Int → Int → Int → Int → Rs) (s : St) (x1 x2 x3 x4 : Int) : Rs :=
  grd (0 ≤ (w32 (x4 + 1)) ∧ (w32 (x4 + 1)) < (sc.1 : Int)) (grd (0 ≤ (w32 (x4 + 2)) ∧ (w32 (x4 + 2)) < (sc.1 : Int)) (grd (isK s 21 x1) (bnd (X11_bring s x1 (sc.2 (w32 (x4 + 1)).toNat) (sc.2 (w32 (x4 + 2)).toNat)) (fun r128 s129 => grd (0 ≤ (w32 (x4 + 1)) ∧ (w32 (x4 + 1)) < (sc.1 : Int)) (grd (0 ≤ (w32 (x4 + 2)) ∧ (w32 (x4 + 2)) < (sc.1 : Int)) (grd (isK s129 23 x2) (bnd (X13_bring s129 x2 (sc.2 (w32 (x4 + 1)).toNat) (sc.2 (w32 (x4 + 2)).toNat)) (fun r130 s131 => if r128 = r130 then (L_law_b2315 sc rk23 s131 x1 x2 x3 x4) else (grd ((0 : Int) = 1) (some (0, s131)))))))))))
set_option maxRecDepth 100000 in
set_option maxHeartbeats 4000000 in
theorem L_law_b1290_s (G : Gx) (l : Launch) (hl : l.stackTraces = false) (rk23 : St → Int → Int → Int → Int → Rs) (hk23 : ∀ (s : St) (x1 x2 x3 x4 : Int), VQ (QLaw G) G l mL_law 23 [(0, (2, 1002000)), (1, (2, x1)), (2, (2, x2)), (3, (2, x3)), (4, (0, x4))] [] s (rk23 s x1 x2 x3 x4)) (s : St) (x1 x2 x3 x4 : Int) : VQ (QLaw G) G l mL_law 1290 [(0, (2, 1002000)), (1, (2, x1)), (2, (2, x2)), (3, (2, x3)), (4, (0, x4))] [] s (L_law_b1290 G.2.2.2.2.2.2 rk23 s x1 x2 x3 x4) := by
  unfold L_law_b1290
  refine V_aload_n dec_L_law_30.2.1.2.1 1 rfl ?_
  refine V_aload_n dec_L_law_30.2.1.2.2.1 0 rfl ?_
  refine V_iload dec_L_law_30.2.1.2.2.2 4 rfl ?_
  refine V_iconst dec_L_law_30.2.2.1.1 rfl ?_
  refine V_iadd dec_L_law_30.2.2.1.2.1 ?_
  refine V_sald dec_L_law_30.2.2.1.2.2 ?_
  refine V_aload_n dec_L_law_30.2.2.2.1 0 rfl ?_
  refine V_iload dec_L_law_30.2.2.2.2.1 4 rfl ?_
  refine V_iconst dec_L_law_30.2.2.2.2.2 rfl ?_
  refine V_iadd dec_L_law_31.1.1.1.1 ?_
  refine V_sald dec_L_law_31.1.1.1.2.1 ?_
  refine V_callV0 (ci := 11) (a := x1) (As := [(0, (G.2.2.2.2.2.2.2 (w32 (x4 + 1)).toNat)), (0, (G.2.2.2.2.2.2.2 (w32 (x4 + 2)).toNat))]) (st := []) rfl rfl (X11_bring_s G l s x1 (G.2.2.2.2.2.2.2 (w32 (x4 + 1)).toNat) (G.2.2.2.2.2.2.2 (w32 (x4 + 2)).toNat)) cal_X11_bring rfl ml_L_143 rfl rfl dec_L_law_31.1.1.1.2.2 (k_tag (tag := 0) rfl fun r128 s129 => ?_)
  refine V_aload_n dec_L_law_31.1.1.2.1 2 rfl ?_
  refine V_aload_n dec_L_law_31.1.1.2.2.1 0 rfl ?_
  refine V_iload dec_L_law_31.1.1.2.2.2 4 rfl ?_
  refine V_iconst dec_L_law_31.1.2.1.1 rfl ?_
  refine V_iadd dec_L_law_31.1.2.1.2.1 ?_
  refine V_sald dec_L_law_31.1.2.1.2.2 ?_
  refine V_aload_n dec_L_law_31.1.2.2.1 0 rfl ?_
  refine V_iload dec_L_law_31.1.2.2.2.1 4 rfl ?_
  refine V_iconst dec_L_law_31.1.2.2.2.2 rfl ?_
  refine V_iadd dec_L_law_31.2.1.1.1 ?_
  refine V_sald dec_L_law_31.2.1.1.2.1 ?_
  refine V_callV0 (ci := 13) (a := x2) (As := [(0, (G.2.2.2.2.2.2.2 (w32 (x4 + 1)).toNat)), (0, (G.2.2.2.2.2.2.2 (w32 (x4 + 2)).toNat))]) (st := [(0, r128)]) rfl rfl (X13_bring_s G l s129 x2 (G.2.2.2.2.2.2.2 (w32 (x4 + 1)).toNat) (G.2.2.2.2.2.2.2 (w32 (x4 + 2)).toNat)) cal_X13_bring rfl ml_L_146 rfl rfl dec_L_law_31.2.1.1.2.2 (k_tag (tag := 0) rfl fun r130 s131 => ?_)
  refine V_icmp_eq (tgt := 2315) dec_L_law_31.2.1.2.1 (by decide) ?_ ?_
  · exact V_pick [0, 1, 2, 3, 4] rfl (L_law_b2315_s G l hl rk23 hk23 s131 x1 x2 x3 x4)
  · refine V_iconst dec_L_law_31.2.1.2.2.1 rfl ?_
    exact V_lawret rfl dec_L_law_31.2.1.2.2.2
def L_law_b1327 (sc : Nat × (Nat → Int)) (rk23 : St → Int → Int → Int → Int → Rs) (s : St) (x1 x2 x3 x4 : Int) : Rs :=
  grd (0 ≤ (w32 (x4 + 1)) ∧ (w32 (x4 + 1)) < (sc.1 : Int)) (grd (isK s 21 x1) (bnd (X11_bringFrom s x1 (sc.2 (w32 (x4 + 1)).toNat)) (fun r132 s133 => grd (0 ≤ (w32 (x4 + 1)) ∧ (w32 (x4 + 1)) < (sc.1 : Int)) (grd (isK s133 23 x2) (bnd (X13_bringFrom s133 x2 (sc.2 (w32 (x4 + 1)).toNat)) (fun r134 s135 => if r132 = r134 then (L_law_b2315 sc rk23 s135 x1 x2 x3 x4) else (grd ((0 : Int) = 1) (some (0, s135)))))))))
set_option maxRecDepth 100000 in
set_option maxHeartbeats 4000000 in
theorem L_law_b1327_s (G : Gx) (l : Launch) (hl : l.stackTraces = false) (rk23 : St → Int → Int → Int → Int → Rs) (hk23 : ∀ (s : St) (x1 x2 x3 x4 : Int), VQ (QLaw G) G l mL_law 23 [(0, (2, 1002000)), (1, (2, x1)), (2, (2, x2)), (3, (2, x3)), (4, (0, x4))] [] s (rk23 s x1 x2 x3 x4)) (s : St) (x1 x2 x3 x4 : Int) : VQ (QLaw G) G l mL_law 1327 [(0, (2, 1002000)), (1, (2, x1)), (2, (2, x2)), (3, (2, x3)), (4, (0, x4))] [] s (L_law_b1327 G.2.2.2.2.2.2 rk23 s x1 x2 x3 x4) := by
  unfold L_law_b1327
  refine V_aload_n dec_L_law_31.2.2.1.1 1 rfl ?_
  refine V_aload_n dec_L_law_31.2.2.1.2.1 0 rfl ?_
  refine V_iload dec_L_law_31.2.2.1.2.2 4 rfl ?_
  refine V_iconst dec_L_law_31.2.2.2.1 rfl ?_
  refine V_iadd dec_L_law_31.2.2.2.2.1 ?_
  refine V_sald dec_L_law_31.2.2.2.2.2 ?_
  refine V_callV0 (ci := 11) (a := x1) (As := [(0, (G.2.2.2.2.2.2.2 (w32 (x4 + 1)).toNat))]) (st := []) rfl rfl (X11_bringFrom_s G l s x1 (G.2.2.2.2.2.2.2 (w32 (x4 + 1)).toNat)) cal_X11_bringFrom rfl ml_L_147 rfl rfl dec_L_law_32.1.1.1.1 (k_tag (tag := 0) rfl fun r132 s133 => ?_)
  refine V_aload_n dec_L_law_32.1.1.1.2.1 2 rfl ?_
  refine V_aload_n dec_L_law_32.1.1.1.2.2 0 rfl ?_
  refine V_iload dec_L_law_32.1.1.2.1 4 rfl ?_
  refine V_iconst dec_L_law_32.1.1.2.2.1 rfl ?_
  refine V_iadd dec_L_law_32.1.1.2.2.2 ?_
  refine V_sald dec_L_law_32.1.2.1.1 ?_
  refine V_callV0 (ci := 13) (a := x2) (As := [(0, (G.2.2.2.2.2.2.2 (w32 (x4 + 1)).toNat))]) (st := [(0, r132)]) rfl rfl (X13_bringFrom_s G l s133 x2 (G.2.2.2.2.2.2.2 (w32 (x4 + 1)).toNat)) cal_X13_bringFrom rfl ml_L_150 rfl rfl dec_L_law_32.1.2.1.2.1 (k_tag (tag := 0) rfl fun r134 s135 => ?_)
  refine V_icmp_eq (tgt := 2315) dec_L_law_32.1.2.1.2.2 (by decide) ?_ ?_
  · exact V_pick [0, 1, 2, 3, 4] rfl (L_law_b2315_s G l hl rk23 hk23 s135 x1 x2 x3 x4)
  · refine V_iconst dec_L_law_32.1.2.2.1 rfl ?_
    exact V_lawret rfl dec_L_law_32.1.2.2.2.1
def L_law_b1352 (sc : Nat × (Nat → Int)) (rk23 : St → Int → Int → Int → Int → Rs) (s : St) (x1 x2 x3 x4 : Int) : Rs :=
  grd (0 ≤ (w32 (x4 + 1)) ∧ (w32 (x4 + 1)) < (sc.1 : Int)) (grd (0 ≤ (w32 (x4 + 2)) ∧ (w32 (x4 + 2)) < (sc.1 : Int)) (grd (isK s 21 x1) (bnd (X11_steps s x1 (sc.2 (w32 (x4 + 1)).toNat) (sc.2 (w32 (x4 + 2)).toNat)) (fun r136 s137 => grd (0 ≤ (w32 (x4 + 1)) ∧ (w32 (x4 + 1)) < (sc.1 : Int)) (grd (0 ≤ (w32 (x4 + 2)) ∧ (w32 (x4 + 2)) < (sc.1 : Int)) (grd (isK s137 23 x2) (bnd (X13_steps s137 x2 (sc.2 (w32 (x4 + 1)).toNat) (sc.2 (w32 (x4 + 2)).toNat)) (fun r138 s139 => if r136 = r138 then (L_law_b2315 sc rk23 s139 x1 x2 x3 x4) else (grd ((0 : Int) = 1) (some (0, s139)))))))))))
set_option maxRecDepth 100000 in
set_option maxHeartbeats 4000000 in
theorem L_law_b1352_s (G : Gx) (l : Launch) (hl : l.stackTraces = false) (rk23 : St → Int → Int → Int → Int → Rs) (hk23 : ∀ (s : St) (x1 x2 x3 x4 : Int), VQ (QLaw G) G l mL_law 23 [(0, (2, 1002000)), (1, (2, x1)), (2, (2, x2)), (3, (2, x3)), (4, (0, x4))] [] s (rk23 s x1 x2 x3 x4)) (s : St) (x1 x2 x3 x4 : Int) : VQ (QLaw G) G l mL_law 1352 [(0, (2, 1002000)), (1, (2, x1)), (2, (2, x2)), (3, (2, x3)), (4, (0, x4))] [] s (L_law_b1352 G.2.2.2.2.2.2 rk23 s x1 x2 x3 x4) := by
  unfold L_law_b1352
  refine V_aload_n dec_L_law_32.1.2.2.2.2 1 rfl ?_
  refine V_aload_n dec_L_law_32.2.1.1.1 0 rfl ?_
  refine V_iload dec_L_law_32.2.1.1.2.1 4 rfl ?_
  refine V_iconst dec_L_law_32.2.1.1.2.2 rfl ?_
  refine V_iadd dec_L_law_32.2.1.2.1 ?_
  refine V_sald dec_L_law_32.2.1.2.2.1 ?_
  refine V_aload_n dec_L_law_32.2.1.2.2.2 0 rfl ?_
  refine V_iload dec_L_law_32.2.2.1.1 4 rfl ?_
  refine V_iconst dec_L_law_32.2.2.1.2.1 rfl ?_
  refine V_iadd dec_L_law_32.2.2.1.2.2 ?_
  refine V_sald dec_L_law_32.2.2.2.1 ?_
  refine V_callV0 (ci := 11) (a := x1) (As := [(0, (G.2.2.2.2.2.2.2 (w32 (x4 + 1)).toNat)), (0, (G.2.2.2.2.2.2.2 (w32 (x4 + 2)).toNat))]) (st := []) rfl rfl (X11_steps_s G l s x1 (G.2.2.2.2.2.2.2 (w32 (x4 + 1)).toNat) (G.2.2.2.2.2.2.2 (w32 (x4 + 2)).toNat)) cal_X11_steps rfl ml_L_151 rfl rfl dec_L_law_32.2.2.2.2.1 (k_tag (tag := 0) rfl fun r136 s137 => ?_)
  refine V_aload_n dec_L_law_32.2.2.2.2.2 2 rfl ?_
  refine V_aload_n dec_L_law_33.1.1.1.1 0 rfl ?_
  refine V_iload dec_L_law_33.1.1.1.2.1 4 rfl ?_
  refine V_iconst dec_L_law_33.1.1.1.2.2 rfl ?_
  refine V_iadd dec_L_law_33.1.1.2.1 ?_
  refine V_sald dec_L_law_33.1.1.2.2.1 ?_
  refine V_aload_n dec_L_law_33.1.1.2.2.2 0 rfl ?_
  refine V_iload dec_L_law_33.1.2.1.1 4 rfl ?_
  refine V_iconst dec_L_law_33.1.2.1.2.1 rfl ?_
  refine V_iadd dec_L_law_33.1.2.1.2.2 ?_
  refine V_sald dec_L_law_33.1.2.2.1 ?_
  refine V_callV0 (ci := 13) (a := x2) (As := [(0, (G.2.2.2.2.2.2.2 (w32 (x4 + 1)).toNat)), (0, (G.2.2.2.2.2.2.2 (w32 (x4 + 2)).toNat))]) (st := [(0, r136)]) rfl rfl (X13_steps_s G l s137 x2 (G.2.2.2.2.2.2.2 (w32 (x4 + 1)).toNat) (G.2.2.2.2.2.2.2 (w32 (x4 + 2)).toNat)) cal_X13_steps rfl ml_L_154 rfl rfl dec_L_law_33.1.2.2.2.1 (k_tag (tag := 0) rfl fun r138 s139 => ?_)
  refine V_icmp_eq (tgt := 2315) dec_L_law_33.1.2.2.2.2 (by decide) ?_ ?_
  · exact V_pick [0, 1, 2, 3, 4] rfl (L_law_b2315_s G l hl rk23 hk23 s139 x1 x2 x3 x4)
  · refine V_iconst dec_L_law_33.2.1.1.1 rfl ?_
    exact V_lawret rfl dec_L_law_33.2.1.1.2.1
def L_law_b1389 (sc : Nat × (Nat → Int)) (rk23 : St → Int → Int → Int → Int → Rs) (s : St) (x1 x2 x3 x4 : Int) : Rs :=
  grd (0 ≤ (w32 (x4 + 1)) ∧ (w32 (x4 + 1)) < (sc.1 : Int)) (grd (0 ≤ (w32 (x4 + 2)) ∧ (w32 (x4 + 2)) < (sc.1 : Int)) (grd (isK s 21 x1) (bnd (X11_ring s x1 (sc.2 (w32 (x4 + 1)).toNat) (sc.2 (w32 (x4 + 2)).toNat)) (fun r140 s141 => grd (0 ≤ (w32 (x4 + 1)) ∧ (w32 (x4 + 1)) < (sc.1 : Int)) (grd (0 ≤ (w32 (x4 + 2)) ∧ (w32 (x4 + 2)) < (sc.1 : Int)) (grd (isK s141 23 x2) (bnd (X13_ring s141 x2 (sc.2 (w32 (x4 + 1)).toNat) (sc.2 (w32 (x4 + 2)).toNat)) (fun r142 s143 => if r140 = r142 then (L_law_b2315 sc rk23 s143 x1 x2 x3 x4) else (grd ((0 : Int) = 1) (some (0, s143)))))))))))
set_option maxRecDepth 100000 in
set_option maxHeartbeats 4000000 in
theorem L_law_b1389_s (G : Gx) (l : Launch) (hl : l.stackTraces = false) (rk23 : St → Int → Int → Int → Int → Rs) (hk23 : ∀ (s : St) (x1 x2 x3 x4 : Int), VQ (QLaw G) G l mL_law 23 [(0, (2, 1002000)), (1, (2, x1)), (2, (2, x2)), (3, (2, x3)), (4, (0, x4))] [] s (rk23 s x1 x2 x3 x4)) (s : St) (x1 x2 x3 x4 : Int) : VQ (QLaw G) G l mL_law 1389 [(0, (2, 1002000)), (1, (2, x1)), (2, (2, x2)), (3, (2, x3)), (4, (0, x4))] [] s (L_law_b1389 G.2.2.2.2.2.2 rk23 s x1 x2 x3 x4) := by
  unfold L_law_b1389
  refine V_aload_n dec_L_law_33.2.1.1.2.2 1 rfl ?_
  refine V_aload_n dec_L_law_33.2.1.2.1 0 rfl ?_
  refine V_iload dec_L_law_33.2.1.2.2.1 4 rfl ?_
  refine V_iconst dec_L_law_33.2.1.2.2.2 rfl ?_
  refine V_iadd dec_L_law_33.2.2.1.1 ?_
  refine V_sald dec_L_law_33.2.2.1.2.1 ?_
  refine V_aload_n dec_L_law_33.2.2.1.2.2 0 rfl ?_
  refine V_iload dec_L_law_33.2.2.2.1 4 rfl ?_
  refine V_iconst dec_L_law_33.2.2.2.2.1 rfl ?_
  refine V_iadd dec_L_law_33.2.2.2.2.2 ?_
  refine V_sald dec_L_law_34.1.1.1.1 ?_
  refine V_callV0 (ci := 11) (a := x1) (As := [(0, (G.2.2.2.2.2.2.2 (w32 (x4 + 1)).toNat)), (0, (G.2.2.2.2.2.2.2 (w32 (x4 + 2)).toNat))]) (st := []) rfl rfl (X11_ring_s G l s x1 (G.2.2.2.2.2.2.2 (w32 (x4 + 1)).toNat) (G.2.2.2.2.2.2.2 (w32 (x4 + 2)).toNat)) cal_X11_ring rfl ml_L_155 rfl rfl dec_L_law_34.1.1.1.2.1 (k_tag (tag := 0) rfl fun r140 s141 => ?_)
  refine V_aload_n dec_L_law_34.1.1.1.2.2 2 rfl ?_
  refine V_aload_n dec_L_law_34.1.1.2.1 0 rfl ?_
  refine V_iload dec_L_law_34.1.1.2.2.1 4 rfl ?_
  refine V_iconst dec_L_law_34.1.1.2.2.2 rfl ?_
  refine V_iadd dec_L_law_34.1.2.1.1 ?_
  refine V_sald dec_L_law_34.1.2.1.2.1 ?_
  refine V_aload_n dec_L_law_34.1.2.1.2.2 0 rfl ?_
  refine V_iload dec_L_law_34.1.2.2.1 4 rfl ?_
  refine V_iconst dec_L_law_34.1.2.2.2.1 rfl ?_
  refine V_iadd dec_L_law_34.1.2.2.2.2 ?_
  refine V_sald dec_L_law_34.2.1.1.1 ?_
  refine V_callV0 (ci := 13) (a := x2) (As := [(0, (G.2.2.2.2.2.2.2 (w32 (x4 + 1)).toNat)), (0, (G.2.2.2.2.2.2.2 (w32 (x4 + 2)).toNat))]) (st := [(0, r140)]) rfl rfl (X13_ring_s G l s141 x2 (G.2.2.2.2.2.2.2 (w32 (x4 + 1)).toNat) (G.2.2.2.2.2.2.2 (w32 (x4 + 2)).toNat)) cal_X13_ring rfl ml_L_158 rfl rfl dec_L_law_34.2.1.1.2.1 (k_tag (tag := 0) rfl fun r142 s143 => ?_)
  refine V_icmp_eq (tgt := 2315) dec_L_law_34.2.1.1.2.2 (by decide) ?_ ?_
  · exact V_pick [0, 1, 2, 3, 4] rfl (L_law_b2315_s G l hl rk23 hk23 s143 x1 x2 x3 x4)
  · refine V_iconst dec_L_law_34.2.1.2.1 rfl ?_
    exact V_lawret rfl dec_L_law_34.2.1.2.2.1
def L_law_b1426 (sc : Nat × (Nat → Int)) (rk23 : St → Int → Int → Int → Int → Rs) (s : St) (x1 x2 x3 x4 : Int) : Rs :=
  grd (0 ≤ (w32 (x4 + 1)) ∧ (w32 (x4 + 1)) < (sc.1 : Int)) (grd (0 ≤ (w32 (x4 + 2)) ∧ (w32 (x4 + 2)) < (sc.1 : Int)) (grd (0 ≤ (w32 (x4 + 3)) ∧ (w32 (x4 + 3)) < (sc.1 : Int)) (grd (isK s 21 x1) (bnd (X11_ringAt s x1 (sc.2 (w32 (x4 + 1)).toNat) (sc.2 (w32 (x4 + 2)).toNat) (sc.2 (w32 (x4 + 3)).toNat)) (fun r144 s145 => grd (0 ≤ (w32 (x4 + 1)) ∧ (w32 (x4 + 1)) < (sc.1 : Int)) (grd (0 ≤ (w32 (x4 + 2)) ∧ (w32 (x4 + 2)) < (sc.1 : Int)) (grd (0 ≤ (w32 (x4 + 3)) ∧ (w32 (x4 + 3)) < (sc.1 : Int)) (grd (isK s145 23 x2) (bnd (X13_ringAt s145 x2 (sc.2 (w32 (x4 + 1)).toNat) (sc.2 (w32 (x4 + 2)).toNat) (sc.2 (w32 (x4 + 3)).toNat)) (fun r146 s147 => if r144 = r146 then (L_law_b2315 sc rk23 s147 x1 x2 x3 x4) else (grd ((0 : Int) = 1) (some (0, s147)))))))))))))
set_option maxRecDepth 100000 in
set_option maxHeartbeats 4000000 in
theorem L_law_b1426_s (G : Gx) (l : Launch) (hl : l.stackTraces = false) (rk23 : St → Int → Int → Int → Int → Rs) (hk23 : ∀ (s : St) (x1 x2 x3 x4 : Int), VQ (QLaw G) G l mL_law 23 [(0, (2, 1002000)), (1, (2, x1)), (2, (2, x2)), (3, (2, x3)), (4, (0, x4))] [] s (rk23 s x1 x2 x3 x4)) (s : St) (x1 x2 x3 x4 : Int) : VQ (QLaw G) G l mL_law 1426 [(0, (2, 1002000)), (1, (2, x1)), (2, (2, x2)), (3, (2, x3)), (4, (0, x4))] [] s (L_law_b1426 G.2.2.2.2.2.2 rk23 s x1 x2 x3 x4) := by
  unfold L_law_b1426
  refine V_aload_n dec_L_law_34.2.1.2.2.2 1 rfl ?_
  refine V_aload_n dec_L_law_34.2.2.1.1 0 rfl ?_
  refine V_iload dec_L_law_34.2.2.1.2.1 4 rfl ?_
  refine V_iconst dec_L_law_34.2.2.1.2.2 rfl ?_
  refine V_iadd dec_L_law_34.2.2.2.1 ?_
  refine V_sald dec_L_law_34.2.2.2.2.1 ?_
  refine V_aload_n dec_L_law_34.2.2.2.2.2 0 rfl ?_
  refine V_iload dec_L_law_35.1.1.1.1 4 rfl ?_
  refine V_iconst dec_L_law_35.1.1.1.2.1 rfl ?_
  refine V_iadd dec_L_law_35.1.1.1.2.2 ?_
  refine V_sald dec_L_law_35.1.1.2.1 ?_
  refine V_aload_n dec_L_law_35.1.1.2.2.1 0 rfl ?_
  refine V_iload dec_L_law_35.1.1.2.2.2 4 rfl ?_
  refine V_iconst dec_L_law_35.1.2.1.1 rfl ?_
  refine V_iadd dec_L_law_35.1.2.1.2.1 ?_
  refine V_sald dec_L_law_35.1.2.1.2.2 ?_
  refine V_callV0 (ci := 11) (a := x1) (As := [(0, (G.2.2.2.2.2.2.2 (w32 (x4 + 1)).toNat)), (0, (G.2.2.2.2.2.2.2 (w32 (x4 + 2)).toNat)), (0, (G.2.2.2.2.2.2.2 (w32 (x4 + 3)).toNat))]) (st := []) rfl rfl (X11_ringAt_s G l s x1 (G.2.2.2.2.2.2.2 (w32 (x4 + 1)).toNat) (G.2.2.2.2.2.2.2 (w32 (x4 + 2)).toNat) (G.2.2.2.2.2.2.2 (w32 (x4 + 3)).toNat)) cal_X11_ringAt rfl ml_L_159 rfl rfl dec_L_law_35.1.2.2.1 (k_tag (tag := 0) rfl fun r144 s145 => ?_)
  refine V_aload_n dec_L_law_35.1.2.2.2.1 2 rfl ?_
  refine V_aload_n dec_L_law_35.1.2.2.2.2 0 rfl ?_
  refine V_iload dec_L_law_35.2.1.1.1 4 rfl ?_
  refine V_iconst dec_L_law_35.2.1.1.2.1 rfl ?_
  refine V_iadd dec_L_law_35.2.1.1.2.2 ?_
  refine V_sald dec_L_law_35.2.1.2.1 ?_
  refine V_aload_n dec_L_law_35.2.1.2.2.1 0 rfl ?_
  refine V_iload dec_L_law_35.2.1.2.2.2 4 rfl ?_
  refine V_iconst dec_L_law_35.2.2.1.1 rfl ?_
  refine V_iadd dec_L_law_35.2.2.1.2.1 ?_
  refine V_sald dec_L_law_35.2.2.1.2.2 ?_
  refine V_aload_n dec_L_law_35.2.2.2.1 0 rfl ?_
  refine V_iload dec_L_law_35.2.2.2.2.1 4 rfl ?_
  refine V_iconst dec_L_law_35.2.2.2.2.2 rfl ?_
  refine V_iadd dec_L_law_36.1.1.1.1 ?_
  refine V_sald dec_L_law_36.1.1.1.2.1 ?_
  refine V_callV0 (ci := 13) (a := x2) (As := [(0, (G.2.2.2.2.2.2.2 (w32 (x4 + 1)).toNat)), (0, (G.2.2.2.2.2.2.2 (w32 (x4 + 2)).toNat)), (0, (G.2.2.2.2.2.2.2 (w32 (x4 + 3)).toNat))]) (st := [(0, r144)]) rfl rfl (X13_ringAt_s G l s145 x2 (G.2.2.2.2.2.2.2 (w32 (x4 + 1)).toNat) (G.2.2.2.2.2.2.2 (w32 (x4 + 2)).toNat) (G.2.2.2.2.2.2.2 (w32 (x4 + 3)).toNat)) cal_X13_ringAt rfl ml_L_162 rfl rfl dec_L_law_36.1.1.1.2.2 (k_tag (tag := 0) rfl fun r146 s147 => ?_)
  refine V_icmp_eq (tgt := 2315) dec_L_law_36.1.1.2.1 (by decide) ?_ ?_
  · exact V_pick [0, 1, 2, 3, 4] rfl (L_law_b2315_s G l hl rk23 hk23 s147 x1 x2 x3 x4)
  · refine V_iconst dec_L_law_36.1.1.2.2.1 rfl ?_
    exact V_lawret rfl dec_L_law_36.1.1.2.2.2
def L_law_b1475 (sc : Nat × (Nat → Int)) (rk23 : St → Int → Int → Int → Int → Rs) (s : St) (x1 x2 x3 x4 : Int) : Rs :=
  grd (isK s 21 x1) (bnd (X11_fits s x1) (fun r148 s149 => grd (isK s149 23 x2) (bnd (X13_fits s149 x2) (fun r150 s151 => if r148 = r150 then (L_law_b2315 sc rk23 s151 x1 x2 x3 x4) else (grd ((0 : Int) = 1) (some (0, s151)))))))
set_option maxRecDepth 100000 in
set_option maxHeartbeats 4000000 in
theorem L_law_b1475_s (G : Gx) (l : Launch) (hl : l.stackTraces = false) (rk23 : St → Int → Int → Int → Int → Rs) (hk23 : ∀ (s : St) (x1 x2 x3 x4 : Int), VQ (QLaw G) G l mL_law 23 [(0, (2, 1002000)), (1, (2, x1)), (2, (2, x2)), (3, (2, x3)), (4, (0, x4))] [] s (rk23 s x1 x2 x3 x4)) (s : St) (x1 x2 x3 x4 : Int) : VQ (QLaw G) G l mL_law 1475 [(0, (2, 1002000)), (1, (2, x1)), (2, (2, x2)), (3, (2, x3)), (4, (0, x4))] [] s (L_law_b1475 G.2.2.2.2.2.2 rk23 s x1 x2 x3 x4) := by
  unfold L_law_b1475
  refine V_aload_n dec_L_law_36.1.2.1.1 1 rfl ?_
  refine V_callV0 (ci := 11) (a := x1) (As := []) (st := []) rfl rfl (X11_fits_s G l s x1) cal_X11_fits rfl ml_L_163 rfl rfl dec_L_law_36.1.2.1.2.1 (k_tag (tag := 0) rfl fun r148 s149 => ?_)
  refine V_aload_n dec_L_law_36.1.2.1.2.2 2 rfl ?_
  refine V_callV0 (ci := 13) (a := x2) (As := []) (st := [(0, r148)]) rfl rfl (X13_fits_s G l s149 x2) cal_X13_fits rfl ml_L_166 rfl rfl dec_L_law_36.1.2.2.1 (k_tag (tag := 0) rfl fun r150 s151 => ?_)
  refine V_icmp_eq (tgt := 2315) dec_L_law_36.1.2.2.2.1 (by decide) ?_ ?_
  · exact V_pick [0, 1, 2, 3, 4] rfl (L_law_b2315_s G l hl rk23 hk23 s151 x1 x2 x3 x4)
  · refine V_iconst dec_L_law_36.1.2.2.2.2 rfl ?_
    exact V_lawret rfl dec_L_law_36.2.1.1.1
def L_law_b1488 (sc : Nat × (Nat → Int)) (rk23 : St → Int → Int → Int → Int → Rs) (s : St) (x1 x2 x3 x4 : Int) : Rs :=
  grd (0 ≤ (w32 (x4 + 1)) ∧ (w32 (x4 + 1)) < (sc.1 : Int)) (grd (isK s 21 x1) (bnd (X11_fitAt s x1 (sc.2 (w32 (x4 + 1)).toNat)) (fun r152 s153 => grd (0 ≤ (w32 (x4 + 1)) ∧ (w32 (x4 + 1)) < (sc.1 : Int)) (grd (isK s153 23 x2) (bnd (X13_fitAt s153 x2 (sc.2 (w32 (x4 + 1)).toNat)) (fun r154 s155 => if r152 = r154 then (L_law_b2315 sc rk23 s155 x1 x2 x3 x4) else (grd ((0 : Int) = 1) (some (0, s155)))))))))
set_option maxRecDepth 100000 in
set_option maxHeartbeats 4000000 in
theorem L_law_b1488_s (G : Gx) (l : Launch) (hl : l.stackTraces = false) (rk23 : St → Int → Int → Int → Int → Rs) (hk23 : ∀ (s : St) (x1 x2 x3 x4 : Int), VQ (QLaw G) G l mL_law 23 [(0, (2, 1002000)), (1, (2, x1)), (2, (2, x2)), (3, (2, x3)), (4, (0, x4))] [] s (rk23 s x1 x2 x3 x4)) (s : St) (x1 x2 x3 x4 : Int) : VQ (QLaw G) G l mL_law 1488 [(0, (2, 1002000)), (1, (2, x1)), (2, (2, x2)), (3, (2, x3)), (4, (0, x4))] [] s (L_law_b1488 G.2.2.2.2.2.2 rk23 s x1 x2 x3 x4) := by
  unfold L_law_b1488
  refine V_aload_n dec_L_law_36.2.1.1.2.1 1 rfl ?_
  refine V_aload_n dec_L_law_36.2.1.1.2.2 0 rfl ?_
  refine V_iload dec_L_law_36.2.1.2.1 4 rfl ?_
  refine V_iconst dec_L_law_36.2.1.2.2.1 rfl ?_
  refine V_iadd dec_L_law_36.2.1.2.2.2 ?_
  refine V_sald dec_L_law_36.2.2.1.1 ?_
  refine V_callV0 (ci := 11) (a := x1) (As := [(0, (G.2.2.2.2.2.2.2 (w32 (x4 + 1)).toNat))]) (st := []) rfl rfl (X11_fitAt_s G l s x1 (G.2.2.2.2.2.2.2 (w32 (x4 + 1)).toNat)) cal_X11_fitAt rfl ml_L_167 rfl rfl dec_L_law_36.2.2.1.2.1 (k_tag (tag := 0) rfl fun r152 s153 => ?_)
  refine V_aload_n dec_L_law_36.2.2.1.2.2 2 rfl ?_
  refine V_aload_n dec_L_law_36.2.2.2.1 0 rfl ?_
  refine V_iload dec_L_law_36.2.2.2.2.1 4 rfl ?_
  refine V_iconst dec_L_law_36.2.2.2.2.2 rfl ?_
  refine V_iadd dec_L_law_37.1.1.1.1 ?_
  refine V_sald dec_L_law_37.1.1.1.2.1 ?_
  refine V_callV0 (ci := 13) (a := x2) (As := [(0, (G.2.2.2.2.2.2.2 (w32 (x4 + 1)).toNat))]) (st := [(0, r152)]) rfl rfl (X13_fitAt_s G l s153 x2 (G.2.2.2.2.2.2.2 (w32 (x4 + 1)).toNat)) cal_X13_fitAt rfl ml_L_170 rfl rfl dec_L_law_37.1.1.1.2.2 (k_tag (tag := 0) rfl fun r154 s155 => ?_)
  refine V_icmp_eq (tgt := 2315) dec_L_law_37.1.1.2.1 (by decide) ?_ ?_
  · exact V_pick [0, 1, 2, 3, 4] rfl (L_law_b2315_s G l hl rk23 hk23 s155 x1 x2 x3 x4)
  · refine V_iconst dec_L_law_37.1.1.2.2.1 rfl ?_
    exact V_lawret rfl dec_L_law_37.1.1.2.2.2
def L_law_b1513 (sc : Nat × (Nat → Int)) (rk23 : St → Int → Int → Int → Int → Rs) (s : St) (x1 x2 x3 x4 : Int) : Rs :=
  grd (isK s 21 x1) (bnd (X11_could s x1) (fun r156 s157 => grd (isK s157 23 x2) (bnd (X13_could s157 x2) (fun r158 s159 => if r156 = r158 then (L_law_b2315 sc rk23 s159 x1 x2 x3 x4) else (grd ((0 : Int) = 1) (some (0, s159)))))))
set_option maxRecDepth 100000 in
set_option maxHeartbeats 4000000 in
theorem L_law_b1513_s (G : Gx) (l : Launch) (hl : l.stackTraces = false) (rk23 : St → Int → Int → Int → Int → Rs) (hk23 : ∀ (s : St) (x1 x2 x3 x4 : Int), VQ (QLaw G) G l mL_law 23 [(0, (2, 1002000)), (1, (2, x1)), (2, (2, x2)), (3, (2, x3)), (4, (0, x4))] [] s (rk23 s x1 x2 x3 x4)) (s : St) (x1 x2 x3 x4 : Int) : VQ (QLaw G) G l mL_law 1513 [(0, (2, 1002000)), (1, (2, x1)), (2, (2, x2)), (3, (2, x3)), (4, (0, x4))] [] s (L_law_b1513 G.2.2.2.2.2.2 rk23 s x1 x2 x3 x4) := by
  unfold L_law_b1513
  refine V_aload_n dec_L_law_37.1.2.1.1 1 rfl ?_
  refine V_callV0 (ci := 11) (a := x1) (As := []) (st := []) rfl rfl (X11_could_s G l s x1) cal_X11_could rfl ml_L_171 rfl rfl dec_L_law_37.1.2.1.2.1 (k_tag (tag := 0) rfl fun r156 s157 => ?_)
  refine V_aload_n dec_L_law_37.1.2.1.2.2 2 rfl ?_
  refine V_callV0 (ci := 13) (a := x2) (As := []) (st := [(0, r156)]) rfl rfl (X13_could_s G l s157 x2) cal_X13_could rfl ml_L_174 rfl rfl dec_L_law_37.1.2.2.1 (k_tag (tag := 0) rfl fun r158 s159 => ?_)
  refine V_icmp_eq (tgt := 2315) dec_L_law_37.1.2.2.2.1 (by decide) ?_ ?_
  · exact V_pick [0, 1, 2, 3, 4] rfl (L_law_b2315_s G l hl rk23 hk23 s159 x1 x2 x3 x4)
  · refine V_iconst dec_L_law_37.1.2.2.2.2 rfl ?_
    exact V_lawret rfl dec_L_law_37.2.1.1.1
def L_law_b1526 (sc : Nat × (Nat → Int)) (rk23 : St → Int → Int → Int → Int → Rs) (s : St) (x1 x2 x3 x4 : Int) : Rs :=
  grd (isK s 21 x1) (bnd (X11_surely s x1) (fun r160 s161 => grd (isK s161 23 x2) (bnd (X13_surely s161 x2) (fun r162 s163 => if r160 = r162 then (L_law_b2315 sc rk23 s163 x1 x2 x3 x4) else (grd ((0 : Int) = 1) (some (0, s163)))))))
set_option maxRecDepth 100000 in
set_option maxHeartbeats 4000000 in
theorem L_law_b1526_s (G : Gx) (l : Launch) (hl : l.stackTraces = false) (rk23 : St → Int → Int → Int → Int → Rs) (hk23 : ∀ (s : St) (x1 x2 x3 x4 : Int), VQ (QLaw G) G l mL_law 23 [(0, (2, 1002000)), (1, (2, x1)), (2, (2, x2)), (3, (2, x3)), (4, (0, x4))] [] s (rk23 s x1 x2 x3 x4)) (s : St) (x1 x2 x3 x4 : Int) : VQ (QLaw G) G l mL_law 1526 [(0, (2, 1002000)), (1, (2, x1)), (2, (2, x2)), (3, (2, x3)), (4, (0, x4))] [] s (L_law_b1526 G.2.2.2.2.2.2 rk23 s x1 x2 x3 x4) := by
  unfold L_law_b1526
  refine V_aload_n dec_L_law_37.2.1.1.2.1 1 rfl ?_
  refine V_callV0 (ci := 11) (a := x1) (As := []) (st := []) rfl rfl (X11_surely_s G l s x1) cal_X11_surely rfl ml_L_175 rfl rfl dec_L_law_37.2.1.1.2.2 (k_tag (tag := 0) rfl fun r160 s161 => ?_)
  refine V_aload_n dec_L_law_37.2.1.2.1 2 rfl ?_
  refine V_callV0 (ci := 13) (a := x2) (As := []) (st := [(0, r160)]) rfl rfl (X13_surely_s G l s161 x2) cal_X13_surely rfl ml_L_178 rfl rfl dec_L_law_37.2.1.2.2.1 (k_tag (tag := 0) rfl fun r162 s163 => ?_)
  refine V_icmp_eq (tgt := 2315) dec_L_law_37.2.1.2.2.2 (by decide) ?_ ?_
  · exact V_pick [0, 1, 2, 3, 4] rfl (L_law_b2315_s G l hl rk23 hk23 s163 x1 x2 x3 x4)
  · refine V_iconst dec_L_law_37.2.2.1.1 rfl ?_
    exact V_lawret rfl dec_L_law_37.2.2.1.2.1
def L_law_b1539 (sc : Nat × (Nat → Int)) (rk23 : St → Int → Int → Int → Int → Rs) (s : St) (x1 x2 x3 x4 : Int) : Rs :=
  grd (isK s 21 x1) (bnd (X11_ask s x1) (fun r164 s165 => grd (isK s165 23 x2) (bnd (X13_ask s165 x2) (fun r166 s167 => if r164 = r166 then (L_law_b2315 sc rk23 s167 x1 x2 x3 x4) else (grd ((0 : Int) = 1) (some (0, s167)))))))
set_option maxRecDepth 100000 in
set_option maxHeartbeats 4000000 in
theorem L_law_b1539_s (G : Gx) (l : Launch) (hl : l.stackTraces = false) (rk23 : St → Int → Int → Int → Int → Rs) (hk23 : ∀ (s : St) (x1 x2 x3 x4 : Int), VQ (QLaw G) G l mL_law 23 [(0, (2, 1002000)), (1, (2, x1)), (2, (2, x2)), (3, (2, x3)), (4, (0, x4))] [] s (rk23 s x1 x2 x3 x4)) (s : St) (x1 x2 x3 x4 : Int) : VQ (QLaw G) G l mL_law 1539 [(0, (2, 1002000)), (1, (2, x1)), (2, (2, x2)), (3, (2, x3)), (4, (0, x4))] [] s (L_law_b1539 G.2.2.2.2.2.2 rk23 s x1 x2 x3 x4) := by
  unfold L_law_b1539
  refine V_aload_n dec_L_law_37.2.2.1.2.2 1 rfl ?_
  refine V_callV0 (ci := 11) (a := x1) (As := []) (st := []) rfl rfl (X11_ask_s G l s x1) cal_X11_ask rfl ml_L_179 rfl rfl dec_L_law_37.2.2.2.1 (k_tag (tag := 0) rfl fun r164 s165 => ?_)
  refine V_aload_n dec_L_law_37.2.2.2.2.1 2 rfl ?_
  refine V_callV0 (ci := 13) (a := x2) (As := []) (st := [(0, r164)]) rfl rfl (X13_ask_s G l s165 x2) cal_X13_ask rfl ml_L_182 rfl rfl dec_L_law_37.2.2.2.2.2 (k_tag (tag := 0) rfl fun r166 s167 => ?_)
  refine V_icmp_eq (tgt := 2315) dec_L_law_38.1.1.1.1 (by decide) ?_ ?_
  · exact V_pick [0, 1, 2, 3, 4] rfl (L_law_b2315_s G l hl rk23 hk23 s167 x1 x2 x3 x4)
  · refine V_iconst dec_L_law_38.1.1.1.2.1 rfl ?_
    exact V_lawret rfl dec_L_law_38.1.1.1.2.2
def L_law_b1552 (sc : Nat × (Nat → Int)) (rk23 : St → Int → Int → Int → Int → Rs) (s : St) (x1 x2 x3 x4 : Int) : Rs :=
  grd (isK s 21 x1) (bnd (X11_askLeaves s x1) (fun r168 s169 => grd (isK s169 23 x2) (bnd (X13_askLeaves s169 x2) (fun r170 s171 => if r168 = r170 then (L_law_b2315 sc rk23 s171 x1 x2 x3 x4) else (grd ((0 : Int) = 1) (some (0, s171)))))))
set_option maxRecDepth 100000 in
set_option maxHeartbeats 4000000 in
theorem L_law_b1552_s (G : Gx) (l : Launch) (hl : l.stackTraces = false) (rk23 : St → Int → Int → Int → Int → Rs) (hk23 : ∀ (s : St) (x1 x2 x3 x4 : Int), VQ (QLaw G) G l mL_law 23 [(0, (2, 1002000)), (1, (2, x1)), (2, (2, x2)), (3, (2, x3)), (4, (0, x4))] [] s (rk23 s x1 x2 x3 x4)) (s : St) (x1 x2 x3 x4 : Int) : VQ (QLaw G) G l mL_law 1552 [(0, (2, 1002000)), (1, (2, x1)), (2, (2, x2)), (3, (2, x3)), (4, (0, x4))] [] s (L_law_b1552 G.2.2.2.2.2.2 rk23 s x1 x2 x3 x4) := by
  unfold L_law_b1552
  refine V_aload_n dec_L_law_38.1.1.2.1 1 rfl ?_
  refine V_callV0 (ci := 11) (a := x1) (As := []) (st := []) rfl rfl (X11_askLeaves_s G l s x1) cal_X11_askLeaves rfl ml_L_183 rfl rfl dec_L_law_38.1.1.2.2.1 (k_tag (tag := 0) rfl fun r168 s169 => ?_)
  refine V_aload_n dec_L_law_38.1.1.2.2.2 2 rfl ?_
  refine V_callV0 (ci := 13) (a := x2) (As := []) (st := [(0, r168)]) rfl rfl (X13_askLeaves_s G l s169 x2) cal_X13_askLeaves rfl ml_L_186 rfl rfl dec_L_law_38.1.2.1.1 (k_tag (tag := 0) rfl fun r170 s171 => ?_)
  refine V_icmp_eq (tgt := 2315) dec_L_law_38.1.2.1.2.1 (by decide) ?_ ?_
  · exact V_pick [0, 1, 2, 3, 4] rfl (L_law_b2315_s G l hl rk23 hk23 s171 x1 x2 x3 x4)
  · refine V_iconst dec_L_law_38.1.2.1.2.2 rfl ?_
    exact V_lawret rfl dec_L_law_38.1.2.2.1
def L_law_b1565 (sc : Nat × (Nat → Int)) (rk23 : St → Int → Int → Int → Int → Rs) (s : St) (x1 x2 x3 x4 : Int) : Rs :=
  grd (isK s 21 x1) (bnd (X11_judge s x1) (fun r172 s173 => grd (isK s173 23 x2) (bnd (X13_judge s173 x2) (fun r174 s175 => if r172 = r174 then (L_law_b2315 sc rk23 s175 x1 x2 x3 x4) else (grd ((0 : Int) = 1) (some (0, s175)))))))
set_option maxRecDepth 100000 in
set_option maxHeartbeats 4000000 in
theorem L_law_b1565_s (G : Gx) (l : Launch) (hl : l.stackTraces = false) (rk23 : St → Int → Int → Int → Int → Rs) (hk23 : ∀ (s : St) (x1 x2 x3 x4 : Int), VQ (QLaw G) G l mL_law 23 [(0, (2, 1002000)), (1, (2, x1)), (2, (2, x2)), (3, (2, x3)), (4, (0, x4))] [] s (rk23 s x1 x2 x3 x4)) (s : St) (x1 x2 x3 x4 : Int) : VQ (QLaw G) G l mL_law 1565 [(0, (2, 1002000)), (1, (2, x1)), (2, (2, x2)), (3, (2, x3)), (4, (0, x4))] [] s (L_law_b1565 G.2.2.2.2.2.2 rk23 s x1 x2 x3 x4) := by
  unfold L_law_b1565
  refine V_aload_n dec_L_law_38.1.2.2.2.1 1 rfl ?_
  refine V_callV0 (ci := 11) (a := x1) (As := []) (st := []) rfl rfl (X11_judge_s G l s x1) cal_X11_judge rfl ml_L_187 rfl rfl dec_L_law_38.1.2.2.2.2 (k_tag (tag := 0) rfl fun r172 s173 => ?_)
  refine V_aload_n dec_L_law_38.2.1.1.1 2 rfl ?_
  refine V_callV0 (ci := 13) (a := x2) (As := []) (st := [(0, r172)]) rfl rfl (X13_judge_s G l s173 x2) cal_X13_judge rfl ml_L_190 rfl rfl dec_L_law_38.2.1.1.2.1 (k_tag (tag := 0) rfl fun r174 s175 => ?_)
  refine V_icmp_eq (tgt := 2315) dec_L_law_38.2.1.1.2.2 (by decide) ?_ ?_
  · exact V_pick [0, 1, 2, 3, 4] rfl (L_law_b2315_s G l hl rk23 hk23 s175 x1 x2 x3 x4)
  · refine V_iconst dec_L_law_38.2.1.2.1 rfl ?_
    exact V_lawret rfl dec_L_law_38.2.1.2.2.1
def L_law_b1679 (sc : Nat × (Nat → Int)) (rk23 : St → Int → Int → Int → Int → Rs) (s : St) (x1 x2 x3 x4 k0 k1 k2 k3 k4 k5 : Int) : Rs :=
  grd (isK s 23 k4) (bnd (X13_chat s k4 k3 k2 k1 k0) (fun r178 s179 => if k5 = r178 then (L_law_b2315 sc rk23 s179 x1 x2 x3 x4) else (grd ((0 : Int) = 1) (some (0, s179)))))
set_option maxRecDepth 100000 in
set_option maxHeartbeats 4000000 in
theorem L_law_b1679_s (G : Gx) (l : Launch) (hl : l.stackTraces = false) (rk23 : St → Int → Int → Int → Int → Rs) (hk23 : ∀ (s : St) (x1 x2 x3 x4 : Int), VQ (QLaw G) G l mL_law 23 [(0, (2, 1002000)), (1, (2, x1)), (2, (2, x2)), (3, (2, x3)), (4, (0, x4))] [] s (rk23 s x1 x2 x3 x4)) (s : St) (x1 x2 x3 x4 k0 k1 k2 k3 k4 k5 : Int) : VQ (QLaw G) G l mL_law 1679 [(0, (2, 1002000)), (1, (2, x1)), (2, (2, x2)), (3, (2, x3)), (4, (0, x4))] [(0, k0), (0, k1), (0, k2), (0, k3), (2, k4), (0, k5)] s (L_law_b1679 G.2.2.2.2.2.2 rk23 s x1 x2 x3 x4 k0 k1 k2 k3 k4 k5) := by
  unfold L_law_b1679
  refine V_callV0 (ci := 13) (a := k4) (As := [(0, k3), (0, k2), (0, k1), (0, k0)]) (st := [(0, k5)]) rfl rfl (X13_chat_s G l s k4 k3 k2 k1 k0) cal_X13_chat rfl ml_L_195 rfl rfl dec_L_law_41.2.1.1.1 (k_tag (tag := 0) rfl fun r178 s179 => ?_)
  refine V_icmp_eq (tgt := 2315) dec_L_law_41.2.1.1.2.1 (by decide) ?_ ?_
  · exact V_pick [0, 1, 2, 3, 4] rfl (L_law_b2315_s G l hl rk23 hk23 s179 x1 x2 x3 x4)
  · refine V_iconst dec_L_law_41.2.1.1.2.2 rfl ?_
    exact V_lawret rfl dec_L_law_41.2.1.2.1
def L_law_b1665 (sc : Nat × (Nat → Int)) (rk23 : St → Int → Int → Int → Int → Rs) (s : St) (x1 x2 x3 x4 k0 k1 k2 k3 k4 : Int) : Rs :=
  grd (0 ≤ (w32 (x4 + 4)) ∧ (w32 (x4 + 4)) < (sc.1 : Int)) (if (sc.2 (w32 (x4 + 4)).toNat) = 0 then (L_law_b1679 sc rk23 s x1 x2 x3 x4 0 k0 k1 k2 k3 k4) else (L_law_b1679 sc rk23 s x1 x2 x3 x4 1 k0 k1 k2 k3 k4))
set_option maxRecDepth 100000 in
set_option maxHeartbeats 4000000 in
theorem L_law_b1665_s (G : Gx) (l : Launch) (hl : l.stackTraces = false) (rk23 : St → Int → Int → Int → Int → Rs) (hk23 : ∀ (s : St) (x1 x2 x3 x4 : Int), VQ (QLaw G) G l mL_law 23 [(0, (2, 1002000)), (1, (2, x1)), (2, (2, x2)), (3, (2, x3)), (4, (0, x4))] [] s (rk23 s x1 x2 x3 x4)) (s : St) (x1 x2 x3 x4 k0 k1 k2 k3 k4 : Int) : VQ (QLaw G) G l mL_law 1665 [(0, (2, 1002000)), (1, (2, x1)), (2, (2, x2)), (3, (2, x3)), (4, (0, x4))] [(0, k0), (0, k1), (0, k2), (2, k3), (0, k4)] s (L_law_b1665 G.2.2.2.2.2.2 rk23 s x1 x2 x3 x4 k0 k1 k2 k3 k4) := by
  unfold L_law_b1665
  refine V_aload_n dec_L_law_41.1.1.2.1 0 rfl ?_
  refine V_iload dec_L_law_41.1.1.2.2.1 4 rfl ?_
  refine V_iconst dec_L_law_41.1.1.2.2.2 rfl ?_
  refine V_iadd dec_L_law_41.1.2.1.1 ?_
  refine V_sald dec_L_law_41.1.2.1.2.1 ?_
  refine V_if_eq (tgt := 1678) dec_L_law_41.1.2.1.2.2 (by decide) ?_ ?_
  · refine V_iconst dec_L_law_41.1.2.2.2.2 rfl ?_
    exact V_pick [0, 1, 2, 3, 4] rfl (L_law_b1679_s G l hl rk23 hk23 s x1 x2 x3 x4 0 k0 k1 k2 k3 k4)
  · refine V_iconst dec_L_law_41.1.2.2.1 rfl ?_
    refine V_goto (tgt := 1679) dec_L_law_41.1.2.2.2.1 (by decide) ?_
    exact V_pick [0, 1, 2, 3, 4] rfl (L_law_b1679_s G l hl rk23 hk23 s x1 x2 x3 x4 1 k0 k1 k2 k3 k4)
def L_law_b1651 (sc : Nat × (Nat → Int)) (rk23 : St → Int → Int → Int → Int → Rs) (s : St) (x1 x2 x3 x4 k0 k1 k2 k3 : Int) : Rs :=
  grd (0 ≤ (w32 (x4 + 3)) ∧ (w32 (x4 + 3)) < (sc.1 : Int)) (if (sc.2 (w32 (x4 + 3)).toNat) = 0 then (L_law_b1665 sc rk23 s x1 x2 x3 x4 0 k0 k1 k2 k3) else (L_law_b1665 sc rk23 s x1 x2 x3 x4 1 k0 k1 k2 k3))
set_option maxRecDepth 100000 in
set_option maxHeartbeats 4000000 in
theorem L_law_b1651_s (G : Gx) (l : Launch) (hl : l.stackTraces = false) (rk23 : St → Int → Int → Int → Int → Rs) (hk23 : ∀ (s : St) (x1 x2 x3 x4 : Int), VQ (QLaw G) G l mL_law 23 [(0, (2, 1002000)), (1, (2, x1)), (2, (2, x2)), (3, (2, x3)), (4, (0, x4))] [] s (rk23 s x1 x2 x3 x4)) (s : St) (x1 x2 x3 x4 k0 k1 k2 k3 : Int) : VQ (QLaw G) G l mL_law 1651 [(0, (2, 1002000)), (1, (2, x1)), (2, (2, x2)), (3, (2, x3)), (4, (0, x4))] [(0, k0), (0, k1), (2, k2), (0, k3)] s (L_law_b1651 G.2.2.2.2.2.2 rk23 s x1 x2 x3 x4 k0 k1 k2 k3) := by
  unfold L_law_b1651
  refine V_aload_n dec_L_law_40.2.2.1.1 0 rfl ?_
  refine V_iload dec_L_law_40.2.2.1.2.1 4 rfl ?_
  refine V_iconst dec_L_law_40.2.2.1.2.2 rfl ?_
  refine V_iadd dec_L_law_40.2.2.2.1 ?_
  refine V_sald dec_L_law_40.2.2.2.2.1 ?_
  refine V_if_eq (tgt := 1664) dec_L_law_40.2.2.2.2.2 (by decide) ?_ ?_
  · refine V_iconst dec_L_law_41.1.1.1.2.2 rfl ?_
    exact V_pick [0, 1, 2, 3, 4] rfl (L_law_b1665_s G l hl rk23 hk23 s x1 x2 x3 x4 0 k0 k1 k2 k3)
  · refine V_iconst dec_L_law_41.1.1.1.1 rfl ?_
    refine V_goto (tgt := 1665) dec_L_law_41.1.1.1.2.1 (by decide) ?_
    exact V_pick [0, 1, 2, 3, 4] rfl (L_law_b1665_s G l hl rk23 hk23 s x1 x2 x3 x4 1 k0 k1 k2 k3)
def L_law_b1627 (sc : Nat × (Nat → Int)) (rk23 : St → Int → Int → Int → Int → Rs) (s : St) (x1 x2 x3 x4 k0 k1 k2 k3 k4 : Int) : Rs :=
  grd (isK s 21 k4) (bnd (X11_chat s k4 k3 k2 k1 k0) (fun r176 s177 => grd (0 ≤ (w32 (x4 + 1)) ∧ (w32 (x4 + 1)) < (sc.1 : Int)) (grd (0 ≤ (w32 (x4 + 2)) ∧ (w32 (x4 + 2)) < (sc.1 : Int)) (if (sc.2 (w32 (x4 + 2)).toNat) = 0 then (L_law_b1651 sc rk23 s177 x1 x2 x3 x4 0 (sc.2 (w32 (x4 + 1)).toNat) x2 r176) else (L_law_b1651 sc rk23 s177 x1 x2 x3 x4 1 (sc.2 (w32 (x4 + 1)).toNat) x2 r176)))))
set_option maxRecDepth 100000 in
set_option maxHeartbeats 4000000 in
theorem L_law_b1627_s (G : Gx) (l : Launch) (hl : l.stackTraces = false) (rk23 : St → Int → Int → Int → Int → Rs) (hk23 : ∀ (s : St) (x1 x2 x3 x4 : Int), VQ (QLaw G) G l mL_law 23 [(0, (2, 1002000)), (1, (2, x1)), (2, (2, x2)), (3, (2, x3)), (4, (0, x4))] [] s (rk23 s x1 x2 x3 x4)) (s : St) (x1 x2 x3 x4 k0 k1 k2 k3 k4 : Int) : VQ (QLaw G) G l mL_law 1627 [(0, (2, 1002000)), (1, (2, x1)), (2, (2, x2)), (3, (2, x3)), (4, (0, x4))] [(0, k0), (0, k1), (0, k2), (0, k3), (2, k4)] s (L_law_b1627 G.2.2.2.2.2.2 rk23 s x1 x2 x3 x4 k0 k1 k2 k3 k4) := by
  unfold L_law_b1627
  refine V_callV0 (ci := 11) (a := k4) (As := [(0, k3), (0, k2), (0, k1), (0, k0)]) (st := []) rfl rfl (X11_chat_s G l s k4 k3 k2 k1 k0) cal_X11_chat rfl ml_L_191 rfl rfl dec_L_law_40.1.1.1.2.2 (k_tag (tag := 0) rfl fun r176 s177 => ?_)
  refine V_aload_n dec_L_law_40.1.1.2.1 2 rfl ?_
  refine V_aload_n dec_L_law_40.1.1.2.2.1 0 rfl ?_
  refine V_iload dec_L_law_40.1.1.2.2.2 4 rfl ?_
  refine V_iconst dec_L_law_40.1.2.1.1 rfl ?_
  refine V_iadd dec_L_law_40.1.2.1.2.1 ?_
  refine V_sald dec_L_law_40.1.2.1.2.2 ?_
  refine V_aload_n dec_L_law_40.1.2.2.1 0 rfl ?_
  refine V_iload dec_L_law_40.1.2.2.2.1 4 rfl ?_
  refine V_iconst dec_L_law_40.1.2.2.2.2 rfl ?_
  refine V_iadd dec_L_law_40.2.1.1.1 ?_
  refine V_sald dec_L_law_40.2.1.1.2.1 ?_
  refine V_if_eq (tgt := 1650) dec_L_law_40.2.1.1.2.2 (by decide) ?_ ?_
  · refine V_iconst dec_L_law_40.2.1.2.2.2 rfl ?_
    exact V_pick [0, 1, 2, 3, 4] rfl (L_law_b1651_s G l hl rk23 hk23 s177 x1 x2 x3 x4 0 (G.2.2.2.2.2.2.2 (w32 (x4 + 1)).toNat) x2 r176)
  · refine V_iconst dec_L_law_40.2.1.2.1 rfl ?_
    refine V_goto (tgt := 1651) dec_L_law_40.2.1.2.2.1 (by decide) ?_
    exact V_pick [0, 1, 2, 3, 4] rfl (L_law_b1651_s G l hl rk23 hk23 s177 x1 x2 x3 x4 1 (G.2.2.2.2.2.2.2 (w32 (x4 + 1)).toNat) x2 r176)
def L_law_b1613 (sc : Nat × (Nat → Int)) (rk23 : St → Int → Int → Int → Int → Rs) (s : St) (x1 x2 x3 x4 k0 k1 k2 k3 : Int) : Rs :=
  grd (0 ≤ (w32 (x4 + 4)) ∧ (w32 (x4 + 4)) < (sc.1 : Int)) (if (sc.2 (w32 (x4 + 4)).toNat) = 0 then (L_law_b1627 sc rk23 s x1 x2 x3 x4 0 k0 k1 k2 k3) else (L_law_b1627 sc rk23 s x1 x2 x3 x4 1 k0 k1 k2 k3))
set_option maxRecDepth 100000 in
set_option maxHeartbeats 4000000 in
theorem L_law_b1613_s (G : Gx) (l : Launch) (hl : l.stackTraces = false) (rk23 : St → Int → Int → Int → Int → Rs) (hk23 : ∀ (s : St) (x1 x2 x3 x4 : Int), VQ (QLaw G) G l mL_law 23 [(0, (2, 1002000)), (1, (2, x1)), (2, (2, x2)), (3, (2, x3)), (4, (0, x4))] [] s (rk23 s x1 x2 x3 x4)) (s : St) (x1 x2 x3 x4 k0 k1 k2 k3 : Int) : VQ (QLaw G) G l mL_law 1613 [(0, (2, 1002000)), (1, (2, x1)), (2, (2, x2)), (3, (2, x3)), (4, (0, x4))] [(0, k0), (0, k1), (0, k2), (2, k3)] s (L_law_b1613 G.2.2.2.2.2.2 rk23 s x1 x2 x3 x4 k0 k1 k2 k3) := by
  unfold L_law_b1613
  refine V_aload_n dec_L_law_39.2.1.2.2.2 0 rfl ?_
  refine V_iload dec_L_law_39.2.2.1.1 4 rfl ?_
  refine V_iconst dec_L_law_39.2.2.1.2.1 rfl ?_
  refine V_iadd dec_L_law_39.2.2.1.2.2 ?_
  refine V_sald dec_L_law_39.2.2.2.1 ?_
  refine V_if_eq (tgt := 1626) dec_L_law_39.2.2.2.2.1 (by decide) ?_ ?_
  · refine V_iconst dec_L_law_40.1.1.1.2.1 rfl ?_
    exact V_pick [0, 1, 2, 3, 4] rfl (L_law_b1627_s G l hl rk23 hk23 s x1 x2 x3 x4 0 k0 k1 k2 k3)
  · refine V_iconst dec_L_law_39.2.2.2.2.2 rfl ?_
    refine V_goto (tgt := 1627) dec_L_law_40.1.1.1.1 (by decide) ?_
    exact V_pick [0, 1, 2, 3, 4] rfl (L_law_b1627_s G l hl rk23 hk23 s x1 x2 x3 x4 1 k0 k1 k2 k3)
def L_law_b1599 (sc : Nat × (Nat → Int)) (rk23 : St → Int → Int → Int → Int → Rs) (s : St) (x1 x2 x3 x4 k0 k1 k2 : Int) : Rs :=
  grd (0 ≤ (w32 (x4 + 3)) ∧ (w32 (x4 + 3)) < (sc.1 : Int)) (if (sc.2 (w32 (x4 + 3)).toNat) = 0 then (L_law_b1613 sc rk23 s x1 x2 x3 x4 0 k0 k1 k2) else (L_law_b1613 sc rk23 s x1 x2 x3 x4 1 k0 k1 k2))
set_option maxRecDepth 100000 in
set_option maxHeartbeats 4000000 in
theorem L_law_b1599_s (G : Gx) (l : Launch) (hl : l.stackTraces = false) (rk23 : St → Int → Int → Int → Int → Rs) (hk23 : ∀ (s : St) (x1 x2 x3 x4 : Int), VQ (QLaw G) G l mL_law 23 [(0, (2, 1002000)), (1, (2, x1)), (2, (2, x2)), (3, (2, x3)), (4, (0, x4))] [] s (rk23 s x1 x2 x3 x4)) (s : St) (x1 x2 x3 x4 k0 k1 k2 : Int) : VQ (QLaw G) G l mL_law 1599 [(0, (2, 1002000)), (1, (2, x1)), (2, (2, x2)), (3, (2, x3)), (4, (0, x4))] [(0, k0), (0, k1), (2, k2)] s (L_law_b1599 G.2.2.2.2.2.2 rk23 s x1 x2 x3 x4 k0 k1 k2) := by
  unfold L_law_b1599
  refine V_aload_n dec_L_law_39.1.2.1.2.2 0 rfl ?_
  refine V_iload dec_L_law_39.1.2.2.1 4 rfl ?_
  refine V_iconst dec_L_law_39.1.2.2.2.1 rfl ?_
  refine V_iadd dec_L_law_39.1.2.2.2.2 ?_
  refine V_sald dec_L_law_39.2.1.1.1 ?_
  refine V_if_eq (tgt := 1612) dec_L_law_39.2.1.1.2.1 (by decide) ?_ ?_
  · refine V_iconst dec_L_law_39.2.1.2.2.1 rfl ?_
    exact V_pick [0, 1, 2, 3, 4] rfl (L_law_b1613_s G l hl rk23 hk23 s x1 x2 x3 x4 0 k0 k1 k2)
  · refine V_iconst dec_L_law_39.2.1.1.2.2 rfl ?_
    refine V_goto (tgt := 1613) dec_L_law_39.2.1.2.1 (by decide) ?_
    exact V_pick [0, 1, 2, 3, 4] rfl (L_law_b1613_s G l hl rk23 hk23 s x1 x2 x3 x4 1 k0 k1 k2)
def L_law_b1578 (sc : Nat × (Nat → Int)) (rk23 : St → Int → Int → Int → Int → Rs) (s : St) (x1 x2 x3 x4 : Int) : Rs :=
  grd (0 ≤ (w32 (x4 + 1)) ∧ (w32 (x4 + 1)) < (sc.1 : Int)) (grd (0 ≤ (w32 (x4 + 2)) ∧ (w32 (x4 + 2)) < (sc.1 : Int)) (if (sc.2 (w32 (x4 + 2)).toNat) = 0 then (L_law_b1599 sc rk23 s x1 x2 x3 x4 0 (sc.2 (w32 (x4 + 1)).toNat) x1) else (L_law_b1599 sc rk23 s x1 x2 x3 x4 1 (sc.2 (w32 (x4 + 1)).toNat) x1)))
set_option maxRecDepth 100000 in
set_option maxHeartbeats 4000000 in
theorem L_law_b1578_s (G : Gx) (l : Launch) (hl : l.stackTraces = false) (rk23 : St → Int → Int → Int → Int → Rs) (hk23 : ∀ (s : St) (x1 x2 x3 x4 : Int), VQ (QLaw G) G l mL_law 23 [(0, (2, 1002000)), (1, (2, x1)), (2, (2, x2)), (3, (2, x3)), (4, (0, x4))] [] s (rk23 s x1 x2 x3 x4)) (s : St) (x1 x2 x3 x4 : Int) : VQ (QLaw G) G l mL_law 1578 [(0, (2, 1002000)), (1, (2, x1)), (2, (2, x2)), (3, (2, x3)), (4, (0, x4))] [] s (L_law_b1578 G.2.2.2.2.2.2 rk23 s x1 x2 x3 x4) := by
  unfold L_law_b1578
  refine V_aload_n dec_L_law_38.2.1.2.2.2 1 rfl ?_
  refine V_aload_n dec_L_law_38.2.2.1.1 0 rfl ?_
  refine V_iload dec_L_law_38.2.2.1.2.1 4 rfl ?_
  refine V_iconst dec_L_law_38.2.2.1.2.2 rfl ?_
  refine V_iadd dec_L_law_38.2.2.2.1 ?_
  refine V_sald dec_L_law_38.2.2.2.2.1 ?_
  refine V_aload_n dec_L_law_38.2.2.2.2.2 0 rfl ?_
  refine V_iload dec_L_law_39.1.1.1.1 4 rfl ?_
  refine V_iconst dec_L_law_39.1.1.1.2.1 rfl ?_
  refine V_iadd dec_L_law_39.1.1.1.2.2 ?_
  refine V_sald dec_L_law_39.1.1.2.1 ?_
  refine V_if_eq (tgt := 1598) dec_L_law_39.1.1.2.2.1 (by decide) ?_ ?_
  · refine V_iconst dec_L_law_39.1.2.1.2.1 rfl ?_
    exact V_pick [0, 1, 2, 3, 4] rfl (L_law_b1599_s G l hl rk23 hk23 s x1 x2 x3 x4 0 (G.2.2.2.2.2.2.2 (w32 (x4 + 1)).toNat) x1)
  · refine V_iconst dec_L_law_39.1.1.2.2.2 rfl ?_
    refine V_goto (tgt := 1599) dec_L_law_39.1.2.1.1 (by decide) ?_
    exact V_pick [0, 1, 2, 3, 4] rfl (L_law_b1599_s G l hl rk23 hk23 s x1 x2 x3 x4 1 (G.2.2.2.2.2.2.2 (w32 (x4 + 1)).toNat) x1)
def L_law_b1687 (sc : Nat × (Nat → Int)) (rk23 : St → Int → Int → Int → Int → Rs) (s : St) (x1 x2 x3 x4 : Int) : Rs :=
  grd (0 ≤ (w32 (x4 + 1)) ∧ (w32 (x4 + 1)) < (sc.1 : Int)) (grd (isK s 21 x1) (bnd (X11_rests s x1 (sc.2 (w32 (x4 + 1)).toNat)) (fun r180 s181 => grd (0 ≤ (w32 (x4 + 1)) ∧ (w32 (x4 + 1)) < (sc.1 : Int)) (grd (isK s181 23 x2) (bnd (X13_rests s181 x2 (sc.2 (w32 (x4 + 1)).toNat)) (fun r182 s183 => if r180 = r182 then (L_law_b2315 sc rk23 s183 x1 x2 x3 x4) else (grd ((0 : Int) = 1) (some (0, s183)))))))))
set_option maxRecDepth 100000 in
set_option maxHeartbeats 4000000 in
theorem L_law_b1687_s (G : Gx) (l : Launch) (hl : l.stackTraces = false) (rk23 : St → Int → Int → Int → Int → Rs) (hk23 : ∀ (s : St) (x1 x2 x3 x4 : Int), VQ (QLaw G) G l mL_law 23 [(0, (2, 1002000)), (1, (2, x1)), (2, (2, x2)), (3, (2, x3)), (4, (0, x4))] [] s (rk23 s x1 x2 x3 x4)) (s : St) (x1 x2 x3 x4 : Int) : VQ (QLaw G) G l mL_law 1687 [(0, (2, 1002000)), (1, (2, x1)), (2, (2, x2)), (3, (2, x3)), (4, (0, x4))] [] s (L_law_b1687 G.2.2.2.2.2.2 rk23 s x1 x2 x3 x4) := by
  unfold L_law_b1687
  refine V_aload_n dec_L_law_41.2.1.2.2.1 1 rfl ?_
  refine V_aload_n dec_L_law_41.2.1.2.2.2 0 rfl ?_
  refine V_iload dec_L_law_41.2.2.1.1 4 rfl ?_
  refine V_iconst dec_L_law_41.2.2.1.2.1 rfl ?_
  refine V_iadd dec_L_law_41.2.2.1.2.2 ?_
  refine V_sald dec_L_law_41.2.2.2.1 ?_
  refine V_callV0 (ci := 11) (a := x1) (As := [(0, (G.2.2.2.2.2.2.2 (w32 (x4 + 1)).toNat))]) (st := []) rfl rfl (X11_rests_s G l s x1 (G.2.2.2.2.2.2.2 (w32 (x4 + 1)).toNat)) cal_X11_rests rfl ml_L_196 rfl rfl dec_L_law_41.2.2.2.2.1 (k_tag (tag := 0) rfl fun r180 s181 => ?_)
  refine V_aload_n dec_L_law_41.2.2.2.2.2 2 rfl ?_
  refine V_aload_n dec_L_law_42.1.1.1.1 0 rfl ?_
  refine V_iload dec_L_law_42.1.1.1.2.1 4 rfl ?_
  refine V_iconst dec_L_law_42.1.1.1.2.2 rfl ?_
  refine V_iadd dec_L_law_42.1.1.2.1 ?_
  refine V_sald dec_L_law_42.1.1.2.2.1 ?_
  refine V_callV0 (ci := 13) (a := x2) (As := [(0, (G.2.2.2.2.2.2.2 (w32 (x4 + 1)).toNat))]) (st := [(0, r180)]) rfl rfl (X13_rests_s G l s181 x2 (G.2.2.2.2.2.2.2 (w32 (x4 + 1)).toNat)) cal_X13_rests rfl ml_L_199 rfl rfl dec_L_law_42.1.1.2.2.2 (k_tag (tag := 0) rfl fun r182 s183 => ?_)
  refine V_icmp_eq (tgt := 2315) dec_L_law_42.1.2.1.1 (by decide) ?_ ?_
  · exact V_pick [0, 1, 2, 3, 4] rfl (L_law_b2315_s G l hl rk23 hk23 s183 x1 x2 x3 x4)
  · refine V_iconst dec_L_law_42.1.2.1.2.1 rfl ?_
    exact V_lawret rfl dec_L_law_42.1.2.1.2.2
def L_law_b1712 (sc : Nat × (Nat → Int)) (rk23 : St → Int → Int → Int → Int → Rs) (s : St) (x1 x2 x3 x4 : Int) : Rs :=
  grd (0 ≤ (w32 (x4 + 1)) ∧ (w32 (x4 + 1)) < (sc.1 : Int)) (grd (isK s 21 x1) (bnd (X11_rest s x1 (sc.2 (w32 (x4 + 1)).toNat)) (fun r184 s185 => grd (0 ≤ (w32 (x4 + 1)) ∧ (w32 (x4 + 1)) < (sc.1 : Int)) (grd (isK s185 23 x2) (bnd (X13_rest s185 x2 (sc.2 (w32 (x4 + 1)).toNat)) (fun r186 s187 => if r184 = r186 then (L_law_b2315 sc rk23 s187 x1 x2 x3 x4) else (grd ((0 : Int) = 1) (some (0, s187)))))))))
set_option maxRecDepth 100000 in
set_option maxHeartbeats 4000000 in
theorem L_law_b1712_s (G : Gx) (l : Launch) (hl : l.stackTraces = false) (rk23 : St → Int → Int → Int → Int → Rs) (hk23 : ∀ (s : St) (x1 x2 x3 x4 : Int), VQ (QLaw G) G l mL_law 23 [(0, (2, 1002000)), (1, (2, x1)), (2, (2, x2)), (3, (2, x3)), (4, (0, x4))] [] s (rk23 s x1 x2 x3 x4)) (s : St) (x1 x2 x3 x4 : Int) : VQ (QLaw G) G l mL_law 1712 [(0, (2, 1002000)), (1, (2, x1)), (2, (2, x2)), (3, (2, x3)), (4, (0, x4))] [] s (L_law_b1712 G.2.2.2.2.2.2 rk23 s x1 x2 x3 x4) := by
  unfold L_law_b1712
  refine V_aload_n dec_L_law_42.1.2.2.1 1 rfl ?_
  refine V_aload_n dec_L_law_42.1.2.2.2.1 0 rfl ?_
  refine V_iload dec_L_law_42.1.2.2.2.2 4 rfl ?_
  refine V_iconst dec_L_law_42.2.1.1.1 rfl ?_
  refine V_iadd dec_L_law_42.2.1.1.2.1 ?_
  refine V_sald dec_L_law_42.2.1.1.2.2 ?_
  refine V_callV0 (ci := 11) (a := x1) (As := [(0, (G.2.2.2.2.2.2.2 (w32 (x4 + 1)).toNat))]) (st := []) rfl rfl (X11_rest_s G l s x1 (G.2.2.2.2.2.2.2 (w32 (x4 + 1)).toNat)) cal_X11_rest rfl ml_L_200 rfl rfl dec_L_law_42.2.1.2.1 (k_tag (tag := 0) rfl fun r184 s185 => ?_)
  refine V_aload_n dec_L_law_42.2.1.2.2.1 2 rfl ?_
  refine V_aload_n dec_L_law_42.2.1.2.2.2 0 rfl ?_
  refine V_iload dec_L_law_42.2.2.1.1 4 rfl ?_
  refine V_iconst dec_L_law_42.2.2.1.2.1 rfl ?_
  refine V_iadd dec_L_law_42.2.2.1.2.2 ?_
  refine V_sald dec_L_law_42.2.2.2.1 ?_
  refine V_callV0 (ci := 13) (a := x2) (As := [(0, (G.2.2.2.2.2.2.2 (w32 (x4 + 1)).toNat))]) (st := [(0, r184)]) rfl rfl (X13_rest_s G l s185 x2 (G.2.2.2.2.2.2.2 (w32 (x4 + 1)).toNat)) cal_X13_rest rfl ml_L_203 rfl rfl dec_L_law_42.2.2.2.2.1 (k_tag (tag := 0) rfl fun r186 s187 => ?_)
  refine V_icmp_eq (tgt := 2315) dec_L_law_42.2.2.2.2.2 (by decide) ?_ ?_
  · exact V_pick [0, 1, 2, 3, 4] rfl (L_law_b2315_s G l hl rk23 hk23 s187 x1 x2 x3 x4)
  · refine V_iconst dec_L_law_43.1.1.1.1 rfl ?_
    exact V_lawret rfl dec_L_law_43.1.1.1.2.1
def L_law_b1794 (sc : Nat × (Nat → Int)) (rk23 : St → Int → Int → Int → Int → Rs) (s : St) (x1 x2 x3 x4 k0 k1 k2 k3 k4 : Int) : Rs :=
  grd (isK s 23 k3) (bnd (X13_odds s k3 k2 k1 k0) (fun r190 s191 => if (cmp3 k4 r190) = 0 then (L_law_b2315 sc rk23 s191 x1 x2 x3 x4) else (grd ((0 : Int) = 1) (some (0, s191)))))
set_option maxRecDepth 100000 in
set_option maxHeartbeats 4000000 in
theorem L_law_b1794_s (G : Gx) (l : Launch) (hl : l.stackTraces = false) (rk23 : St → Int → Int → Int → Int → Rs) (hk23 : ∀ (s : St) (x1 x2 x3 x4 : Int), VQ (QLaw G) G l mL_law 23 [(0, (2, 1002000)), (1, (2, x1)), (2, (2, x2)), (3, (2, x3)), (4, (0, x4))] [] s (rk23 s x1 x2 x3 x4)) (s : St) (x1 x2 x3 x4 k0 k1 k2 k3 k4 : Int) : VQ (QLaw G) G l mL_law 1794 [(0, (2, 1002000)), (1, (2, x1)), (2, (2, x2)), (3, (2, x3)), (4, (0, x4))] [(0, k0), (0, k1), (0, k2), (2, k3), (1, k4)] s (L_law_b1794 G.2.2.2.2.2.2 rk23 s x1 x2 x3 x4 k0 k1 k2 k3 k4) := by
  unfold L_law_b1794
  refine V_callV0 (ci := 13) (a := k3) (As := [(0, k2), (0, k1), (0, k0)]) (st := [(1, k4)]) rfl rfl (X13_odds_s G l s k3 k2 k1 k0) cal_X13_odds rfl ml_L_208 rfl rfl dec_L_law_44.2.2.1.2.1 (k_tag (tag := 1) rfl fun r190 s191 => ?_)
  refine V_lcmp dec_L_law_44.2.2.1.2.2 ?_
  refine V_if_eq (tgt := 2315) dec_L_law_44.2.2.2.1 (by decide) ?_ ?_
  · exact V_pick [0, 1, 2, 3, 4] rfl (L_law_b2315_s G l hl rk23 hk23 s191 x1 x2 x3 x4)
  · refine V_iconst dec_L_law_44.2.2.2.2.1 rfl ?_
    exact V_lawret rfl dec_L_law_44.2.2.2.2.2
def L_law_b1764 (sc : Nat × (Nat → Int)) (rk23 : St → Int → Int → Int → Int → Rs) (s : St) (x1 x2 x3 x4 k0 k1 k2 k3 : Int) : Rs :=
  grd (isK s 21 k3) (bnd (X11_odds s k3 k2 k1 k0) (fun r188 s189 => grd (0 ≤ (w32 (x4 + 1)) ∧ (w32 (x4 + 1)) < (sc.1 : Int)) (grd (0 ≤ (w32 (x4 + 2)) ∧ (w32 (x4 + 2)) < (sc.1 : Int)) (grd (0 ≤ (w32 (x4 + 3)) ∧ (w32 (x4 + 3)) < (sc.1 : Int)) (if (sc.2 (w32 (x4 + 3)).toNat) = 0 then (L_law_b1794 sc rk23 s189 x1 x2 x3 x4 0 (sc.2 (w32 (x4 + 2)).toNat) (sc.2 (w32 (x4 + 1)).toNat) x2 r188) else (L_law_b1794 sc rk23 s189 x1 x2 x3 x4 1 (sc.2 (w32 (x4 + 2)).toNat) (sc.2 (w32 (x4 + 1)).toNat) x2 r188))))))
set_option maxRecDepth 100000 in
set_option maxHeartbeats 4000000 in
theorem L_law_b1764_s (G : Gx) (l : Launch) (hl : l.stackTraces = false) (rk23 : St → Int → Int → Int → Int → Rs) (hk23 : ∀ (s : St) (x1 x2 x3 x4 : Int), VQ (QLaw G) G l mL_law 23 [(0, (2, 1002000)), (1, (2, x1)), (2, (2, x2)), (3, (2, x3)), (4, (0, x4))] [] s (rk23 s x1 x2 x3 x4)) (s : St) (x1 x2 x3 x4 k0 k1 k2 k3 : Int) : VQ (QLaw G) G l mL_law 1764 [(0, (2, 1002000)), (1, (2, x1)), (2, (2, x2)), (3, (2, x3)), (4, (0, x4))] [(0, k0), (0, k1), (0, k2), (2, k3)] s (L_law_b1764 G.2.2.2.2.2.2 rk23 s x1 x2 x3 x4 k0 k1 k2 k3) := by
  unfold L_law_b1764
  refine V_callV0 (ci := 11) (a := k3) (As := [(0, k2), (0, k1), (0, k0)]) (st := []) rfl rfl (X11_odds_s G l s k3 k2 k1 k0) cal_X11_odds rfl ml_L_204 rfl rfl dec_L_law_43.2.2.2.2.1 (k_tag (tag := 1) rfl fun r188 s189 => ?_)
  refine V_aload_n dec_L_law_43.2.2.2.2.2 2 rfl ?_
  refine V_aload_n dec_L_law_44.1.1.1.1 0 rfl ?_
  refine V_iload dec_L_law_44.1.1.1.2.1 4 rfl ?_
  refine V_iconst dec_L_law_44.1.1.1.2.2 rfl ?_
  refine V_iadd dec_L_law_44.1.1.2.1 ?_
  refine V_sald dec_L_law_44.1.1.2.2.1 ?_
  refine V_aload_n dec_L_law_44.1.1.2.2.2 0 rfl ?_
  refine V_iload dec_L_law_44.1.2.1.1 4 rfl ?_
  refine V_iconst dec_L_law_44.1.2.1.2.1 rfl ?_
  refine V_iadd dec_L_law_44.1.2.1.2.2 ?_
  refine V_sald dec_L_law_44.1.2.2.1 ?_
  refine V_aload_n dec_L_law_44.1.2.2.2.1 0 rfl ?_
  refine V_iload dec_L_law_44.1.2.2.2.2 4 rfl ?_
  refine V_iconst dec_L_law_44.2.1.1.1 rfl ?_
  refine V_iadd dec_L_law_44.2.1.1.2.1 ?_
  refine V_sald dec_L_law_44.2.1.1.2.2 ?_
  refine V_if_eq (tgt := 1793) dec_L_law_44.2.1.2.1 (by decide) ?_ ?_
  · refine V_iconst dec_L_law_44.2.2.1.1 rfl ?_
    exact V_pick [0, 1, 2, 3, 4] rfl (L_law_b1794_s G l hl rk23 hk23 s189 x1 x2 x3 x4 0 (G.2.2.2.2.2.2.2 (w32 (x4 + 2)).toNat) (G.2.2.2.2.2.2.2 (w32 (x4 + 1)).toNat) x2 r188)
  · refine V_iconst dec_L_law_44.2.1.2.2.1 rfl ?_
    refine V_goto (tgt := 1794) dec_L_law_44.2.1.2.2.2 (by decide) ?_
    exact V_pick [0, 1, 2, 3, 4] rfl (L_law_b1794_s G l hl rk23 hk23 s189 x1 x2 x3 x4 1 (G.2.2.2.2.2.2.2 (w32 (x4 + 2)).toNat) (G.2.2.2.2.2.2.2 (w32 (x4 + 1)).toNat) x2 r188)
def L_law_b1737 (sc : Nat × (Nat → Int)) (rk23 : St → Int → Int → Int → Int → Rs) (s : St) (x1 x2 x3 x4 : Int) : Rs :=
  grd (0 ≤ (w32 (x4 + 1)) ∧ (w32 (x4 + 1)) < (sc.1 : Int)) (grd (0 ≤ (w32 (x4 + 2)) ∧ (w32 (x4 + 2)) < (sc.1 : Int)) (grd (0 ≤ (w32 (x4 + 3)) ∧ (w32 (x4 + 3)) < (sc.1 : Int)) (if (sc.2 (w32 (x4 + 3)).toNat) = 0 then (L_law_b1764 sc rk23 s x1 x2 x3 x4 0 (sc.2 (w32 (x4 + 2)).toNat) (sc.2 (w32 (x4 + 1)).toNat) x1) else (L_law_b1764 sc rk23 s x1 x2 x3 x4 1 (sc.2 (w32 (x4 + 2)).toNat) (sc.2 (w32 (x4 + 1)).toNat) x1))))
set_option maxRecDepth 100000 in
set_option maxHeartbeats 4000000 in
theorem L_law_b1737_s (G : Gx) (l : Launch) (hl : l.stackTraces = false) (rk23 : St → Int → Int → Int → Int → Rs) (hk23 : ∀ (s : St) (x1 x2 x3 x4 : Int), VQ (QLaw G) G l mL_law 23 [(0, (2, 1002000)), (1, (2, x1)), (2, (2, x2)), (3, (2, x3)), (4, (0, x4))] [] s (rk23 s x1 x2 x3 x4)) (s : St) (x1 x2 x3 x4 : Int) : VQ (QLaw G) G l mL_law 1737 [(0, (2, 1002000)), (1, (2, x1)), (2, (2, x2)), (3, (2, x3)), (4, (0, x4))] [] s (L_law_b1737 G.2.2.2.2.2.2 rk23 s x1 x2 x3 x4) := by
  unfold L_law_b1737
  refine V_aload_n dec_L_law_43.1.1.1.2.2 1 rfl ?_
  refine V_aload_n dec_L_law_43.1.1.2.1 0 rfl ?_
  refine V_iload dec_L_law_43.1.1.2.2.1 4 rfl ?_
  refine V_iconst dec_L_law_43.1.1.2.2.2 rfl ?_
  refine V_iadd dec_L_law_43.1.2.1.1 ?_
  refine V_sald dec_L_law_43.1.2.1.2.1 ?_
  refine V_aload_n dec_L_law_43.1.2.1.2.2 0 rfl ?_
  refine V_iload dec_L_law_43.1.2.2.1 4 rfl ?_
  refine V_iconst dec_L_law_43.1.2.2.2.1 rfl ?_
  refine V_iadd dec_L_law_43.1.2.2.2.2 ?_
  refine V_sald dec_L_law_43.2.1.1.1 ?_
  refine V_aload_n dec_L_law_43.2.1.1.2.1 0 rfl ?_
  refine V_iload dec_L_law_43.2.1.1.2.2 4 rfl ?_
  refine V_iconst dec_L_law_43.2.1.2.1 rfl ?_
  refine V_iadd dec_L_law_43.2.1.2.2.1 ?_
  refine V_sald dec_L_law_43.2.1.2.2.2 ?_
  refine V_if_eq (tgt := 1763) dec_L_law_43.2.2.1.1 (by decide) ?_ ?_
  · refine V_iconst dec_L_law_43.2.2.2.1 rfl ?_
    exact V_pick [0, 1, 2, 3, 4] rfl (L_law_b1764_s G l hl rk23 hk23 s x1 x2 x3 x4 0 (G.2.2.2.2.2.2.2 (w32 (x4 + 2)).toNat) (G.2.2.2.2.2.2.2 (w32 (x4 + 1)).toNat) x1)
  · refine V_iconst dec_L_law_43.2.2.1.2.1 rfl ?_
    refine V_goto (tgt := 1764) dec_L_law_43.2.2.1.2.2 (by decide) ?_
    exact V_pick [0, 1, 2, 3, 4] rfl (L_law_b1764_s G l hl rk23 hk23 s x1 x2 x3 x4 1 (G.2.2.2.2.2.2.2 (w32 (x4 + 2)).toNat) (G.2.2.2.2.2.2.2 (w32 (x4 + 1)).toNat) x1)
def L_law_b1860 (sc : Nat × (Nat → Int)) (rk23 : St → Int → Int → Int → Int → Rs) (s : St) (x1 x2 x3 x4 k0 k1 k2 k3 k4 : Int) : Rs :=
  grd (isK s 23 k3) (bnd (X13_most s k3 k2 k1 k0) (fun r194 s195 => if (cmp3 k4 r194) = 0 then (L_law_b2315 sc rk23 s195 x1 x2 x3 x4) else (grd ((0 : Int) = 1) (some (0, s195)))))
set_option maxRecDepth 100000 in
set_option maxHeartbeats 4000000 in
theorem L_law_b1860_s (G : Gx) (l : Launch) (hl : l.stackTraces = false) (rk23 : St → Int → Int → Int → Int → Rs) (hk23 : ∀ (s : St) (x1 x2 x3 x4 : Int), VQ (QLaw G) G l mL_law 23 [(0, (2, 1002000)), (1, (2, x1)), (2, (2, x2)), (3, (2, x3)), (4, (0, x4))] [] s (rk23 s x1 x2 x3 x4)) (s : St) (x1 x2 x3 x4 k0 k1 k2 k3 k4 : Int) : VQ (QLaw G) G l mL_law 1860 [(0, (2, 1002000)), (1, (2, x1)), (2, (2, x2)), (3, (2, x3)), (4, (0, x4))] [(0, k0), (0, k1), (0, k2), (2, k3), (1, k4)] s (L_law_b1860 G.2.2.2.2.2.2 rk23 s x1 x2 x3 x4 k0 k1 k2 k3 k4) := by
  unfold L_law_b1860
  refine V_callV0 (ci := 13) (a := k3) (As := [(0, k2), (0, k1), (0, k0)]) (st := [(1, k4)]) rfl rfl (X13_most_s G l s k3 k2 k1 k0) cal_X13_most rfl ml_L_212 rfl rfl dec_L_law_46.2.1.2.2.2 (k_tag (tag := 1) rfl fun r194 s195 => ?_)
  refine V_lcmp dec_L_law_46.2.2.1.1 ?_
  refine V_if_eq (tgt := 2315) dec_L_law_46.2.2.1.2.1 (by decide) ?_ ?_
  · exact V_pick [0, 1, 2, 3, 4] rfl (L_law_b2315_s G l hl rk23 hk23 s195 x1 x2 x3 x4)
  · refine V_iconst dec_L_law_46.2.2.1.2.2 rfl ?_
    exact V_lawret rfl dec_L_law_46.2.2.2.1
def L_law_b1830 (sc : Nat × (Nat → Int)) (rk23 : St → Int → Int → Int → Int → Rs) (s : St) (x1 x2 x3 x4 k0 k1 k2 k3 : Int) : Rs :=
  grd (isK s 21 k3) (bnd (X11_most s k3 k2 k1 k0) (fun r192 s193 => grd (0 ≤ (w32 (x4 + 1)) ∧ (w32 (x4 + 1)) < (sc.1 : Int)) (grd (0 ≤ (w32 (x4 + 2)) ∧ (w32 (x4 + 2)) < (sc.1 : Int)) (grd (0 ≤ (w32 (x4 + 3)) ∧ (w32 (x4 + 3)) < (sc.1 : Int)) (if (sc.2 (w32 (x4 + 3)).toNat) = 0 then (L_law_b1860 sc rk23 s193 x1 x2 x3 x4 0 (sc.2 (w32 (x4 + 2)).toNat) (sc.2 (w32 (x4 + 1)).toNat) x2 r192) else (L_law_b1860 sc rk23 s193 x1 x2 x3 x4 1 (sc.2 (w32 (x4 + 2)).toNat) (sc.2 (w32 (x4 + 1)).toNat) x2 r192))))))
set_option maxRecDepth 100000 in
set_option maxHeartbeats 4000000 in
theorem L_law_b1830_s (G : Gx) (l : Launch) (hl : l.stackTraces = false) (rk23 : St → Int → Int → Int → Int → Rs) (hk23 : ∀ (s : St) (x1 x2 x3 x4 : Int), VQ (QLaw G) G l mL_law 23 [(0, (2, 1002000)), (1, (2, x1)), (2, (2, x2)), (3, (2, x3)), (4, (0, x4))] [] s (rk23 s x1 x2 x3 x4)) (s : St) (x1 x2 x3 x4 k0 k1 k2 k3 : Int) : VQ (QLaw G) G l mL_law 1830 [(0, (2, 1002000)), (1, (2, x1)), (2, (2, x2)), (3, (2, x3)), (4, (0, x4))] [(0, k0), (0, k1), (0, k2), (2, k3)] s (L_law_b1830 G.2.2.2.2.2.2 rk23 s x1 x2 x3 x4 k0 k1 k2 k3) := by
  unfold L_law_b1830
  refine V_callV0 (ci := 11) (a := k3) (As := [(0, k2), (0, k1), (0, k0)]) (st := []) rfl rfl (X11_most_s G l s k3 k2 k1 k0) cal_X11_most rfl ml_L_209 rfl rfl dec_L_law_45.2.2.1.2.2 (k_tag (tag := 1) rfl fun r192 s193 => ?_)
  refine V_aload_n dec_L_law_45.2.2.2.1 2 rfl ?_
  refine V_aload_n dec_L_law_45.2.2.2.2.1 0 rfl ?_
  refine V_iload dec_L_law_45.2.2.2.2.2 4 rfl ?_
  refine V_iconst dec_L_law_46.1.1.1.1 rfl ?_
  refine V_iadd dec_L_law_46.1.1.1.2.1 ?_
  refine V_sald dec_L_law_46.1.1.1.2.2 ?_
  refine V_aload_n dec_L_law_46.1.1.2.1 0 rfl ?_
  refine V_iload dec_L_law_46.1.1.2.2.1 4 rfl ?_
  refine V_iconst dec_L_law_46.1.1.2.2.2 rfl ?_
  refine V_iadd dec_L_law_46.1.2.1.1 ?_
  refine V_sald dec_L_law_46.1.2.1.2.1 ?_
  refine V_aload_n dec_L_law_46.1.2.1.2.2 0 rfl ?_
  refine V_iload dec_L_law_46.1.2.2.1 4 rfl ?_
  refine V_iconst dec_L_law_46.1.2.2.2.1 rfl ?_
  refine V_iadd dec_L_law_46.1.2.2.2.2 ?_
  refine V_sald dec_L_law_46.2.1.1.1 ?_
  refine V_if_eq (tgt := 1859) dec_L_law_46.2.1.1.2.1 (by decide) ?_ ?_
  · refine V_iconst dec_L_law_46.2.1.2.2.1 rfl ?_
    exact V_pick [0, 1, 2, 3, 4] rfl (L_law_b1860_s G l hl rk23 hk23 s193 x1 x2 x3 x4 0 (G.2.2.2.2.2.2.2 (w32 (x4 + 2)).toNat) (G.2.2.2.2.2.2.2 (w32 (x4 + 1)).toNat) x2 r192)
  · refine V_iconst dec_L_law_46.2.1.1.2.2 rfl ?_
    refine V_goto (tgt := 1860) dec_L_law_46.2.1.2.1 (by decide) ?_
    exact V_pick [0, 1, 2, 3, 4] rfl (L_law_b1860_s G l hl rk23 hk23 s193 x1 x2 x3 x4 1 (G.2.2.2.2.2.2.2 (w32 (x4 + 2)).toNat) (G.2.2.2.2.2.2.2 (w32 (x4 + 1)).toNat) x2 r192)
def L_law_b1803 (sc : Nat × (Nat → Int)) (rk23 : St → Int → Int → Int → Int → Rs) (s : St) (x1 x2 x3 x4 : Int) : Rs :=
  grd (0 ≤ (w32 (x4 + 1)) ∧ (w32 (x4 + 1)) < (sc.1 : Int)) (grd (0 ≤ (w32 (x4 + 2)) ∧ (w32 (x4 + 2)) < (sc.1 : Int)) (grd (0 ≤ (w32 (x4 + 3)) ∧ (w32 (x4 + 3)) < (sc.1 : Int)) (if (sc.2 (w32 (x4 + 3)).toNat) = 0 then (L_law_b1830 sc rk23 s x1 x2 x3 x4 0 (sc.2 (w32 (x4 + 2)).toNat) (sc.2 (w32 (x4 + 1)).toNat) x1) else (L_law_b1830 sc rk23 s x1 x2 x3 x4 1 (sc.2 (w32 (x4 + 2)).toNat) (sc.2 (w32 (x4 + 1)).toNat) x1))))
set_option maxRecDepth 100000 in
set_option maxHeartbeats 4000000 in
theorem L_law_b1803_s (G : Gx) (l : Launch) (hl : l.stackTraces = false) (rk23 : St → Int → Int → Int → Int → Rs) (hk23 : ∀ (s : St) (x1 x2 x3 x4 : Int), VQ (QLaw G) G l mL_law 23 [(0, (2, 1002000)), (1, (2, x1)), (2, (2, x2)), (3, (2, x3)), (4, (0, x4))] [] s (rk23 s x1 x2 x3 x4)) (s : St) (x1 x2 x3 x4 : Int) : VQ (QLaw G) G l mL_law 1803 [(0, (2, 1002000)), (1, (2, x1)), (2, (2, x2)), (3, (2, x3)), (4, (0, x4))] [] s (L_law_b1803 G.2.2.2.2.2.2 rk23 s x1 x2 x3 x4) := by
  unfold L_law_b1803
  refine V_aload_n dec_L_law_45.1.1.1.1 1 rfl ?_
  refine V_aload_n dec_L_law_45.1.1.1.2.1 0 rfl ?_
  refine V_iload dec_L_law_45.1.1.1.2.2 4 rfl ?_
  refine V_iconst dec_L_law_45.1.1.2.1 rfl ?_
  refine V_iadd dec_L_law_45.1.1.2.2.1 ?_
  refine V_sald dec_L_law_45.1.1.2.2.2 ?_
  refine V_aload_n dec_L_law_45.1.2.1.1 0 rfl ?_
  refine V_iload dec_L_law_45.1.2.1.2.1 4 rfl ?_
  refine V_iconst dec_L_law_45.1.2.1.2.2 rfl ?_
  refine V_iadd dec_L_law_45.1.2.2.1 ?_
  refine V_sald dec_L_law_45.1.2.2.2.1 ?_
  refine V_aload_n dec_L_law_45.1.2.2.2.2 0 rfl ?_
  refine V_iload dec_L_law_45.2.1.1.1 4 rfl ?_
  refine V_iconst dec_L_law_45.2.1.1.2.1 rfl ?_
  refine V_iadd dec_L_law_45.2.1.1.2.2 ?_
  refine V_sald dec_L_law_45.2.1.2.1 ?_
  refine V_if_eq (tgt := 1829) dec_L_law_45.2.1.2.2.1 (by decide) ?_ ?_
  · refine V_iconst dec_L_law_45.2.2.1.2.1 rfl ?_
    exact V_pick [0, 1, 2, 3, 4] rfl (L_law_b1830_s G l hl rk23 hk23 s x1 x2 x3 x4 0 (G.2.2.2.2.2.2.2 (w32 (x4 + 2)).toNat) (G.2.2.2.2.2.2.2 (w32 (x4 + 1)).toNat) x1)
  · refine V_iconst dec_L_law_45.2.1.2.2.2 rfl ?_
    refine V_goto (tgt := 1830) dec_L_law_45.2.2.1.1 (by decide) ?_
    exact V_pick [0, 1, 2, 3, 4] rfl (L_law_b1830_s G l hl rk23 hk23 s x1 x2 x3 x4 1 (G.2.2.2.2.2.2.2 (w32 (x4 + 2)).toNat) (G.2.2.2.2.2.2.2 (w32 (x4 + 1)).toNat) x1)
def L_law_b1926 (sc : Nat × (Nat → Int)) (rk23 : St → Int → Int → Int → Int → Rs) (s : St) (x1 x2 x3 x4 k0 k1 k2 k3 k4 : Int) : Rs :=
  grd (isK s 23 k3) (bnd (X13_mean s k3 k2 k1 k0) (fun r198 s199 => if (cmp3 k4 r198) = 0 then (L_law_b2315 sc rk23 s199 x1 x2 x3 x4) else (grd ((0 : Int) = 1) (some (0, s199)))))
set_option maxRecDepth 100000 in
set_option maxHeartbeats 4000000 in
theorem L_law_b1926_s (G : Gx) (l : Launch) (hl : l.stackTraces = false) (rk23 : St → Int → Int → Int → Int → Rs) (hk23 : ∀ (s : St) (x1 x2 x3 x4 : Int), VQ (QLaw G) G l mL_law 23 [(0, (2, 1002000)), (1, (2, x1)), (2, (2, x2)), (3, (2, x3)), (4, (0, x4))] [] s (rk23 s x1 x2 x3 x4)) (s : St) (x1 x2 x3 x4 k0 k1 k2 k3 k4 : Int) : VQ (QLaw G) G l mL_law 1926 [(0, (2, 1002000)), (1, (2, x1)), (2, (2, x2)), (3, (2, x3)), (4, (0, x4))] [(0, k0), (0, k1), (0, k2), (2, k3), (1, k4)] s (L_law_b1926 G.2.2.2.2.2.2 rk23 s x1 x2 x3 x4 k0 k1 k2 k3 k4) := by
  unfold L_law_b1926
  refine V_callV0 (ci := 13) (a := k3) (As := [(0, k2), (0, k1), (0, k0)]) (st := [(1, k4)]) rfl rfl (X13_mean_s G l s k3 k2 k1 k0) cal_X13_mean rfl ml_L_216 rfl rfl dec_L_law_48.2.1.2.1 (k_tag (tag := 1) rfl fun r198 s199 => ?_)
  refine V_lcmp dec_L_law_48.2.1.2.2.1 ?_
  refine V_if_eq (tgt := 2315) dec_L_law_48.2.1.2.2.2 (by decide) ?_ ?_
  · exact V_pick [0, 1, 2, 3, 4] rfl (L_law_b2315_s G l hl rk23 hk23 s199 x1 x2 x3 x4)
  · refine V_iconst dec_L_law_48.2.2.1.1 rfl ?_
    exact V_lawret rfl dec_L_law_48.2.2.1.2.1
def L_law_b1896 (sc : Nat × (Nat → Int)) (rk23 : St → Int → Int → Int → Int → Rs) (s : St) (x1 x2 x3 x4 k0 k1 k2 k3 : Int) : Rs :=
  grd (isK s 21 k3) (bnd (X11_mean s k3 k2 k1 k0) (fun r196 s197 => grd (0 ≤ (w32 (x4 + 1)) ∧ (w32 (x4 + 1)) < (sc.1 : Int)) (grd (0 ≤ (w32 (x4 + 2)) ∧ (w32 (x4 + 2)) < (sc.1 : Int)) (grd (0 ≤ (w32 (x4 + 3)) ∧ (w32 (x4 + 3)) < (sc.1 : Int)) (if (sc.2 (w32 (x4 + 3)).toNat) = 0 then (L_law_b1926 sc rk23 s197 x1 x2 x3 x4 0 (sc.2 (w32 (x4 + 2)).toNat) (sc.2 (w32 (x4 + 1)).toNat) x2 r196) else (L_law_b1926 sc rk23 s197 x1 x2 x3 x4 1 (sc.2 (w32 (x4 + 2)).toNat) (sc.2 (w32 (x4 + 1)).toNat) x2 r196))))))
set_option maxRecDepth 100000 in
set_option maxHeartbeats 4000000 in
theorem L_law_b1896_s (G : Gx) (l : Launch) (hl : l.stackTraces = false) (rk23 : St → Int → Int → Int → Int → Rs) (hk23 : ∀ (s : St) (x1 x2 x3 x4 : Int), VQ (QLaw G) G l mL_law 23 [(0, (2, 1002000)), (1, (2, x1)), (2, (2, x2)), (3, (2, x3)), (4, (0, x4))] [] s (rk23 s x1 x2 x3 x4)) (s : St) (x1 x2 x3 x4 k0 k1 k2 k3 : Int) : VQ (QLaw G) G l mL_law 1896 [(0, (2, 1002000)), (1, (2, x1)), (2, (2, x2)), (3, (2, x3)), (4, (0, x4))] [(0, k0), (0, k1), (0, k2), (2, k3)] s (L_law_b1896 G.2.2.2.2.2.2 rk23 s x1 x2 x3 x4 k0 k1 k2 k3) := by
  unfold L_law_b1896
  refine V_callV0 (ci := 11) (a := k3) (As := [(0, k2), (0, k1), (0, k0)]) (st := []) rfl rfl (X11_mean_s G l s k3 k2 k1 k0) cal_X11_mean rfl ml_L_213 rfl rfl dec_L_law_47.2.2.1.1 (k_tag (tag := 1) rfl fun r196 s197 => ?_)
  refine V_aload_n dec_L_law_47.2.2.1.2.1 2 rfl ?_
  refine V_aload_n dec_L_law_47.2.2.1.2.2 0 rfl ?_
  refine V_iload dec_L_law_47.2.2.2.1 4 rfl ?_
  refine V_iconst dec_L_law_47.2.2.2.2.1 rfl ?_
  refine V_iadd dec_L_law_47.2.2.2.2.2 ?_
  refine V_sald dec_L_law_48.1.1.1.1 ?_
  refine V_aload_n dec_L_law_48.1.1.1.2.1 0 rfl ?_
  refine V_iload dec_L_law_48.1.1.1.2.2 4 rfl ?_
  refine V_iconst dec_L_law_48.1.1.2.1 rfl ?_
  refine V_iadd dec_L_law_48.1.1.2.2.1 ?_
  refine V_sald dec_L_law_48.1.1.2.2.2 ?_
  refine V_aload_n dec_L_law_48.1.2.1.1 0 rfl ?_
  refine V_iload dec_L_law_48.1.2.1.2.1 4 rfl ?_
  refine V_iconst dec_L_law_48.1.2.1.2.2 rfl ?_
  refine V_iadd dec_L_law_48.1.2.2.1 ?_
  refine V_sald dec_L_law_48.1.2.2.2.1 ?_
  refine V_if_eq (tgt := 1925) dec_L_law_48.1.2.2.2.2 (by decide) ?_ ?_
  · refine V_iconst dec_L_law_48.2.1.1.2.2 rfl ?_
    exact V_pick [0, 1, 2, 3, 4] rfl (L_law_b1926_s G l hl rk23 hk23 s197 x1 x2 x3 x4 0 (G.2.2.2.2.2.2.2 (w32 (x4 + 2)).toNat) (G.2.2.2.2.2.2.2 (w32 (x4 + 1)).toNat) x2 r196)
  · refine V_iconst dec_L_law_48.2.1.1.1 rfl ?_
    refine V_goto (tgt := 1926) dec_L_law_48.2.1.1.2.1 (by decide) ?_
    exact V_pick [0, 1, 2, 3, 4] rfl (L_law_b1926_s G l hl rk23 hk23 s197 x1 x2 x3 x4 1 (G.2.2.2.2.2.2.2 (w32 (x4 + 2)).toNat) (G.2.2.2.2.2.2.2 (w32 (x4 + 1)).toNat) x2 r196)
def L_law_b1869 (sc : Nat × (Nat → Int)) (rk23 : St → Int → Int → Int → Int → Rs) (s : St) (x1 x2 x3 x4 : Int) : Rs :=
  grd (0 ≤ (w32 (x4 + 1)) ∧ (w32 (x4 + 1)) < (sc.1 : Int)) (grd (0 ≤ (w32 (x4 + 2)) ∧ (w32 (x4 + 2)) < (sc.1 : Int)) (grd (0 ≤ (w32 (x4 + 3)) ∧ (w32 (x4 + 3)) < (sc.1 : Int)) (if (sc.2 (w32 (x4 + 3)).toNat) = 0 then (L_law_b1896 sc rk23 s x1 x2 x3 x4 0 (sc.2 (w32 (x4 + 2)).toNat) (sc.2 (w32 (x4 + 1)).toNat) x1) else (L_law_b1896 sc rk23 s x1 x2 x3 x4 1 (sc.2 (w32 (x4 + 2)).toNat) (sc.2 (w32 (x4 + 1)).toNat) x1))))
set_option maxRecDepth 100000 in
set_option maxHeartbeats 4000000 in
theorem L_law_b1869_s (G : Gx) (l : Launch) (hl : l.stackTraces = false) (rk23 : St → Int → Int → Int → Int → Rs) (hk23 : ∀ (s : St) (x1 x2 x3 x4 : Int), VQ (QLaw G) G l mL_law 23 [(0, (2, 1002000)), (1, (2, x1)), (2, (2, x2)), (3, (2, x3)), (4, (0, x4))] [] s (rk23 s x1 x2 x3 x4)) (s : St) (x1 x2 x3 x4 : Int) : VQ (QLaw G) G l mL_law 1869 [(0, (2, 1002000)), (1, (2, x1)), (2, (2, x2)), (3, (2, x3)), (4, (0, x4))] [] s (L_law_b1869 G.2.2.2.2.2.2 rk23 s x1 x2 x3 x4) := by
  unfold L_law_b1869
  refine V_aload_n dec_L_law_46.2.2.2.2.1 1 rfl ?_
  refine V_aload_n dec_L_law_46.2.2.2.2.2 0 rfl ?_
  refine V_iload dec_L_law_47.1.1.1.1 4 rfl ?_
  refine V_iconst dec_L_law_47.1.1.1.2.1 rfl ?_
  refine V_iadd dec_L_law_47.1.1.1.2.2 ?_
  refine V_sald dec_L_law_47.1.1.2.1 ?_
  refine V_aload_n dec_L_law_47.1.1.2.2.1 0 rfl ?_
  refine V_iload dec_L_law_47.1.1.2.2.2 4 rfl ?_
  refine V_iconst dec_L_law_47.1.2.1.1 rfl ?_
  refine V_iadd dec_L_law_47.1.2.1.2.1 ?_
  refine V_sald dec_L_law_47.1.2.1.2.2 ?_
  refine V_aload_n dec_L_law_47.1.2.2.1 0 rfl ?_
  refine V_iload dec_L_law_47.1.2.2.2.1 4 rfl ?_
  refine V_iconst dec_L_law_47.1.2.2.2.2 rfl ?_
  refine V_iadd dec_L_law_47.2.1.1.1 ?_
  refine V_sald dec_L_law_47.2.1.1.2.1 ?_
  refine V_if_eq (tgt := 1895) dec_L_law_47.2.1.1.2.2 (by decide) ?_ ?_
  · refine V_iconst dec_L_law_47.2.1.2.2.2 rfl ?_
    exact V_pick [0, 1, 2, 3, 4] rfl (L_law_b1896_s G l hl rk23 hk23 s x1 x2 x3 x4 0 (G.2.2.2.2.2.2.2 (w32 (x4 + 2)).toNat) (G.2.2.2.2.2.2.2 (w32 (x4 + 1)).toNat) x1)
  · refine V_iconst dec_L_law_47.2.1.2.1 rfl ?_
    refine V_goto (tgt := 1896) dec_L_law_47.2.1.2.2.1 (by decide) ?_
    exact V_pick [0, 1, 2, 3, 4] rfl (L_law_b1896_s G l hl rk23 hk23 s x1 x2 x3 x4 1 (G.2.2.2.2.2.2.2 (w32 (x4 + 2)).toNat) (G.2.2.2.2.2.2.2 (w32 (x4 + 1)).toNat) x1)
def L_law_b1935 (sc : Nat × (Nat → Int)) (rk23 : St → Int → Int → Int → Int → Rs) (s : St) (x1 x2 x3 x4 : Int) : Rs :=
  grd (0 ≤ (w32 (x4 + 1)) ∧ (w32 (x4 + 1)) < (sc.1 : Int)) (grd (0 ≤ (w32 (x4 + 2)) ∧ (w32 (x4 + 2)) < (sc.1 : Int)) (grd (0 ≤ (w32 (x4 + 3)) ∧ (w32 (x4 + 3)) < (sc.1 : Int)) (grd (isK s 21 x1) (bnd (X11_heardBy s x1 (sc.2 (w32 (x4 + 1)).toNat) (sc.2 (w32 (x4 + 2)).toNat) (sc.2 (w32 (x4 + 3)).toNat)) (fun r200 s201 => grd (0 ≤ (w32 (x4 + 1)) ∧ (w32 (x4 + 1)) < (sc.1 : Int)) (grd (0 ≤ (w32 (x4 + 2)) ∧ (w32 (x4 + 2)) < (sc.1 : Int)) (grd (0 ≤ (w32 (x4 + 3)) ∧ (w32 (x4 + 3)) < (sc.1 : Int)) (grd (isK s201 23 x2) (bnd (X13_heardBy s201 x2 (sc.2 (w32 (x4 + 1)).toNat) (sc.2 (w32 (x4 + 2)).toNat) (sc.2 (w32 (x4 + 3)).toNat)) (fun r202 s203 => if r200 = r202 then (L_law_b2315 sc rk23 s203 x1 x2 x3 x4) else (grd ((0 : Int) = 1) (some (0, s203)))))))))))))
set_option maxRecDepth 100000 in
set_option maxHeartbeats 4000000 in
theorem L_law_b1935_s (G : Gx) (l : Launch) (hl : l.stackTraces = false) (rk23 : St → Int → Int → Int → Int → Rs) (hk23 : ∀ (s : St) (x1 x2 x3 x4 : Int), VQ (QLaw G) G l mL_law 23 [(0, (2, 1002000)), (1, (2, x1)), (2, (2, x2)), (3, (2, x3)), (4, (0, x4))] [] s (rk23 s x1 x2 x3 x4)) (s : St) (x1 x2 x3 x4 : Int) : VQ (QLaw G) G l mL_law 1935 [(0, (2, 1002000)), (1, (2, x1)), (2, (2, x2)), (3, (2, x3)), (4, (0, x4))] [] s (L_law_b1935 G.2.2.2.2.2.2 rk23 s x1 x2 x3 x4) := by
  unfold L_law_b1935
  refine V_aload_n dec_L_law_48.2.2.1.2.2 1 rfl ?_
  refine V_aload_n dec_L_law_48.2.2.2.1 0 rfl ?_
  refine V_iload dec_L_law_48.2.2.2.2.1 4 rfl ?_
  refine V_iconst dec_L_law_48.2.2.2.2.2 rfl ?_
  refine V_iadd dec_L_law_49.1.1.1.1 ?_
  refine V_sald dec_L_law_49.1.1.1.2.1 ?_
  refine V_aload_n dec_L_law_49.1.1.1.2.2 0 rfl ?_
  refine V_iload dec_L_law_49.1.1.2.1 4 rfl ?_
  refine V_iconst dec_L_law_49.1.1.2.2.1 rfl ?_
  refine V_iadd dec_L_law_49.1.1.2.2.2 ?_
  refine V_sald dec_L_law_49.1.2.1.1 ?_
  refine V_aload_n dec_L_law_49.1.2.1.2.1 0 rfl ?_
  refine V_iload dec_L_law_49.1.2.1.2.2 4 rfl ?_
  refine V_iconst dec_L_law_49.1.2.2.1 rfl ?_
  refine V_iadd dec_L_law_49.1.2.2.2.1 ?_
  refine V_sald dec_L_law_49.1.2.2.2.2 ?_
  refine V_callV0 (ci := 11) (a := x1) (As := [(0, (G.2.2.2.2.2.2.2 (w32 (x4 + 1)).toNat)), (0, (G.2.2.2.2.2.2.2 (w32 (x4 + 2)).toNat)), (0, (G.2.2.2.2.2.2.2 (w32 (x4 + 3)).toNat))]) (st := []) rfl rfl (X11_heardBy_s G l s x1 (G.2.2.2.2.2.2.2 (w32 (x4 + 1)).toNat) (G.2.2.2.2.2.2.2 (w32 (x4 + 2)).toNat) (G.2.2.2.2.2.2.2 (w32 (x4 + 3)).toNat)) cal_X11_heardBy rfl ml_L_217 rfl rfl dec_L_law_49.2.1.1.1 (k_tag (tag := 0) rfl fun r200 s201 => ?_)
  refine V_aload_n dec_L_law_49.2.1.1.2.1 2 rfl ?_
  refine V_aload_n dec_L_law_49.2.1.1.2.2 0 rfl ?_
  refine V_iload dec_L_law_49.2.1.2.1 4 rfl ?_
  refine V_iconst dec_L_law_49.2.1.2.2.1 rfl ?_
  refine V_iadd dec_L_law_49.2.1.2.2.2 ?_
  refine V_sald dec_L_law_49.2.2.1.1 ?_
  refine V_aload_n dec_L_law_49.2.2.1.2.1 0 rfl ?_
  refine V_iload dec_L_law_49.2.2.1.2.2 4 rfl ?_
  refine V_iconst dec_L_law_49.2.2.2.1 rfl ?_
  refine V_iadd dec_L_law_49.2.2.2.2.1 ?_
  refine V_sald dec_L_law_49.2.2.2.2.2 ?_
  refine V_aload_n dec_L_law_50.1.1.1.1 0 rfl ?_
  refine V_iload dec_L_law_50.1.1.1.2.1 4 rfl ?_
  refine V_iconst dec_L_law_50.1.1.1.2.2 rfl ?_
  refine V_iadd dec_L_law_50.1.1.2.1 ?_
  refine V_sald dec_L_law_50.1.1.2.2.1 ?_
  refine V_callV0 (ci := 13) (a := x2) (As := [(0, (G.2.2.2.2.2.2.2 (w32 (x4 + 1)).toNat)), (0, (G.2.2.2.2.2.2.2 (w32 (x4 + 2)).toNat)), (0, (G.2.2.2.2.2.2.2 (w32 (x4 + 3)).toNat))]) (st := [(0, r200)]) rfl rfl (X13_heardBy_s G l s201 x2 (G.2.2.2.2.2.2.2 (w32 (x4 + 1)).toNat) (G.2.2.2.2.2.2.2 (w32 (x4 + 2)).toNat) (G.2.2.2.2.2.2.2 (w32 (x4 + 3)).toNat)) cal_X13_heardBy rfl ml_L_220 rfl rfl dec_L_law_50.1.1.2.2.2 (k_tag (tag := 0) rfl fun r202 s203 => ?_)
  refine V_icmp_eq (tgt := 2315) dec_L_law_50.1.2.1.1 (by decide) ?_ ?_
  · exact V_pick [0, 1, 2, 3, 4] rfl (L_law_b2315_s G l hl rk23 hk23 s203 x1 x2 x3 x4)
  · refine V_iconst dec_L_law_50.1.2.1.2.1 rfl ?_
    exact V_lawret rfl dec_L_law_50.1.2.1.2.2
def L_law_b1984 (sc : Nat × (Nat → Int)) (rk23 : St → Int → Int → Int → Int → Rs) (s : St) (x1 x2 x3 x4 : Int) : Rs :=
  grd (0 ≤ (w32 (x4 + 1)) ∧ (w32 (x4 + 1)) < (sc.1 : Int)) (grd (0 ≤ (w32 (x4 + 2)) ∧ (w32 (x4 + 2)) < (sc.1 : Int)) (grd (isK s 21 x1) (bnd (X11_rights s x1 (sc.2 (w32 (x4 + 1)).toNat) (sc.2 (w32 (x4 + 2)).toNat)) (fun r204 s205 => grd (0 ≤ (w32 (x4 + 1)) ∧ (w32 (x4 + 1)) < (sc.1 : Int)) (grd (0 ≤ (w32 (x4 + 2)) ∧ (w32 (x4 + 2)) < (sc.1 : Int)) (grd (isK s205 23 x2) (bnd (X13_rights s205 x2 (sc.2 (w32 (x4 + 1)).toNat) (sc.2 (w32 (x4 + 2)).toNat)) (fun r206 s207 => if r204 = r206 then (L_law_b2315 sc rk23 s207 x1 x2 x3 x4) else (grd ((0 : Int) = 1) (some (0, s207)))))))))))
set_option maxRecDepth 100000 in
set_option maxHeartbeats 4000000 in
theorem L_law_b1984_s (G : Gx) (l : Launch) (hl : l.stackTraces = false) (rk23 : St → Int → Int → Int → Int → Rs) (hk23 : ∀ (s : St) (x1 x2 x3 x4 : Int), VQ (QLaw G) G l mL_law 23 [(0, (2, 1002000)), (1, (2, x1)), (2, (2, x2)), (3, (2, x3)), (4, (0, x4))] [] s (rk23 s x1 x2 x3 x4)) (s : St) (x1 x2 x3 x4 : Int) : VQ (QLaw G) G l mL_law 1984 [(0, (2, 1002000)), (1, (2, x1)), (2, (2, x2)), (3, (2, x3)), (4, (0, x4))] [] s (L_law_b1984 G.2.2.2.2.2.2 rk23 s x1 x2 x3 x4) := by
  unfold L_law_b1984
  refine V_aload_n dec_L_law_50.1.2.2.1 1 rfl ?_
  refine V_aload_n dec_L_law_50.1.2.2.2.1 0 rfl ?_
  refine V_iload dec_L_law_50.1.2.2.2.2 4 rfl ?_
  refine V_iconst dec_L_law_50.2.1.1.1 rfl ?_
  refine V_iadd dec_L_law_50.2.1.1.2.1 ?_
  refine V_sald dec_L_law_50.2.1.1.2.2 ?_
  refine V_aload_n dec_L_law_50.2.1.2.1 0 rfl ?_
  refine V_iload dec_L_law_50.2.1.2.2.1 4 rfl ?_
  refine V_iconst dec_L_law_50.2.1.2.2.2 rfl ?_
  refine V_iadd dec_L_law_50.2.2.1.1 ?_
  refine V_sald dec_L_law_50.2.2.1.2.1 ?_
  refine V_callV0 (ci := 11) (a := x1) (As := [(0, (G.2.2.2.2.2.2.2 (w32 (x4 + 1)).toNat)), (0, (G.2.2.2.2.2.2.2 (w32 (x4 + 2)).toNat))]) (st := []) rfl rfl (X11_rights_s G l s x1 (G.2.2.2.2.2.2.2 (w32 (x4 + 1)).toNat) (G.2.2.2.2.2.2.2 (w32 (x4 + 2)).toNat)) cal_X11_rights rfl ml_L_221 rfl rfl dec_L_law_50.2.2.1.2.2 (k_tag (tag := 0) rfl fun r204 s205 => ?_)
  refine V_aload_n dec_L_law_50.2.2.2.1 2 rfl ?_
  refine V_aload_n dec_L_law_50.2.2.2.2.1 0 rfl ?_
  refine V_iload dec_L_law_50.2.2.2.2.2 4 rfl ?_
  refine V_iconst dec_L_law_51.1.1.1.1 rfl ?_
  refine V_iadd dec_L_law_51.1.1.1.2.1 ?_
  refine V_sald dec_L_law_51.1.1.1.2.2 ?_
  refine V_aload_n dec_L_law_51.1.1.2.1 0 rfl ?_
  refine V_iload dec_L_law_51.1.1.2.2.1 4 rfl ?_
  refine V_iconst dec_L_law_51.1.1.2.2.2 rfl ?_
  refine V_iadd dec_L_law_51.1.2.1.1 ?_
  refine V_sald dec_L_law_51.1.2.1.2.1 ?_
  refine V_callV0 (ci := 13) (a := x2) (As := [(0, (G.2.2.2.2.2.2.2 (w32 (x4 + 1)).toNat)), (0, (G.2.2.2.2.2.2.2 (w32 (x4 + 2)).toNat))]) (st := [(0, r204)]) rfl rfl (X13_rights_s G l s205 x2 (G.2.2.2.2.2.2.2 (w32 (x4 + 1)).toNat) (G.2.2.2.2.2.2.2 (w32 (x4 + 2)).toNat)) cal_X13_rights rfl ml_L_224 rfl rfl dec_L_law_51.1.2.1.2.2 (k_tag (tag := 0) rfl fun r206 s207 => ?_)
  refine V_icmp_eq (tgt := 2315) dec_L_law_51.1.2.2.1 (by decide) ?_ ?_
  · exact V_pick [0, 1, 2, 3, 4] rfl (L_law_b2315_s G l hl rk23 hk23 s207 x1 x2 x3 x4)
  · refine V_iconst dec_L_law_51.1.2.2.2.1 rfl ?_
    exact V_lawret rfl dec_L_law_51.1.2.2.2.2
def L_law_b2021 (sc : Nat × (Nat → Int)) (rk23 : St → Int → Int → Int → Int → Rs) (s : St) (x1 x2 x3 x4 : Int) : Rs :=
  grd (isK s 21 x1) (bnd (X11_night s x1) (fun r208 s209 => grd (isK s209 23 x2) (bnd (X13_night s209 x2) (fun r210 s211 => if r208 = r210 then (L_law_b2315 sc rk23 s211 x1 x2 x3 x4) else (grd ((0 : Int) = 1) (some (0, s211)))))))
set_option maxRecDepth 100000 in
set_option maxHeartbeats 4000000 in
theorem L_law_b2021_s (G : Gx) (l : Launch) (hl : l.stackTraces = false) (rk23 : St → Int → Int → Int → Int → Rs) (hk23 : ∀ (s : St) (x1 x2 x3 x4 : Int), VQ (QLaw G) G l mL_law 23 [(0, (2, 1002000)), (1, (2, x1)), (2, (2, x2)), (3, (2, x3)), (4, (0, x4))] [] s (rk23 s x1 x2 x3 x4)) (s : St) (x1 x2 x3 x4 : Int) : VQ (QLaw G) G l mL_law 2021 [(0, (2, 1002000)), (1, (2, x1)), (2, (2, x2)), (3, (2, x3)), (4, (0, x4))] [] s (L_law_b2021 G.2.2.2.2.2.2 rk23 s x1 x2 x3 x4) := by
  unfold L_law_b2021
  refine V_aload_n dec_L_law_51.2.1.1.1 1 rfl ?_
  refine V_callV0 (ci := 11) (a := x1) (As := []) (st := []) rfl rfl (X11_night_s G l s x1) cal_X11_night rfl ml_L_225 rfl rfl dec_L_law_51.2.1.1.2.1 (k_tag (tag := 0) rfl fun r208 s209 => ?_)
  refine V_aload_n dec_L_law_51.2.1.1.2.2 2 rfl ?_
  refine V_callV0 (ci := 13) (a := x2) (As := []) (st := [(0, r208)]) rfl rfl (X13_night_s G l s209 x2) cal_X13_night rfl ml_L_228 rfl rfl dec_L_law_51.2.1.2.1 (k_tag (tag := 0) rfl fun r210 s211 => ?_)
  refine V_icmp_eq (tgt := 2315) dec_L_law_51.2.1.2.2.1 (by decide) ?_ ?_
  · exact V_pick [0, 1, 2, 3, 4] rfl (L_law_b2315_s G l hl rk23 hk23 s211 x1 x2 x3 x4)
  · refine V_iconst dec_L_law_51.2.1.2.2.2 rfl ?_
    exact V_lawret rfl dec_L_law_51.2.2.1.1
def L_law_b2034 (sc : Nat × (Nat → Int)) (rk23 : St → Int → Int → Int → Int → Rs) (s : St) (x1 x2 x3 x4 : Int) : Rs :=
  grd (0 ≤ (w32 (x4 + 1)) ∧ (w32 (x4 + 1)) < (sc.1 : Int)) (grd (0 ≤ (w32 (x4 + 2)) ∧ (w32 (x4 + 2)) < (sc.1 : Int)) (grd (isK s 21 x1) (bnd (X11_move s x1 (sc.2 (w32 (x4 + 1)).toNat) (sc.2 (w32 (x4 + 2)).toNat)) (fun r212 s213 => grd (0 ≤ (w32 (x4 + 1)) ∧ (w32 (x4 + 1)) < (sc.1 : Int)) (grd (0 ≤ (w32 (x4 + 2)) ∧ (w32 (x4 + 2)) < (sc.1 : Int)) (grd (isK s213 23 x2) (bnd (X13_move s213 x2 (sc.2 (w32 (x4 + 1)).toNat) (sc.2 (w32 (x4 + 2)).toNat)) (fun r214 s215 => if r212 = r214 then (L_law_b2315 sc rk23 s215 x1 x2 x3 x4) else (grd ((0 : Int) = 1) (some (0, s215)))))))))))
set_option maxRecDepth 100000 in
set_option maxHeartbeats 4000000 in
theorem L_law_b2034_s (G : Gx) (l : Launch) (hl : l.stackTraces = false) (rk23 : St → Int → Int → Int → Int → Rs) (hk23 : ∀ (s : St) (x1 x2 x3 x4 : Int), VQ (QLaw G) G l mL_law 23 [(0, (2, 1002000)), (1, (2, x1)), (2, (2, x2)), (3, (2, x3)), (4, (0, x4))] [] s (rk23 s x1 x2 x3 x4)) (s : St) (x1 x2 x3 x4 : Int) : VQ (QLaw G) G l mL_law 2034 [(0, (2, 1002000)), (1, (2, x1)), (2, (2, x2)), (3, (2, x3)), (4, (0, x4))] [] s (L_law_b2034 G.2.2.2.2.2.2 rk23 s x1 x2 x3 x4) := by
  unfold L_law_b2034
  refine V_aload_n dec_L_law_51.2.2.1.2.1 1 rfl ?_
  refine V_aload_n dec_L_law_51.2.2.1.2.2 0 rfl ?_
  refine V_iload dec_L_law_51.2.2.2.1 4 rfl ?_
  refine V_iconst dec_L_law_51.2.2.2.2.1 rfl ?_
  refine V_iadd dec_L_law_51.2.2.2.2.2 ?_
  refine V_sald dec_L_law_52.1.1.1.1 ?_
  refine V_aload_n dec_L_law_52.1.1.1.2.1 0 rfl ?_
  refine V_iload dec_L_law_52.1.1.1.2.2 4 rfl ?_
  refine V_iconst dec_L_law_52.1.1.2.1 rfl ?_
  refine V_iadd dec_L_law_52.1.1.2.2.1 ?_
  refine V_sald dec_L_law_52.1.1.2.2.2 ?_
  refine V_callV0 (ci := 11) (a := x1) (As := [(0, (G.2.2.2.2.2.2.2 (w32 (x4 + 1)).toNat)), (0, (G.2.2.2.2.2.2.2 (w32 (x4 + 2)).toNat))]) (st := []) rfl rfl (X11_move_s G l s x1 (G.2.2.2.2.2.2.2 (w32 (x4 + 1)).toNat) (G.2.2.2.2.2.2.2 (w32 (x4 + 2)).toNat)) cal_X11_move rfl ml_L_229 rfl rfl dec_L_law_52.1.2.1.1 (k_tag (tag := 0) rfl fun r212 s213 => ?_)
  refine V_aload_n dec_L_law_52.1.2.1.2.1 2 rfl ?_
  refine V_aload_n dec_L_law_52.1.2.1.2.2 0 rfl ?_
  refine V_iload dec_L_law_52.1.2.2.1 4 rfl ?_
  refine V_iconst dec_L_law_52.1.2.2.2.1 rfl ?_
  refine V_iadd dec_L_law_52.1.2.2.2.2 ?_
  refine V_sald dec_L_law_52.2.1.1.1 ?_
  refine V_aload_n dec_L_law_52.2.1.1.2.1 0 rfl ?_
  refine V_iload dec_L_law_52.2.1.1.2.2 4 rfl ?_
  refine V_iconst dec_L_law_52.2.1.2.1 rfl ?_
  refine V_iadd dec_L_law_52.2.1.2.2.1 ?_
  refine V_sald dec_L_law_52.2.1.2.2.2 ?_
  refine V_callV0 (ci := 13) (a := x2) (As := [(0, (G.2.2.2.2.2.2.2 (w32 (x4 + 1)).toNat)), (0, (G.2.2.2.2.2.2.2 (w32 (x4 + 2)).toNat))]) (st := [(0, r212)]) rfl rfl (X13_move_s G l s213 x2 (G.2.2.2.2.2.2.2 (w32 (x4 + 1)).toNat) (G.2.2.2.2.2.2.2 (w32 (x4 + 2)).toNat)) cal_X13_move rfl ml_L_232 rfl rfl dec_L_law_52.2.2.1.1 (k_tag (tag := 0) rfl fun r214 s215 => ?_)
  refine V_icmp_eq (tgt := 2315) dec_L_law_52.2.2.1.2.1 (by decide) ?_ ?_
  · exact V_pick [0, 1, 2, 3, 4] rfl (L_law_b2315_s G l hl rk23 hk23 s215 x1 x2 x3 x4)
  · refine V_iconst dec_L_law_52.2.2.1.2.2 rfl ?_
    exact V_lawret rfl dec_L_law_52.2.2.2.1
def L_law_b2071 (sc : Nat × (Nat → Int)) (rk23 : St → Int → Int → Int → Int → Rs) (s : St) (x1 x2 x3 x4 : Int) : Rs :=
  grd (0 ≤ (w32 (x4 + 1)) ∧ (w32 (x4 + 1)) < (sc.1 : Int)) (grd (0 ≤ (w32 (x4 + 2)) ∧ (w32 (x4 + 2)) < (sc.1 : Int)) (grd (isK s 21 x1) (bnd (X11_hang s x1 (sc.2 (w32 (x4 + 1)).toNat) (sc.2 (w32 (x4 + 2)).toNat)) (fun r216 s217 => grd (0 ≤ (w32 (x4 + 1)) ∧ (w32 (x4 + 1)) < (sc.1 : Int)) (grd (0 ≤ (w32 (x4 + 2)) ∧ (w32 (x4 + 2)) < (sc.1 : Int)) (grd (isK s217 23 x2) (bnd (X13_hang s217 x2 (sc.2 (w32 (x4 + 1)).toNat) (sc.2 (w32 (x4 + 2)).toNat)) (fun r218 s219 => if r216 = r218 then (L_law_b2315 sc rk23 s219 x1 x2 x3 x4) else (grd ((0 : Int) = 1) (some (0, s219)))))))))))
set_option maxRecDepth 100000 in
set_option maxHeartbeats 4000000 in
theorem L_law_b2071_s (G : Gx) (l : Launch) (hl : l.stackTraces = false) (rk23 : St → Int → Int → Int → Int → Rs) (hk23 : ∀ (s : St) (x1 x2 x3 x4 : Int), VQ (QLaw G) G l mL_law 23 [(0, (2, 1002000)), (1, (2, x1)), (2, (2, x2)), (3, (2, x3)), (4, (0, x4))] [] s (rk23 s x1 x2 x3 x4)) (s : St) (x1 x2 x3 x4 : Int) : VQ (QLaw G) G l mL_law 2071 [(0, (2, 1002000)), (1, (2, x1)), (2, (2, x2)), (3, (2, x3)), (4, (0, x4))] [] s (L_law_b2071 G.2.2.2.2.2.2 rk23 s x1 x2 x3 x4) := by
  unfold L_law_b2071
  refine V_aload_n dec_L_law_52.2.2.2.2.1 1 rfl ?_
  refine V_aload_n dec_L_law_52.2.2.2.2.2 0 rfl ?_
  refine V_iload dec_L_law_53.1.1.1.1 4 rfl ?_
  refine V_iconst dec_L_law_53.1.1.1.2.1 rfl ?_
  refine V_iadd dec_L_law_53.1.1.1.2.2 ?_
  refine V_sald dec_L_law_53.1.1.2.1 ?_
  refine V_aload_n dec_L_law_53.1.1.2.2.1 0 rfl ?_
  refine V_iload dec_L_law_53.1.1.2.2.2 4 rfl ?_
  refine V_iconst dec_L_law_53.1.2.1.1 rfl ?_
  refine V_iadd dec_L_law_53.1.2.1.2.1 ?_
  refine V_sald dec_L_law_53.1.2.1.2.2 ?_
  refine V_callV0 (ci := 11) (a := x1) (As := [(0, (G.2.2.2.2.2.2.2 (w32 (x4 + 1)).toNat)), (0, (G.2.2.2.2.2.2.2 (w32 (x4 + 2)).toNat))]) (st := []) rfl rfl (X11_hang_s G l s x1 (G.2.2.2.2.2.2.2 (w32 (x4 + 1)).toNat) (G.2.2.2.2.2.2.2 (w32 (x4 + 2)).toNat)) cal_X11_hang rfl ml_L_233 rfl rfl dec_L_law_53.1.2.2.1 (k_tag (tag := 0) rfl fun r216 s217 => ?_)
  refine V_aload_n dec_L_law_53.1.2.2.2.1 2 rfl ?_
  refine V_aload_n dec_L_law_53.1.2.2.2.2 0 rfl ?_
  refine V_iload dec_L_law_53.2.1.1.1 4 rfl ?_
  refine V_iconst dec_L_law_53.2.1.1.2.1 rfl ?_
  refine V_iadd dec_L_law_53.2.1.1.2.2 ?_
  refine V_sald dec_L_law_53.2.1.2.1 ?_
  refine V_aload_n dec_L_law_53.2.1.2.2.1 0 rfl ?_
  refine V_iload dec_L_law_53.2.1.2.2.2 4 rfl ?_
  refine V_iconst dec_L_law_53.2.2.1.1 rfl ?_
  refine V_iadd dec_L_law_53.2.2.1.2.1 ?_
  refine V_sald dec_L_law_53.2.2.1.2.2 ?_
  refine V_callV0 (ci := 13) (a := x2) (As := [(0, (G.2.2.2.2.2.2.2 (w32 (x4 + 1)).toNat)), (0, (G.2.2.2.2.2.2.2 (w32 (x4 + 2)).toNat))]) (st := [(0, r216)]) rfl rfl (X13_hang_s G l s217 x2 (G.2.2.2.2.2.2.2 (w32 (x4 + 1)).toNat) (G.2.2.2.2.2.2.2 (w32 (x4 + 2)).toNat)) cal_X13_hang rfl ml_L_237 rfl rfl dec_L_law_53.2.2.2.1 (k_tag (tag := 0) rfl fun r218 s219 => ?_)
  refine V_icmp_eq (tgt := 2315) dec_L_law_53.2.2.2.2.1 (by decide) ?_ ?_
  · exact V_pick [0, 1, 2, 3, 4] rfl (L_law_b2315_s G l hl rk23 hk23 s219 x1 x2 x3 x4)
  · refine V_iconst dec_L_law_53.2.2.2.2.2 rfl ?_
    exact V_lawret rfl dec_L_law_54.1.1.1.1
def L_law_b2108 (sc : Nat × (Nat → Int)) (rk23 : St → Int → Int → Int → Int → Rs) (s : St) (x1 x2 x3 x4 : Int) : Rs :=
  grd (0 ≤ (w32 (x4 + 1)) ∧ (w32 (x4 + 1)) < (sc.1 : Int)) (grd (isK s 21 x1) (bnd (X11_take s x1 (sc.2 (w32 (x4 + 1)).toNat)) (fun r220 s221 => grd (0 ≤ (w32 (x4 + 1)) ∧ (w32 (x4 + 1)) < (sc.1 : Int)) (grd (isK s221 23 x2) (bnd (X13_take s221 x2 (sc.2 (w32 (x4 + 1)).toNat)) (fun r222 s223 => if r220 = r222 then (L_law_b2315 sc rk23 s223 x1 x2 x3 x4) else (grd ((0 : Int) = 1) (some (0, s223)))))))))
set_option maxRecDepth 100000 in
set_option maxHeartbeats 4000000 in
theorem L_law_b2108_s (G : Gx) (l : Launch) (hl : l.stackTraces = false) (rk23 : St → Int → Int → Int → Int → Rs) (hk23 : ∀ (s : St) (x1 x2 x3 x4 : Int), VQ (QLaw G) G l mL_law 23 [(0, (2, 1002000)), (1, (2, x1)), (2, (2, x2)), (3, (2, x3)), (4, (0, x4))] [] s (rk23 s x1 x2 x3 x4)) (s : St) (x1 x2 x3 x4 : Int) : VQ (QLaw G) G l mL_law 2108 [(0, (2, 1002000)), (1, (2, x1)), (2, (2, x2)), (3, (2, x3)), (4, (0, x4))] [] s (L_law_b2108 G.2.2.2.2.2.2 rk23 s x1 x2 x3 x4) := by
  unfold L_law_b2108
  refine V_aload_n dec_L_law_54.1.1.1.2.1 1 rfl ?_
  refine V_aload_n dec_L_law_54.1.1.1.2.2 0 rfl ?_
  refine V_iload dec_L_law_54.1.1.2.1 4 rfl ?_
  refine V_iconst dec_L_law_54.1.1.2.2.1 rfl ?_
  refine V_iadd dec_L_law_54.1.1.2.2.2 ?_
  refine V_sald dec_L_law_54.1.2.1.1 ?_
  refine V_callV0 (ci := 11) (a := x1) (As := [(0, (G.2.2.2.2.2.2.2 (w32 (x4 + 1)).toNat))]) (st := []) rfl rfl (X11_take_s G l s x1 (G.2.2.2.2.2.2.2 (w32 (x4 + 1)).toNat)) cal_X11_take rfl ml_L_238 rfl rfl dec_L_law_54.1.2.1.2.1 (k_tag (tag := 0) rfl fun r220 s221 => ?_)
  refine V_aload_n dec_L_law_54.1.2.1.2.2 2 rfl ?_
  refine V_aload_n dec_L_law_54.1.2.2.1 0 rfl ?_
  refine V_iload dec_L_law_54.1.2.2.2.1 4 rfl ?_
  refine V_iconst dec_L_law_54.1.2.2.2.2 rfl ?_
  refine V_iadd dec_L_law_54.2.1.1.1 ?_
  refine V_sald dec_L_law_54.2.1.1.2.1 ?_
  refine V_callV0 (ci := 13) (a := x2) (As := [(0, (G.2.2.2.2.2.2.2 (w32 (x4 + 1)).toNat))]) (st := [(0, r220)]) rfl rfl (X13_take_s G l s221 x2 (G.2.2.2.2.2.2.2 (w32 (x4 + 1)).toNat)) cal_X13_take rfl ml_L_242 rfl rfl dec_L_law_54.2.1.1.2.2 (k_tag (tag := 0) rfl fun r222 s223 => ?_)
  refine V_icmp_eq (tgt := 2315) dec_L_law_54.2.1.2.1 (by decide) ?_ ?_
  · exact V_pick [0, 1, 2, 3, 4] rfl (L_law_b2315_s G l hl rk23 hk23 s223 x1 x2 x3 x4)
  · refine V_iconst dec_L_law_54.2.1.2.2.1 rfl ?_
    exact V_lawret rfl dec_L_law_54.2.1.2.2.2
def L_law_b2133 (sc : Nat × (Nat → Int)) (rk23 : St → Int → Int → Int → Int → Rs) (s : St) (x1 x2 x3 x4 : Int) : Rs :=
  grd (0 ≤ (w32 (x4 + 1)) ∧ (w32 (x4 + 1)) < (sc.1 : Int)) (grd (0 ≤ (w32 (x4 + 2)) ∧ (w32 (x4 + 2)) < (sc.1 : Int)) (grd (isK s 21 x1) (bnd (X11_teach s x1 (sc.2 (w32 (x4 + 1)).toNat) (sc.2 (w32 (x4 + 2)).toNat)) (fun r224 s225 => grd (0 ≤ (w32 (x4 + 1)) ∧ (w32 (x4 + 1)) < (sc.1 : Int)) (grd (0 ≤ (w32 (x4 + 2)) ∧ (w32 (x4 + 2)) < (sc.1 : Int)) (grd (isK s225 23 x2) (bnd (X13_teach s225 x2 (sc.2 (w32 (x4 + 1)).toNat) (sc.2 (w32 (x4 + 2)).toNat)) (fun r226 s227 => if r224 = r226 then (L_law_b2315 sc rk23 s227 x1 x2 x3 x4) else (grd ((0 : Int) = 1) (some (0, s227)))))))))))
set_option maxRecDepth 100000 in
set_option maxHeartbeats 4000000 in
theorem L_law_b2133_s (G : Gx) (l : Launch) (hl : l.stackTraces = false) (rk23 : St → Int → Int → Int → Int → Rs) (hk23 : ∀ (s : St) (x1 x2 x3 x4 : Int), VQ (QLaw G) G l mL_law 23 [(0, (2, 1002000)), (1, (2, x1)), (2, (2, x2)), (3, (2, x3)), (4, (0, x4))] [] s (rk23 s x1 x2 x3 x4)) (s : St) (x1 x2 x3 x4 : Int) : VQ (QLaw G) G l mL_law 2133 [(0, (2, 1002000)), (1, (2, x1)), (2, (2, x2)), (3, (2, x3)), (4, (0, x4))] [] s (L_law_b2133 G.2.2.2.2.2.2 rk23 s x1 x2 x3 x4) := by
  unfold L_law_b2133
  refine V_aload_n dec_L_law_54.2.2.1.1 1 rfl ?_
  refine V_aload_n dec_L_law_54.2.2.1.2.1 0 rfl ?_
  refine V_iload dec_L_law_54.2.2.1.2.2 4 rfl ?_
  refine V_iconst dec_L_law_54.2.2.2.1 rfl ?_
  refine V_iadd dec_L_law_54.2.2.2.2.1 ?_
  refine V_sald dec_L_law_54.2.2.2.2.2 ?_
  refine V_aload_n dec_L_law_55.1.1.1.1 0 rfl ?_
  refine V_iload dec_L_law_55.1.1.1.2.1 4 rfl ?_
  refine V_iconst dec_L_law_55.1.1.1.2.2 rfl ?_
  refine V_iadd dec_L_law_55.1.1.2.1 ?_
  refine V_sald dec_L_law_55.1.1.2.2.1 ?_
  refine V_callV0 (ci := 11) (a := x1) (As := [(0, (G.2.2.2.2.2.2.2 (w32 (x4 + 1)).toNat)), (0, (G.2.2.2.2.2.2.2 (w32 (x4 + 2)).toNat))]) (st := []) rfl rfl (X11_teach_s G l s x1 (G.2.2.2.2.2.2.2 (w32 (x4 + 1)).toNat) (G.2.2.2.2.2.2.2 (w32 (x4 + 2)).toNat)) cal_X11_teach rfl ml_L_243 rfl rfl dec_L_law_55.1.1.2.2.2 (k_tag (tag := 0) rfl fun r224 s225 => ?_)
  refine V_aload_n dec_L_law_55.1.2.1.1 2 rfl ?_
  refine V_aload_n dec_L_law_55.1.2.1.2.1 0 rfl ?_
  refine V_iload dec_L_law_55.1.2.1.2.2 4 rfl ?_
  refine V_iconst dec_L_law_55.1.2.2.1 rfl ?_
  refine V_iadd dec_L_law_55.1.2.2.2.1 ?_
  refine V_sald dec_L_law_55.1.2.2.2.2 ?_
  refine V_aload_n dec_L_law_55.2.1.1.1 0 rfl ?_
  refine V_iload dec_L_law_55.2.1.1.2.1 4 rfl ?_
  refine V_iconst dec_L_law_55.2.1.1.2.2 rfl ?_
  refine V_iadd dec_L_law_55.2.1.2.1 ?_
  refine V_sald dec_L_law_55.2.1.2.2.1 ?_
  refine V_callV0 (ci := 13) (a := x2) (As := [(0, (G.2.2.2.2.2.2.2 (w32 (x4 + 1)).toNat)), (0, (G.2.2.2.2.2.2.2 (w32 (x4 + 2)).toNat))]) (st := [(0, r224)]) rfl rfl (X13_teach_s G l s225 x2 (G.2.2.2.2.2.2.2 (w32 (x4 + 1)).toNat) (G.2.2.2.2.2.2.2 (w32 (x4 + 2)).toNat)) cal_X13_teach rfl ml_L_246 rfl rfl dec_L_law_55.2.1.2.2.2 (k_tag (tag := 0) rfl fun r226 s227 => ?_)
  refine V_icmp_eq (tgt := 2315) dec_L_law_55.2.2.1.1 (by decide) ?_ ?_
  · exact V_pick [0, 1, 2, 3, 4] rfl (L_law_b2315_s G l hl rk23 hk23 s227 x1 x2 x3 x4)
  · refine V_iconst dec_L_law_55.2.2.1.2.1 rfl ?_
    exact V_lawret rfl dec_L_law_55.2.2.1.2.2
def L_law_b2170 (sc : Nat × (Nat → Int)) (rk23 : St → Int → Int → Int → Int → Rs) (s : St) (x1 x2 x3 x4 : Int) : Rs :=
  grd (isK s 21 x1) (bnd (X11_undo s x1) (fun r228 s229 => grd (isK s229 23 x2) (bnd (X13_undo s229 x2) (fun r230 s231 => if r228 = r230 then (L_law_b2315 sc rk23 s231 x1 x2 x3 x4) else (grd ((0 : Int) = 1) (some (0, s231)))))))
set_option maxRecDepth 100000 in
set_option maxHeartbeats 4000000 in
theorem L_law_b2170_s (G : Gx) (l : Launch) (hl : l.stackTraces = false) (rk23 : St → Int → Int → Int → Int → Rs) (hk23 : ∀ (s : St) (x1 x2 x3 x4 : Int), VQ (QLaw G) G l mL_law 23 [(0, (2, 1002000)), (1, (2, x1)), (2, (2, x2)), (3, (2, x3)), (4, (0, x4))] [] s (rk23 s x1 x2 x3 x4)) (s : St) (x1 x2 x3 x4 : Int) : VQ (QLaw G) G l mL_law 2170 [(0, (2, 1002000)), (1, (2, x1)), (2, (2, x2)), (3, (2, x3)), (4, (0, x4))] [] s (L_law_b2170 G.2.2.2.2.2.2 rk23 s x1 x2 x3 x4) := by
  unfold L_law_b2170
  refine V_aload_n dec_L_law_55.2.2.2.1 1 rfl ?_
  refine V_callV0 (ci := 11) (a := x1) (As := []) (st := []) rfl rfl (X11_undo_s G l s x1) cal_X11_undo rfl ml_L_247 rfl rfl dec_L_law_55.2.2.2.2.1 (k_tag (tag := 0) rfl fun r228 s229 => ?_)
  refine V_aload_n dec_L_law_55.2.2.2.2.2 2 rfl ?_
  refine V_callV0 (ci := 13) (a := x2) (As := []) (st := [(0, r228)]) rfl rfl (X13_undo_s G l s229 x2) cal_X13_undo rfl ml_L_251 rfl rfl dec_L_law_56.1.1.1.1 (k_tag (tag := 0) rfl fun r230 s231 => ?_)
  refine V_icmp_eq (tgt := 2315) dec_L_law_56.1.1.1.2.1 (by decide) ?_ ?_
  · exact V_pick [0, 1, 2, 3, 4] rfl (L_law_b2315_s G l hl rk23 hk23 s231 x1 x2 x3 x4)
  · refine V_iconst dec_L_law_56.1.1.1.2.2 rfl ?_
    exact V_lawret rfl dec_L_law_56.1.1.2.1
def L_law_b2183 (sc : Nat × (Nat → Int)) (rk23 : St → Int → Int → Int → Int → Rs) (s : St) (x1 x2 x3 x4 : Int) : Rs :=
  grd (isK s 21 x1) (bnd (X11_image s x1) (fun r232 s233 => grd (isK s233 23 x2) (bnd (X13_image s233 x2) (fun r234 s235 => if r232 = r234 then (L_law_b2315 sc rk23 s235 x1 x2 x3 x4) else (grd ((0 : Int) = 1) (some (0, s235)))))))
set_option maxRecDepth 100000 in
set_option maxHeartbeats 4000000 in
theorem L_law_b2183_s (G : Gx) (l : Launch) (hl : l.stackTraces = false) (rk23 : St → Int → Int → Int → Int → Rs) (hk23 : ∀ (s : St) (x1 x2 x3 x4 : Int), VQ (QLaw G) G l mL_law 23 [(0, (2, 1002000)), (1, (2, x1)), (2, (2, x2)), (3, (2, x3)), (4, (0, x4))] [] s (rk23 s x1 x2 x3 x4)) (s : St) (x1 x2 x3 x4 : Int) : VQ (QLaw G) G l mL_law 2183 [(0, (2, 1002000)), (1, (2, x1)), (2, (2, x2)), (3, (2, x3)), (4, (0, x4))] [] s (L_law_b2183 G.2.2.2.2.2.2 rk23 s x1 x2 x3 x4) := by
  unfold L_law_b2183
  refine V_aload_n dec_L_law_56.1.1.2.2.1 1 rfl ?_
  refine V_callV0 (ci := 11) (a := x1) (As := []) (st := []) rfl rfl (X11_image_s G l s x1) cal_X11_image rfl ml_L_252 rfl rfl dec_L_law_56.1.1.2.2.2 (k_tag (tag := 0) rfl fun r232 s233 => ?_)
  refine V_aload_n dec_L_law_56.1.2.1.1 2 rfl ?_
  refine V_callV0 (ci := 13) (a := x2) (As := []) (st := [(0, r232)]) rfl rfl (X13_image_s G l s233 x2) cal_X13_image rfl ml_L_255 rfl rfl dec_L_law_56.1.2.1.2.1 (k_tag (tag := 0) rfl fun r234 s235 => ?_)
  refine V_icmp_eq (tgt := 2315) dec_L_law_56.1.2.1.2.2 (by decide) ?_ ?_
  · exact V_pick [0, 1, 2, 3, 4] rfl (L_law_b2315_s G l hl rk23 hk23 s235 x1 x2 x3 x4)
  · refine V_iconst dec_L_law_56.1.2.2.1 rfl ?_
    exact V_lawret rfl dec_L_law_56.1.2.2.2.1
def L_law_b2196 (sc : Nat × (Nat → Int)) (rk23 : St → Int → Int → Int → Int → Rs) (s : St) (x1 x2 x3 x4 : Int) : Rs :=
  grd (0 ≤ (w32 (x4 + 1)) ∧ (w32 (x4 + 1)) < (sc.1 : Int)) (grd (isK s 21 x1) (bnd (X11_back s x1 (sc.2 (w32 (x4 + 1)).toNat)) (fun r236 s237 => grd (0 ≤ (w32 (x4 + 1)) ∧ (w32 (x4 + 1)) < (sc.1 : Int)) (grd (isK s237 23 x2) (bnd (X13_back s237 x2 (sc.2 (w32 (x4 + 1)).toNat)) (fun r238 s239 => if r236 = r238 then (L_law_b2315 sc rk23 s239 x1 x2 x3 x4) else (grd ((0 : Int) = 1) (some (0, s239)))))))))
set_option maxRecDepth 100000 in
set_option maxHeartbeats 4000000 in
theorem L_law_b2196_s (G : Gx) (l : Launch) (hl : l.stackTraces = false) (rk23 : St → Int → Int → Int → Int → Rs) (hk23 : ∀ (s : St) (x1 x2 x3 x4 : Int), VQ (QLaw G) G l mL_law 23 [(0, (2, 1002000)), (1, (2, x1)), (2, (2, x2)), (3, (2, x3)), (4, (0, x4))] [] s (rk23 s x1 x2 x3 x4)) (s : St) (x1 x2 x3 x4 : Int) : VQ (QLaw G) G l mL_law 2196 [(0, (2, 1002000)), (1, (2, x1)), (2, (2, x2)), (3, (2, x3)), (4, (0, x4))] [] s (L_law_b2196 G.2.2.2.2.2.2 rk23 s x1 x2 x3 x4) := by
  unfold L_law_b2196
  refine V_aload_n dec_L_law_56.1.2.2.2.2 1 rfl ?_
  refine V_aload_n dec_L_law_56.2.1.1.1 0 rfl ?_
  refine V_iload dec_L_law_56.2.1.1.2.1 4 rfl ?_
  refine V_iconst dec_L_law_56.2.1.1.2.2 rfl ?_
  refine V_iadd dec_L_law_56.2.1.2.1 ?_
  refine V_sald dec_L_law_56.2.1.2.2.1 ?_
  refine V_callV0 (ci := 11) (a := x1) (As := [(0, (G.2.2.2.2.2.2.2 (w32 (x4 + 1)).toNat))]) (st := []) rfl rfl (X11_back_s G l s x1 (G.2.2.2.2.2.2.2 (w32 (x4 + 1)).toNat)) cal_X11_back rfl ml_L_256 rfl rfl dec_L_law_56.2.1.2.2.2 (k_tag (tag := 0) rfl fun r236 s237 => ?_)
  refine V_aload_n dec_L_law_56.2.2.1.1 2 rfl ?_
  refine V_aload_n dec_L_law_56.2.2.1.2.1 0 rfl ?_
  refine V_iload dec_L_law_56.2.2.1.2.2 4 rfl ?_
  refine V_iconst dec_L_law_56.2.2.2.1 rfl ?_
  refine V_iadd dec_L_law_56.2.2.2.2.1 ?_
  refine V_sald dec_L_law_56.2.2.2.2.2 ?_
  refine V_callV0 (ci := 13) (a := x2) (As := [(0, (G.2.2.2.2.2.2.2 (w32 (x4 + 1)).toNat))]) (st := [(0, r236)]) rfl rfl (X13_back_s G l s237 x2 (G.2.2.2.2.2.2.2 (w32 (x4 + 1)).toNat)) cal_X13_back rfl ml_L_259 rfl rfl dec_L_law_57.1.1.1.1 (k_tag (tag := 0) rfl fun r238 s239 => ?_)
  refine V_icmp_eq (tgt := 2315) dec_L_law_57.1.1.1.2.1 (by decide) ?_ ?_
  · exact V_pick [0, 1, 2, 3, 4] rfl (L_law_b2315_s G l hl rk23 hk23 s239 x1 x2 x3 x4)
  · refine V_iconst dec_L_law_57.1.1.1.2.2 rfl ?_
    exact V_lawret rfl dec_L_law_57.1.1.2.1
def L_law_b2274 (sc : Nat × (Nat → Int)) (rk23 : St → Int → Int → Int → Int → Rs) (s : St) (x1 x2 x3 x4 : Int) : Rs :=
  L_law_b2315 sc rk23 s x1 x2 x3 x4
set_option maxRecDepth 100000 in
set_option maxHeartbeats 4000000 in
theorem L_law_b2274_s (G : Gx) (l : Launch) (hl : l.stackTraces = false) (rk23 : St → Int → Int → Int → Int → Rs) (hk23 : ∀ (s : St) (x1 x2 x3 x4 : Int), VQ (QLaw G) G l mL_law 23 [(0, (2, 1002000)), (1, (2, x1)), (2, (2, x2)), (3, (2, x3)), (4, (0, x4))] [] s (rk23 s x1 x2 x3 x4)) (s : St) (x1 x2 x3 x4 : Int) : VQ (QLaw G) G l mL_law 2274 [(0, (2, 1002000)), (1, (2, x1)), (2, (2, x2)), (3, (2, x3)), (4, (0, x4))] [] s (L_law_b2274 G.2.2.2.2.2.2 rk23 s x1 x2 x3 x4) := by
  unfold L_law_b2274
  refine V_goto (tgt := 2315) dec_L_law_58.2.1.1.2.2 (by decide) ?_
  exact V_pick [0, 1, 2, 3, 4] rfl (L_law_b2315_s G l hl rk23 hk23 s x1 x2 x3 x4)
def L_law_b2221 (sc : Nat × (Nat → Int)) (rk23 : St → Int → Int → Int → Int → Rs) (s : St) (x1 x2 x3 x4 : Int) : Rs :=
  grd (0 ≤ (w32 (x4 + 1)) ∧ (w32 (x4 + 1)) < (sc.1 : Int)) (bnd (L_led s x1 (sc.2 (w32 (x4 + 1)).toNat) x3) (fun r240 s241 => grd (0 ≤ (w32 (x4 + 1)) ∧ (w32 (x4 + 1)) < (sc.1 : Int)) (grd (isK s241 23 x2) (bnd (X13_led s241 x2 (sc.2 (w32 (x4 + 1)).toNat)) (fun r242 s243 => grd (isK s243 23 x2) (bnd (X13_thrown s243 x2) (fun r244 s245 => if r244 = r240 then (if ¬ r240 = 0 then (L_law_b2274 sc rk23 s245 x1 x2 x3 x4) else (grd (isK s245 3 x3 ∧ 0 ≤ (0 : Int) ∧ (0 : Int) < ln s245 x3) (if (cmp3 (gI s245 x3 (0 : Int).toNat) r242) = 0 then (L_law_b2274 sc rk23 s245 x1 x2 x3 x4) else (grd ((0 : Int) = 1) (some (0, s245)))))) else (grd ((0 : Int) = 1) (some (0, s245))))))))))
set_option maxRecDepth 100000 in
set_option maxHeartbeats 4000000 in
theorem L_law_b2221_s (G : Gx) (l : Launch) (hl : l.stackTraces = false) (rk23 : St → Int → Int → Int → Int → Rs) (hk23 : ∀ (s : St) (x1 x2 x3 x4 : Int), VQ (QLaw G) G l mL_law 23 [(0, (2, 1002000)), (1, (2, x1)), (2, (2, x2)), (3, (2, x3)), (4, (0, x4))] [] s (rk23 s x1 x2 x3 x4)) (s : St) (x1 x2 x3 x4 : Int) : VQ (QLaw G) G l mL_law 2221 [(0, (2, 1002000)), (1, (2, x1)), (2, (2, x2)), (3, (2, x3)), (4, (0, x4))] [] s (L_law_b2221 G.2.2.2.2.2.2 rk23 s x1 x2 x3 x4) := by
  unfold L_law_b2221
  refine V_aload_n dec_L_law_57.1.1.2.2.1 1 rfl ?_
  refine V_aload_n dec_L_law_57.1.1.2.2.2 0 rfl ?_
  refine V_iload dec_L_law_57.1.2.1.1 4 rfl ?_
  refine V_iconst dec_L_law_57.1.2.1.2.1 rfl ?_
  refine V_iadd dec_L_law_57.1.2.1.2.2 ?_
  refine V_sald dec_L_law_57.1.2.2.1 ?_
  refine V_aload_n dec_L_law_57.1.2.2.2.1 3 rfl ?_
  refine V_callSW0 (n := 3) (hh := hhL) (As := [(2, x1), (0, (G.2.2.2.2.2.2.2 (w32 (x4 + 1)).toNat)), (2, x3)]) (st := []) rfl (L_led_s G l hl s x1 (G.2.2.2.2.2.2.2 (w32 (x4 + 1)).toNat) x3) (lbw (List.mem_cons_of_mem _ (List.mem_cons_of_mem _ List.mem_cons_self))) (lbw (List.mem_cons_of_mem _ (List.mem_cons_of_mem _ (List.mem_cons_of_mem _ List.mem_cons_self)))) (lbw (List.mem_cons_of_mem _ (List.mem_cons_of_mem _ (List.mem_cons_of_mem _ (List.mem_cons_of_mem _ List.mem_cons_self))))) ⟨by decide +kernel, by decide +kernel⟩ (by decide +kernel) rfl ml_L_260 rfl rfl dec_L_law_57.1.2.2.2.2 rfl (fun r240 s241 => ?_)
  refine V_istore (lv' := [(5, (0, r240)), (0, (2, 1002000)), (1, (2, x1)), (2, (2, x2)), (3, (2, x3)), (4, (0, x4))]) dec_L_law_57.2.1.1.1 (by decide) rfl ?_
  refine V_aload_n dec_L_law_57.2.1.1.2.1 3 rfl ?_
  refine V_aload_n dec_L_law_57.2.1.1.2.2 1 rfl ?_
  refine V_iload dec_L_law_57.2.1.2.1 5 rfl ?_
  refine V_iconst dec_L_law_57.2.1.2.2.1 rfl ?_
  refine V_iadd dec_L_law_57.2.1.2.2.2 ?_
  refine V_sald dec_L_law_57.2.2.1.1 ?_
  refine V_callV0 (ci := 13) (a := x2) (As := [(0, (G.2.2.2.2.2.2.2 (w32 (x4 + 1)).toNat))]) (st := []) rfl rfl (X13_led_s G l s241 x2 (G.2.2.2.2.2.2.2 (w32 (x4 + 1)).toNat)) cal_X13_led rfl ml_L_265 rfl rfl dec_L_law_57.2.2.1.2.1 (k_tag (tag := 0) rfl fun r242 s243 => ?_)
  refine V_istore (lv' := [(6, (0, r242)), (5, (0, r240)), (0, (2, 1002000)), (1, (2, x1)), (2, (2, x2)), (3, (2, x3)), (4, (0, x4))]) dec_L_law_57.2.2.1.2.2 (by decide) rfl ?_
  refine V_aload_n dec_L_law_57.2.2.2.1 4 rfl ?_
  refine V_callV0 (ci := 13) (a := x2) (As := []) (st := []) rfl rfl (X13_thrown_s G l s243 x2) cal_X13_thrown rfl ml_L_266 rfl rfl dec_L_law_57.2.2.2.2.1 (k_tag (tag := 0) rfl fun r244 s245 => ?_)
  refine V_iload dec_L_law_57.2.2.2.2.2 1 rfl ?_
  refine V_icmp_eq (tgt := 2257) dec_L_law_58.1.1.1.1 (by decide) ?_ ?_
  · refine V_iload dec_L_law_58.1.1.2.1 1 rfl ?_
    refine V_if_ne (tgt := 2274) dec_L_law_58.1.1.2.2.1 (by decide) ?_ ?_
    · exact V_pick [2, 3, 4, 5, 6] rfl (L_law_b2274_s G l hl rk23 hk23 s245 x1 x2 x3 x4)
    · refine V_aload_n dec_L_law_58.1.1.2.2.2 5 rfl ?_
      refine V_iconst dec_L_law_58.1.2.1.1 rfl ?_
      refine V_lald dec_L_law_58.1.2.1.2.1 ?_
      refine V_iload dec_L_law_58.1.2.1.2.2 0 rfl ?_
      refine V_i2l dec_L_law_58.1.2.2.1 ?_
      refine V_lcmp dec_L_law_58.1.2.2.2.1 ?_
      refine V_if_eq (tgt := 2274) dec_L_law_58.1.2.2.2.2 (by decide) ?_ ?_
      · exact V_pick [2, 3, 4, 5, 6] rfl (L_law_b2274_s G l hl rk23 hk23 s245 x1 x2 x3 x4)
      · refine V_iconst dec_L_law_58.2.1.1.1 rfl ?_
        exact V_lawret rfl dec_L_law_58.2.1.1.2.1
  · refine V_iconst dec_L_law_58.1.1.1.2.1 rfl ?_
    exact V_lawret rfl dec_L_law_58.1.1.1.2.2
def L_law_b2277 (sc : Nat × (Nat → Int)) (rk23 : St → Int → Int → Int → Int → Rs) (s : St) (x1 x2 x3 x4 : Int) : Rs :=
  grd (0 ≤ (w32 (x4 + 1)) ∧ (w32 (x4 + 1)) < (sc.1 : Int)) (grd (isK s 21 x1) (bnd (X11_size s x1 (sc.2 (w32 (x4 + 1)).toNat)) (fun r246 s247 => grd (0 ≤ (w32 (x4 + 1)) ∧ (w32 (x4 + 1)) < (sc.1 : Int)) (grd (isK s247 23 x2) (bnd (X13_size s247 x2 (sc.2 (w32 (x4 + 1)).toNat)) (fun r248 s249 => if r246 = r248 then (L_law_b2315 sc rk23 s249 x1 x2 x3 x4) else (grd ((0 : Int) = 1) (some (0, s249)))))))))
set_option maxRecDepth 100000 in
set_option maxHeartbeats 4000000 in
theorem L_law_b2277_s (G : Gx) (l : Launch) (hl : l.stackTraces = false) (rk23 : St → Int → Int → Int → Int → Rs) (hk23 : ∀ (s : St) (x1 x2 x3 x4 : Int), VQ (QLaw G) G l mL_law 23 [(0, (2, 1002000)), (1, (2, x1)), (2, (2, x2)), (3, (2, x3)), (4, (0, x4))] [] s (rk23 s x1 x2 x3 x4)) (s : St) (x1 x2 x3 x4 : Int) : VQ (QLaw G) G l mL_law 2277 [(0, (2, 1002000)), (1, (2, x1)), (2, (2, x2)), (3, (2, x3)), (4, (0, x4))] [] s (L_law_b2277 G.2.2.2.2.2.2 rk23 s x1 x2 x3 x4) := by
  unfold L_law_b2277
  refine V_aload_n dec_L_law_58.2.1.2.1 1 rfl ?_
  refine V_aload_n dec_L_law_58.2.1.2.2.1 0 rfl ?_
  refine V_iload dec_L_law_58.2.1.2.2.2 4 rfl ?_
  refine V_iconst dec_L_law_58.2.2.1.1 rfl ?_
  refine V_iadd dec_L_law_58.2.2.1.2.1 ?_
  refine V_sald dec_L_law_58.2.2.1.2.2 ?_
  refine V_callV0 (ci := 11) (a := x1) (As := [(0, (G.2.2.2.2.2.2.2 (w32 (x4 + 1)).toNat))]) (st := []) rfl rfl (X11_size_s G l s x1 (G.2.2.2.2.2.2.2 (w32 (x4 + 1)).toNat)) cal_X11_size rfl ml_L_269 rfl rfl dec_L_law_58.2.2.2.1 (k_tag (tag := 0) rfl fun r246 s247 => ?_)
  refine V_aload_n dec_L_law_58.2.2.2.2.1 2 rfl ?_
  refine V_aload_n dec_L_law_58.2.2.2.2.2 0 rfl ?_
  refine V_iload dec_L_law_59.1.1.1.1 4 rfl ?_
  refine V_iconst dec_L_law_59.1.1.1.2 rfl ?_
  refine V_iadd dec_L_law_59.1.1.2.1 ?_
  refine V_sald dec_L_law_59.1.1.2.2 ?_
  refine V_callV0 (ci := 13) (a := x2) (As := [(0, (G.2.2.2.2.2.2.2 (w32 (x4 + 1)).toNat))]) (st := [(0, r246)]) rfl rfl (X13_size_s G l s247 x2 (G.2.2.2.2.2.2.2 (w32 (x4 + 1)).toNat)) cal_X13_size rfl ml_L_272 rfl rfl dec_L_law_59.1.2.1.1 (k_tag (tag := 0) rfl fun r248 s249 => ?_)
  refine V_icmp_eq (tgt := 2315) dec_L_law_59.1.2.1.2 (by decide) ?_ ?_
  · exact V_pick [0, 1, 2, 3, 4] rfl (L_law_b2315_s G l hl rk23 hk23 s249 x1 x2 x3 x4)
  · refine V_iconst dec_L_law_59.1.2.2.1 rfl ?_
    exact V_lawret rfl dec_L_law_59.1.2.2.2.1
def L_law_b2302 (sc : Nat × (Nat → Int)) (rk23 : St → Int → Int → Int → Int → Rs) (s : St) (x1 x2 x3 x4 : Int) : Rs :=
  grd (isK s 21 x1) (bnd (X11_trouble s x1) (fun r250 s251 => grd (isK s251 23 x2) (bnd (X13_trouble s251 x2) (fun r252 s253 => if r250 = r252 then (L_law_b2315 sc rk23 s253 x1 x2 x3 x4) else (grd ((0 : Int) = 1) (some (0, s253)))))))
set_option maxRecDepth 100000 in
set_option maxHeartbeats 4000000 in
theorem L_law_b2302_s (G : Gx) (l : Launch) (hl : l.stackTraces = false) (rk23 : St → Int → Int → Int → Int → Rs) (hk23 : ∀ (s : St) (x1 x2 x3 x4 : Int), VQ (QLaw G) G l mL_law 23 [(0, (2, 1002000)), (1, (2, x1)), (2, (2, x2)), (3, (2, x3)), (4, (0, x4))] [] s (rk23 s x1 x2 x3 x4)) (s : St) (x1 x2 x3 x4 : Int) : VQ (QLaw G) G l mL_law 2302 [(0, (2, 1002000)), (1, (2, x1)), (2, (2, x2)), (3, (2, x3)), (4, (0, x4))] [] s (L_law_b2302 G.2.2.2.2.2.2 rk23 s x1 x2 x3 x4) := by
  unfold L_law_b2302
  refine V_aload_n dec_L_law_59.1.2.2.2.2 1 rfl ?_
  refine V_callV0 (ci := 11) (a := x1) (As := []) (st := []) rfl rfl (X11_trouble_s G l s x1) cal_X11_trouble rfl ml_L_273 rfl rfl dec_L_law_59.2.1.1.1 (k_tag (tag := 0) rfl fun r250 s251 => ?_)
  refine V_aload_n dec_L_law_59.2.1.1.2 2 rfl ?_
  refine V_callV0 (ci := 13) (a := x2) (As := []) (st := [(0, r250)]) rfl rfl (X13_trouble_s G l s251 x2) cal_X13_trouble rfl ml_L_276 rfl rfl dec_L_law_59.2.1.2.1 (k_tag (tag := 0) rfl fun r252 s253 => ?_)
  refine V_icmp_eq (tgt := 2315) dec_L_law_59.2.1.2.2.1 (by decide) ?_ ?_
  · exact V_pick [0, 1, 2, 3, 4] rfl (L_law_b2315_s G l hl rk23 hk23 s253 x1 x2 x3 x4)
  · refine V_iconst dec_L_law_59.2.1.2.2.2 rfl ?_
    exact V_lawret rfl dec_L_law_59.2.2.1.1
def L_law_b23_body (sc : Nat × (Nat → Int)) (rk23 : St → Int → Int → Int → Int → Rs) (s : St) (x1 x2 x3 x4 : Int) : Rs :=
  if (w32 ((sc.1 : Int) - 6)) < x4 then (grd ((1 : Int) = 1) (some (1, s))) else (grd (0 ≤ x4 ∧ x4 < (sc.1 : Int)) (swt (and32 (sc.2 x4.toNat) 63) 0 [L_law_b300 sc rk23 s x1 x2 x3 x4, L_law_b373 sc rk23 s x1 x2 x3 x4, L_law_b398 sc rk23 s x1 x2 x3 x4, L_law_b411 sc rk23 s x1 x2 x3 x4, L_law_b424 sc rk23 s x1 x2 x3 x4, L_law_b461 sc rk23 s x1 x2 x3 x4, L_law_b498 sc rk23 s x1 x2 x3 x4, L_law_b523 sc rk23 s x1 x2 x3 x4, L_law_b560 sc rk23 s x1 x2 x3 x4, L_law_b609 sc rk23 s x1 x2 x3 x4, L_law_b646 sc rk23 s x1 x2 x3 x4, L_law_b683 sc rk23 s x1 x2 x3 x4, L_law_b708 sc rk23 s x1 x2 x3 x4, L_law_b733 sc rk23 s x1 x2 x3 x4, L_law_b758 sc rk23 s x1 x2 x3 x4, L_law_b795 sc rk23 s x1 x2 x3 x4, L_law_b832 sc rk23 s x1 x2 x3 x4, L_law_b857 sc rk23 s x1 x2 x3 x4, L_law_b870 sc rk23 s x1 x2 x3 x4, L_law_b883 sc rk23 s x1 x2 x3 x4, L_law_b920 sc rk23 s x1 x2 x3 x4, L_law_b969 sc rk23 s x1 x2 x3 x4, L_law_b1018 sc rk23 s x1 x2 x3 x4, L_law_b1055 sc rk23 s x1 x2 x3 x4, L_law_b1080 sc rk23 s x1 x2 x3 x4, L_law_b1117 sc rk23 s x1 x2 x3 x4, L_law_b1142 sc rk23 s x1 x2 x3 x4, L_law_b1179 sc rk23 s x1 x2 x3 x4, L_law_b1228 sc rk23 s x1 x2 x3 x4, L_law_b1253 sc rk23 s x1 x2 x3 x4, L_law_b1290 sc rk23 s x1 x2 x3 x4, L_law_b1327 sc rk23 s x1 x2 x3 x4, L_law_b1352 sc rk23 s x1 x2 x3 x4, L_law_b1389 sc rk23 s x1 x2 x3 x4, L_law_b1426 sc rk23 s x1 x2 x3 x4, L_law_b1475 sc rk23 s x1 x2 x3 x4, L_law_b1488 sc rk23 s x1 x2 x3 x4, L_law_b1513 sc rk23 s x1 x2 x3 x4, L_law_b1526 sc rk23 s x1 x2 x3 x4, L_law_b1539 sc rk23 s x1 x2 x3 x4, L_law_b1552 sc rk23 s x1 x2 x3 x4, L_law_b1565 sc rk23 s x1 x2 x3 x4, L_law_b1578 sc rk23 s x1 x2 x3 x4, L_law_b1687 sc rk23 s x1 x2 x3 x4, L_law_b1712 sc rk23 s x1 x2 x3 x4, L_law_b1737 sc rk23 s x1 x2 x3 x4, L_law_b1803 sc rk23 s x1 x2 x3 x4, L_law_b1869 sc rk23 s x1 x2 x3 x4, L_law_b1935 sc rk23 s x1 x2 x3 x4, L_law_b1984 sc rk23 s x1 x2 x3 x4, L_law_b2021 sc rk23 s x1 x2 x3 x4, L_law_b2034 sc rk23 s x1 x2 x3 x4, L_law_b2071 sc rk23 s x1 x2 x3 x4, L_law_b2108 sc rk23 s x1 x2 x3 x4, L_law_b2133 sc rk23 s x1 x2 x3 x4, L_law_b2170 sc rk23 s x1 x2 x3 x4, L_law_b2183 sc rk23 s x1 x2 x3 x4, L_law_b2196 sc rk23 s x1 x2 x3 x4, L_law_b2221 sc rk23 s x1 x2 x3 x4, L_law_b2277 sc rk23 s x1 x2 x3 x4, L_law_b2302 sc rk23 s x1 x2 x3 x4] (L_law_b2315 sc rk23 s x1 x2 x3 x4)))
def L_law_b23 (sc : Nat × (Nat → Int)) (n : Nat) (s : St) (x1 x2 x3 x4 : Int) : Rs := iter (fun (rec : St × Int × Int × Int × Int → Rs) (a : St × Int × Int × Int × Int) => L_law_b23_body sc (fun (s : St) (x1 x2 x3 x4 : Int) => rec (s, x1, x2, x3, x4)) a.1 a.2.1 a.2.2.1 a.2.2.2.1 a.2.2.2.2) n (s, x1, x2, x3, x4)
theorem L_law_b23_0 (sc : Nat × (Nat → Int)) (s : St) (x1 x2 x3 x4 : Int) : L_law_b23 sc 0 s x1 x2 x3 x4 = none := rfl
theorem L_law_b23_1 (sc : Nat × (Nat → Int)) (n : Nat) (s : St) (x1 x2 x3 x4 : Int) : L_law_b23 sc (n + 1) s x1 x2 x3 x4 = L_law_b23_body sc (L_law_b23 sc n) s x1 x2 x3 x4 := rfl
set_option maxRecDepth 100000 in
set_option maxHeartbeats 4000000 in
theorem L_law_b23_body_s (G : Gx) (l : Launch) (hl : l.stackTraces = false) (rk23 : St → Int → Int → Int → Int → Rs) (hk23 : ∀ (s : St) (x1 x2 x3 x4 : Int), VQ (QLaw G) G l mL_law 23 [(0, (2, 1002000)), (1, (2, x1)), (2, (2, x2)), (3, (2, x3)), (4, (0, x4))] [] s (rk23 s x1 x2 x3 x4)) (s : St) (x1 x2 x3 x4 : Int) : VQ (QLaw G) G l mL_law 23 [(0, (2, 1002000)), (1, (2, x1)), (2, (2, x2)), (3, (2, x3)), (4, (0, x4))] [] s (L_law_b23_body G.2.2.2.2.2.2 rk23 s x1 x2 x3 x4) := by
  unfold L_law_b23_body
  refine V_iload dec_L_law_0.2.1.1.2.1 4 rfl ?_
  refine V_aload_n dec_L_law_0.2.1.1.2.2 0 rfl ?_
  refine V_slen dec_L_law_0.2.1.2.1 ?_
  refine V_bipush dec_L_law_0.2.1.2.2.1 rfl ?_
  refine V_isub dec_L_law_0.2.1.2.2.2 ?_
  refine V_icmp_gt (tgt := 2321) dec_L_law_0.2.2.1.1 (by decide) ?_ ?_
  · refine V_iconst dec_L_law_59.2.2.2.2.1 rfl ?_
    exact V_lawret rfl dec_L_law_59.2.2.2.2.2
  · refine V_aload_n dec_L_law_0.2.2.1.2.1 0 rfl ?_
    refine V_iload dec_L_law_0.2.2.1.2.2 4 rfl ?_
    refine V_sald dec_L_law_0.2.2.2.1 ?_
    refine V_bipush dec_L_law_0.2.2.2.2.1 rfl ?_
    refine V_iand dec_L_law_0.2.2.2.2.2 ?_
    refine V_tsw (ts := [300, 373, 398, 411, 424, 461, 498, 523, 560, 609, 646, 683, 708, 733, 758, 795, 832, 857, 870, 883, 920, 969, 1018, 1055, 1080, 1117, 1142, 1179, 1228, 1253, 1290, 1327, 1352, 1389, 1426, 1475, 1488, 1513, 1526, 1539, 1552, 1565, 1578, 1687, 1712, 1737, 1803, 1869, 1935, 1984, 2021, 2034, 2071, 2108, 2133, 2170, 2183, 2196, 2221, 2277, 2302]) (td := 2315) dec_L_law_1.1.1.1.1 (by decide) (by decide) (by decide) ⟨?_, ?_, ?_, ?_, ?_, ?_, ?_, ?_, ?_, ?_, ?_, ?_, ?_, ?_, ?_, ?_, ?_, ?_, ?_, ?_, ?_, ?_, ?_, ?_, ?_, ?_, ?_, ?_, ?_, ?_, ?_, ?_, ?_, ?_, ?_, ?_, ?_, ?_, ?_, ?_, ?_, ?_, ?_, ?_, ?_, ?_, ?_, ?_, ?_, ?_, ?_, ?_, ?_, ?_, ?_, ?_, ?_, ?_, ?_, ?_, ?_, trivial⟩ ?_
    · exact V_pick [0, 1, 2, 3, 4] rfl (L_law_b300_s G l hl rk23 hk23 s x1 x2 x3 x4)
    · exact V_pick [0, 1, 2, 3, 4] rfl (L_law_b373_s G l hl rk23 hk23 s x1 x2 x3 x4)
    · exact V_pick [0, 1, 2, 3, 4] rfl (L_law_b398_s G l hl rk23 hk23 s x1 x2 x3 x4)
    · exact V_pick [0, 1, 2, 3, 4] rfl (L_law_b411_s G l hl rk23 hk23 s x1 x2 x3 x4)
    · exact V_pick [0, 1, 2, 3, 4] rfl (L_law_b424_s G l hl rk23 hk23 s x1 x2 x3 x4)
    · exact V_pick [0, 1, 2, 3, 4] rfl (L_law_b461_s G l hl rk23 hk23 s x1 x2 x3 x4)
    · exact V_pick [0, 1, 2, 3, 4] rfl (L_law_b498_s G l hl rk23 hk23 s x1 x2 x3 x4)
    · exact V_pick [0, 1, 2, 3, 4] rfl (L_law_b523_s G l hl rk23 hk23 s x1 x2 x3 x4)
    · exact V_pick [0, 1, 2, 3, 4] rfl (L_law_b560_s G l hl rk23 hk23 s x1 x2 x3 x4)
    · exact V_pick [0, 1, 2, 3, 4] rfl (L_law_b609_s G l hl rk23 hk23 s x1 x2 x3 x4)
    · exact V_pick [0, 1, 2, 3, 4] rfl (L_law_b646_s G l hl rk23 hk23 s x1 x2 x3 x4)
    · exact V_pick [0, 1, 2, 3, 4] rfl (L_law_b683_s G l hl rk23 hk23 s x1 x2 x3 x4)
    · exact V_pick [0, 1, 2, 3, 4] rfl (L_law_b708_s G l hl rk23 hk23 s x1 x2 x3 x4)
    · exact V_pick [0, 1, 2, 3, 4] rfl (L_law_b733_s G l hl rk23 hk23 s x1 x2 x3 x4)
    · exact V_pick [0, 1, 2, 3, 4] rfl (L_law_b758_s G l hl rk23 hk23 s x1 x2 x3 x4)
    · exact V_pick [0, 1, 2, 3, 4] rfl (L_law_b795_s G l hl rk23 hk23 s x1 x2 x3 x4)
    · exact V_pick [0, 1, 2, 3, 4] rfl (L_law_b832_s G l hl rk23 hk23 s x1 x2 x3 x4)
    · exact V_pick [0, 1, 2, 3, 4] rfl (L_law_b857_s G l hl rk23 hk23 s x1 x2 x3 x4)
    · exact V_pick [0, 1, 2, 3, 4] rfl (L_law_b870_s G l hl rk23 hk23 s x1 x2 x3 x4)
    · exact V_pick [0, 1, 2, 3, 4] rfl (L_law_b883_s G l hl rk23 hk23 s x1 x2 x3 x4)
    · exact V_pick [0, 1, 2, 3, 4] rfl (L_law_b920_s G l hl rk23 hk23 s x1 x2 x3 x4)
    · exact V_pick [0, 1, 2, 3, 4] rfl (L_law_b969_s G l hl rk23 hk23 s x1 x2 x3 x4)
    · exact V_pick [0, 1, 2, 3, 4] rfl (L_law_b1018_s G l hl rk23 hk23 s x1 x2 x3 x4)
    · exact V_pick [0, 1, 2, 3, 4] rfl (L_law_b1055_s G l hl rk23 hk23 s x1 x2 x3 x4)
    · exact V_pick [0, 1, 2, 3, 4] rfl (L_law_b1080_s G l hl rk23 hk23 s x1 x2 x3 x4)
    · exact V_pick [0, 1, 2, 3, 4] rfl (L_law_b1117_s G l hl rk23 hk23 s x1 x2 x3 x4)
    · exact V_pick [0, 1, 2, 3, 4] rfl (L_law_b1142_s G l hl rk23 hk23 s x1 x2 x3 x4)
    · exact V_pick [0, 1, 2, 3, 4] rfl (L_law_b1179_s G l hl rk23 hk23 s x1 x2 x3 x4)
    · exact V_pick [0, 1, 2, 3, 4] rfl (L_law_b1228_s G l hl rk23 hk23 s x1 x2 x3 x4)
    · exact V_pick [0, 1, 2, 3, 4] rfl (L_law_b1253_s G l hl rk23 hk23 s x1 x2 x3 x4)
    · exact V_pick [0, 1, 2, 3, 4] rfl (L_law_b1290_s G l hl rk23 hk23 s x1 x2 x3 x4)
    · exact V_pick [0, 1, 2, 3, 4] rfl (L_law_b1327_s G l hl rk23 hk23 s x1 x2 x3 x4)
    · exact V_pick [0, 1, 2, 3, 4] rfl (L_law_b1352_s G l hl rk23 hk23 s x1 x2 x3 x4)
    · exact V_pick [0, 1, 2, 3, 4] rfl (L_law_b1389_s G l hl rk23 hk23 s x1 x2 x3 x4)
    · exact V_pick [0, 1, 2, 3, 4] rfl (L_law_b1426_s G l hl rk23 hk23 s x1 x2 x3 x4)
    · exact V_pick [0, 1, 2, 3, 4] rfl (L_law_b1475_s G l hl rk23 hk23 s x1 x2 x3 x4)
    · exact V_pick [0, 1, 2, 3, 4] rfl (L_law_b1488_s G l hl rk23 hk23 s x1 x2 x3 x4)
    · exact V_pick [0, 1, 2, 3, 4] rfl (L_law_b1513_s G l hl rk23 hk23 s x1 x2 x3 x4)
    · exact V_pick [0, 1, 2, 3, 4] rfl (L_law_b1526_s G l hl rk23 hk23 s x1 x2 x3 x4)
    · exact V_pick [0, 1, 2, 3, 4] rfl (L_law_b1539_s G l hl rk23 hk23 s x1 x2 x3 x4)
    · exact V_pick [0, 1, 2, 3, 4] rfl (L_law_b1552_s G l hl rk23 hk23 s x1 x2 x3 x4)
    · exact V_pick [0, 1, 2, 3, 4] rfl (L_law_b1565_s G l hl rk23 hk23 s x1 x2 x3 x4)
    · exact V_pick [0, 1, 2, 3, 4] rfl (L_law_b1578_s G l hl rk23 hk23 s x1 x2 x3 x4)
    · exact V_pick [0, 1, 2, 3, 4] rfl (L_law_b1687_s G l hl rk23 hk23 s x1 x2 x3 x4)
    · exact V_pick [0, 1, 2, 3, 4] rfl (L_law_b1712_s G l hl rk23 hk23 s x1 x2 x3 x4)
    · exact V_pick [0, 1, 2, 3, 4] rfl (L_law_b1737_s G l hl rk23 hk23 s x1 x2 x3 x4)
    · exact V_pick [0, 1, 2, 3, 4] rfl (L_law_b1803_s G l hl rk23 hk23 s x1 x2 x3 x4)
    · exact V_pick [0, 1, 2, 3, 4] rfl (L_law_b1869_s G l hl rk23 hk23 s x1 x2 x3 x4)
    · exact V_pick [0, 1, 2, 3, 4] rfl (L_law_b1935_s G l hl rk23 hk23 s x1 x2 x3 x4)
    · exact V_pick [0, 1, 2, 3, 4] rfl (L_law_b1984_s G l hl rk23 hk23 s x1 x2 x3 x4)
    · exact V_pick [0, 1, 2, 3, 4] rfl (L_law_b2021_s G l hl rk23 hk23 s x1 x2 x3 x4)
    · exact V_pick [0, 1, 2, 3, 4] rfl (L_law_b2034_s G l hl rk23 hk23 s x1 x2 x3 x4)
    · exact V_pick [0, 1, 2, 3, 4] rfl (L_law_b2071_s G l hl rk23 hk23 s x1 x2 x3 x4)
    · exact V_pick [0, 1, 2, 3, 4] rfl (L_law_b2108_s G l hl rk23 hk23 s x1 x2 x3 x4)
    · exact V_pick [0, 1, 2, 3, 4] rfl (L_law_b2133_s G l hl rk23 hk23 s x1 x2 x3 x4)
    · exact V_pick [0, 1, 2, 3, 4] rfl (L_law_b2170_s G l hl rk23 hk23 s x1 x2 x3 x4)
    · exact V_pick [0, 1, 2, 3, 4] rfl (L_law_b2183_s G l hl rk23 hk23 s x1 x2 x3 x4)
    · exact V_pick [0, 1, 2, 3, 4] rfl (L_law_b2196_s G l hl rk23 hk23 s x1 x2 x3 x4)
    · exact V_pick [0, 1, 2, 3, 4] rfl (L_law_b2221_s G l hl rk23 hk23 s x1 x2 x3 x4)
    · exact V_pick [0, 1, 2, 3, 4] rfl (L_law_b2277_s G l hl rk23 hk23 s x1 x2 x3 x4)
    · exact V_pick [0, 1, 2, 3, 4] rfl (L_law_b2302_s G l hl rk23 hk23 s x1 x2 x3 x4)
    · exact V_pick [0, 1, 2, 3, 4] rfl (L_law_b2315_s G l hl rk23 hk23 s x1 x2 x3 x4)
theorem L_law_b23_s (G : Gx) (l : Launch) (hl : l.stackTraces = false) (n : Nat) (s : St) (x1 x2 x3 x4 : Int) : VQ (QLaw G) G l mL_law 23 [(0, (2, 1002000)), (1, (2, x1)), (2, (2, x2)), (3, (2, x3)), (4, (0, x4))] [] s (L_law_b23 G.2.2.2.2.2.2 n s x1 x2 x3 x4) :=
  V_iter (LV := fun a : St × Int × Int × Int × Int => [(0, (2, 1002000)), (1, (2, a.2.1)), (2, (2, a.2.2.1)), (3, (2, a.2.2.2.1)), (4, (0, a.2.2.2.2))]) (ST := fun a : St × Int × Int × Int × Int => []) (SS := fun a : St × Int × Int × Int × Int => a.1) (fun rec hrec a => L_law_b23_body_s G l hl (fun (s : St) (x1 x2 x3 x4 : Int) => rec (s, x1, x2, x3, x4)) (fun (s : St) (x1 x2 x3 x4 : Int) => hrec (s, x1, x2, x3, x4)) a.1 a.2.1 a.2.2.1 a.2.2.2.1 a.2.2.2.2) n (s, x1, x2, x3, x4)
def L_law (sc : Nat × (Nat → Int)) (s : St) : Rs :=
  grd (s.1.1 < 1000000) (lets (nw s 21 16) (fun s1 => grd (isK s1 21 (s.1.1 : Int)) (bnd (X11_init s1 (s.1.1 : Int)) (fun r2 s3 => grd (s3.1.1 < 1000000) (lets (nw s3 23 33) (fun s4 => grd (isK s4 23 (s3.1.1 : Int)) (bnd (X13_init s4 (s3.1.1 : Int)) (fun r5 s6 => grd (s6.1.1 < 1000000 ∧ 0 ≤ (1 : Int) ∧ (1 : Int) ≤ 100000) (lets (nw s6 3 (1 : Int).toNat) (fun s7 => L_law_b23 sc FU s7 (s.1.1 : Int) (s3.1.1 : Int) (s6.1.1 : Int) 0))))))))))
set_option maxRecDepth 100000 in
set_option maxHeartbeats 4000000 in
theorem L_law_s (G : Gx) (l : Launch) (hl : l.stackTraces = false) (s : St) : VQ (QLaw G) G l mL_law 0 [(0, (2, 1002000))] [] s (L_law G.2.2.2.2.2.2 s) := by
  unfold L_law
  refine V_new 11 (RX11, TX11, 16) rfl cl_L_8 in_X11 iz_X11 dec_L_law_0.1.1.1.1 ?_
  refine V_lets fun s1 => ?_
  refine V_dup (nl2 _) dec_L_law_0.1.1.1.2.1 ?_
  refine V_callI0 (ci := 11) (a := (s.1.1 : Int)) (As := []) (st := [(2, (s.1.1 : Int))]) (host := "") rfl rfl (X11_init_s G l s1 (s.1.1 : Int)) cal_X11_init rfl (Or.inl ml_L_15) rfl rfl dec_L_law_0.1.1.1.2.2 (fun r2 s3 => ?_)
  refine V_astore_n (lv' := [(1, (2, (s.1.1 : Int))), (0, (2, 1002000))]) dec_L_law_0.1.1.2.1 (by decide) rfl ?_
  refine V_new 13 (RX13, TX13, 33) rfl cl_L_16 in_X13 iz_X13 dec_L_law_0.1.1.2.2.1 ?_
  refine V_lets fun s4 => ?_
  refine V_dup (nl2 _) dec_L_law_0.1.1.2.2.2 ?_
  refine V_callI0 (ci := 13) (a := (s3.1.1 : Int)) (As := []) (st := [(2, (s3.1.1 : Int))]) (host := "") rfl rfl (X13_init_s G l s4 (s3.1.1 : Int)) cal_X13_init rfl (Or.inl ml_L_18) rfl rfl dec_L_law_0.1.2.1.1 (fun r5 s6 => ?_)
  refine V_astore_n (lv' := [(2, (2, (s3.1.1 : Int))), (1, (2, (s.1.1 : Int))), (0, (2, 1002000))]) dec_L_law_0.1.2.1.2.1 (by decide) rfl ?_
  refine V_iconst dec_L_law_0.1.2.1.2.2 rfl ?_
  refine V_newarr (at0 := .long) (by decide) ac_long dec_L_law_0.1.2.2.1 ?_
  refine V_lets fun s7 => ?_
  refine V_astore_n (lv' := [(3, (2, (s6.1.1 : Int))), (2, (2, (s3.1.1 : Int))), (1, (2, (s.1.1 : Int))), (0, (2, 1002000))]) dec_L_law_0.1.2.2.2.1 (by decide) rfl ?_
  refine V_iconst dec_L_law_0.1.2.2.2.2 rfl ?_
  refine V_istore (lv' := [(4, (0, 0)), (3, (2, (s6.1.1 : Int))), (2, (2, (s3.1.1 : Int))), (1, (2, (s.1.1 : Int))), (0, (2, 1002000))]) dec_L_law_0.2.1.1.1 (by decide) rfl ?_
  exact V_pick [4, 3, 2, 1, 0] rfl (L_law_b23_s G l hl FU s7 (s.1.1 : Int) (s3.1.1 : Int) (s6.1.1 : Int) 0)
