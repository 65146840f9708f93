theorem dec_X13_refusesNight : (((decode cX13_refusesNight 0 = .ok (.iload_n 1, 1) ∧ (decode cX13_refusesNight 1 = .ok (.ifCond .ne 7, 3) ∧ decode cX13_refusesNight 4 = .ok (.iconst 1, 1))) ∧ (decode cX13_refusesNight 5 = .ok (.goto 18, 3) ∧ (decode cX13_refusesNight 8 = .ok (.iload_n 2, 1) ∧ decode cX13_refusesNight 9 = .ok (.iconst 0, 1)))) ∧ ((decode cX13_refusesNight 10 = .ok (.bipush 99, 2) ∧ (decode cX13_refusesNight 12 = .ok (.invokestatic 128, 3) ∧ decode cX13_refusesNight 15 = .ok (.ifCond .eq 7, 3))) ∧ ((decode cX13_refusesNight 18 = .ok (.iconst 0, 1) ∧ decode cX13_refusesNight 19 = .ok (.goto 4, 3)) ∧ (decode cX13_refusesNight 22 = .ok (.iconst 2, 1) ∧ decode cX13_refusesNight 23 = .ok (.ireturn, 1))))) := ⟨by decide +kernel, by decide +kernel⟩
def X13_refusesNight_b23 (s : St) (k0 : Int) : Rs :=
  some (k0, s)
set_option maxRecDepth 100000 in
set_option maxHeartbeats 4000000 in
theorem X13_refusesNight_b23_s (G : Gx) (l : Launch) (s : St) (k0 : Int) : V G l mX13_refusesNight 23 [] [(0, k0)] s (X13_refusesNight_b23 s k0) := by
  unfold X13_refusesNight_b23
  exact V_iret rfl dec_X13_refusesNight.2.2.2.2
def X13_refusesNight (s : St) (a0 a1 a2 : Int) : Rs :=
  if ¬ a1 = 0 then (bnd (X13_in s a2 0 99) (fun r1 s2 => if r1 = 0 then (X13_refusesNight_b23 s2 2) else (X13_refusesNight_b23 s2 0))) else (X13_refusesNight_b23 s 1)
set_option maxRecDepth 100000 in
set_option maxHeartbeats 4000000 in
theorem X13_refusesNight_s (G : Gx) (l : Launch) (s : St) (a0 a1 a2 : Int) : Snd G l mX13_refusesNight [(2, a0), (0, a1), (0, a2)] s (X13_refusesNight s a0 a1 a2) := by
  refine Snd.of (by decide +kernel) rfl ?_
  show V G l mX13_refusesNight 0 [(0, (2, a0)), (1, (0, a1)), (2, (0, a2))] [] s _
  unfold X13_refusesNight
  refine V_iload_n dec_X13_refusesNight.1.1.1 1 rfl ?_
  refine V_if_ne (tgt := 8) dec_X13_refusesNight.1.1.2.1 (by decide) ?_ ?_
  · refine V_iload_n dec_X13_refusesNight.1.2.2.1 2 rfl ?_
    refine V_iconst dec_X13_refusesNight.1.2.2.2 rfl ?_
    refine V_bipush dec_X13_refusesNight.2.1.1 rfl ?_
    refine V_callS0 (As := [(0, a2), (0, 0), (0, 99)]) (st := []) (host := "") rfl (X13_in_s G l s a2 0 99) cal_X13_in rfl (Or.inl ml_X13_128) rfl rfl dec_X13_refusesNight.2.1.2.1 (k_tag (tag := 0) rfl fun r1 s2 => ?_)
    refine V_if_eq (tgt := 22) dec_X13_refusesNight.2.1.2.2 (by decide) ?_ ?_
    · refine V_iconst dec_X13_refusesNight.2.2.2.1 rfl ?_
      exact V_pick [] rfl (X13_refusesNight_b23_s G l s2 2)
    · refine V_iconst dec_X13_refusesNight.2.2.1.1 rfl ?_
      refine V_goto (tgt := 23) dec_X13_refusesNight.2.2.1.2 (by decide) ?_
      exact V_pick [] rfl (X13_refusesNight_b23_s G l s2 0)
  · refine V_iconst dec_X13_refusesNight.1.1.2.2 rfl ?_
    refine V_goto (tgt := 23) dec_X13_refusesNight.1.2.1 (by decide) ?_
    exact V_pick [] rfl (X13_refusesNight_b23_s G l s 1)
theorem dec_X13_works : ((((decode cX13_works 0 = .ok (.iconst 0, 1) ∧ decode cX13_works 1 = .ok (.istore_n 1, 1)) ∧ (decode cX13_works 2 = .ok (.iload_n 1, 1) ∧ decode cX13_works 3 = .ok (.bipush 19, 2))) ∧ ((decode cX13_works 5 = .ok (.if_icmp .ge 21, 3) ∧ decode cX13_works 8 = .ok (.aload_n 0, 1)) ∧ (decode cX13_works 9 = .ok (.getfield 21, 3) ∧ decode cX13_works 12 = .ok (.iload_n 1, 1)))) ∧ (((decode cX13_works 13 = .ok (.aload_n 0, 1) ∧ decode cX13_works 14 = .ok (.getfield 17, 3)) ∧ (decode cX13_works 17 = .ok (.iload_n 1, 1) ∧ decode cX13_works 18 = .ok (.iaload, 1))) ∧ ((decode cX13_works 19 = .ok (.iastore, 1) ∧ decode cX13_works 20 = .ok (.iinc 1 1, 3)) ∧ (decode cX13_works 23 = .ok (.goto (-21), 3) ∧ decode cX13_works 26 = .ok (.return_, 1))))) := ⟨by decide +kernel, by decide +kernel⟩
def X13_works_b2_body (rk2 : St → Int → Int → Rs) (s : St) (x0 x1 : Int) : Rs :=
  if (19 : Int) ≤ x1 then (some (0, s)) else (grd (isK s 23 x0) (grd (isK s 23 x0) (grd (isK s 1 (gR s x0 15) ∧ 0 ≤ x1 ∧ x1 < ln s (gR s x0 15)) (grd (isK s 1 (gR s x0 16) ∧ 0 ≤ x1 ∧ x1 < ln s (gR s x0 16)) (lets (pI s (gR s x0 16) x1.toNat (gI s (gR s x0 15) x1.toNat)) (fun s1 => rk2 s1 x0 (w32 (x1 + 1))))))))
def X13_works_b2 (n : Nat) (s : St) (x0 x1 : Int) : Rs := iter (fun (rec : St × Int × Int → Rs) (a : St × Int × Int) => X13_works_b2_body (fun (s : St) (x0 x1 : Int) => rec (s, x0, x1)) a.1 a.2.1 a.2.2) n (s, x0, x1)
theorem X13_works_b2_0 (s : St) (x0 x1 : Int) : X13_works_b2 0 s x0 x1 = none := rfl
theorem X13_works_b2_1 (n : Nat) (s : St) (x0 x1 : Int) : X13_works_b2 (n + 1) s x0 x1 = X13_works_b2_body (X13_works_b2 n) s x0 x1 := rfl
set_option maxRecDepth 100000 in
set_option maxHeartbeats 4000000 in
theorem X13_works_b2_body_s (G : Gx) (l : Launch) (rk2 : St → Int → Int → Rs) (hk2 : ∀ (s : St) (x0 x1 : Int), V G l mX13_works 2 [(0, (2, x0)), (1, (0, x1))] [] s (rk2 s x0 x1)) (s : St) (x0 x1 : Int) : V G l mX13_works 2 [(0, (2, x0)), (1, (0, x1))] [] s (X13_works_b2_body rk2 s x0 x1) := by
  unfold X13_works_b2_body
  refine V_iload_n dec_X13_works.1.1.2.1 1 rfl ?_
  refine V_bipush dec_X13_works.1.1.2.2 rfl ?_
  refine V_icmp_ge (tgt := 26) dec_X13_works.1.2.1.1 (by decide) ?_ ?_
  · exact V_vret rfl dec_X13_works.2.2.2.2
  · refine V_aload_n dec_X13_works.1.2.1.2 0 rfl ?_
    refine V_getR 13 16 nf_13_16 ft_13_16 fl_X13_21 dec_X13_works.1.2.2.1 ?_
    refine V_iload_n dec_X13_works.1.2.2.2 1 rfl ?_
    refine V_aload_n dec_X13_works.2.1.1.1 0 rfl ?_
    refine V_getR 13 15 nf_13_15 ft_13_15 fl_X13_17 dec_X13_works.2.1.1.2 ?_
    refine V_iload_n dec_X13_works.2.1.2.1 1 rfl ?_
    refine V_iald dec_X13_works.2.1.2.2 ?_
    refine V_iast dec_X13_works.2.2.1.1 ?_
    refine V_lets fun s1 => ?_
    refine V_iinc (lv' := [(1, (0, (w32 (x1 + 1)))), (0, (2, x0))]) dec_X13_works.2.2.1.2 1 rfl (by decide) rfl ?_
    refine V_goto (tgt := 2) dec_X13_works.2.2.2.1 (by decide) ?_
    exact V_pick [1, 0] rfl (hk2 s1 x0 (w32 (x1 + 1)))
theorem X13_works_b2_s (G : Gx) (l : Launch) (n : Nat) (s : St) (x0 x1 : Int) : V G l mX13_works 2 [(0, (2, x0)), (1, (0, x1))] [] s (X13_works_b2 n s x0 x1) :=
  V_iter (LV := fun a : St × Int × Int => [(0, (2, a.2.1)), (1, (0, a.2.2))]) (ST := fun a : St × Int × Int => []) (SS := fun a : St × Int × Int => a.1) (fun rec hrec a => X13_works_b2_body_s G l (fun (s : St) (x0 x1 : Int) => rec (s, x0, x1)) (fun (s : St) (x0 x1 : Int) => hrec (s, x0, x1)) a.1 a.2.1 a.2.2) n (s, x0, x1)
def X13_works (s : St) (a0 : Int) : Rs :=
  X13_works_b2 FU s a0 0
set_option maxRecDepth 100000 in
set_option maxHeartbeats 4000000 in
theorem X13_works_s (G : Gx) (l : Launch) (s : St) (a0 : Int) : Snd G l mX13_works [(2, a0)] s (X13_works s a0) := by
  refine Snd.of (by decide +kernel) rfl ?_
  show V G l mX13_works 0 [(0, (2, a0))] [] s _
  unfold X13_works
  refine V_iconst dec_X13_works.1.1.1.1 rfl ?_
  refine V_istore_n (lv' := [(1, (0, 0)), (0, (2, a0))]) dec_X13_works.1.1.1.2 (by decide) rfl ?_
  exact V_pick [1, 0] rfl (X13_works_b2_s G l FU s a0 0)
theorem dec_X13_aimFor : (((((decode cX13_aimFor 0 = .ok (.aload_n 0, 1) ∧ decode cX13_aimFor 1 = .ok (.iconst 0, 1)) ∧ (decode cX13_aimFor 2 = .ok (.putfield 49, 3) ∧ (decode cX13_aimFor 5 = .ok (.aload_n 0, 1) ∧ decode cX13_aimFor 6 = .ok (.aload_n 0, 1)))) ∧ ((decode cX13_aimFor 7 = .ok (.iload_n 1, 1) ∧ decode cX13_aimFor 8 = .ok (.invokevirtual 348, 3)) ∧ (decode cX13_aimFor 11 = .ok (.ifCond .eq 15, 3) ∧ (decode cX13_aimFor 14 = .ok (.aload_n 0, 1) ∧ decode cX13_aimFor 15 = .ok (.iload_n 2, 1))))) ∧ (((decode cX13_aimFor 16 = .ok (.invokevirtual 339, 3) ∧ decode cX13_aimFor 19 = .ok (.ifCond .eq 7, 3)) ∧ (decode cX13_aimFor 22 = .ok (.iconst 1, 1) ∧ (decode cX13_aimFor 23 = .ok (.goto 4, 3) ∧ decode cX13_aimFor 26 = .ok (.iconst 0, 1)))) ∧ ((decode cX13_aimFor 27 = .ok (.iload_n 3, 1) ∧ (decode cX13_aimFor 28 = .ok (.invokevirtual 354, 3) ∧ decode cX13_aimFor 31 = .ok (.istore 4, 2))) ∧ (decode cX13_aimFor 33 = .ok (.iload 4, 2) ∧ (decode cX13_aimFor 35 = .ok (.ifCond .le 10, 3) ∧ decode cX13_aimFor 38 = .ok (.aload_n 0, 1)))))) ∧ ((((decode cX13_aimFor 39 = .ok (.iload 4, 2) ∧ decode cX13_aimFor 41 = .ok (.invokevirtual 55, 3)) ∧ (decode cX13_aimFor 44 = .ok (.ireturn, 1) ∧ (decode cX13_aimFor 45 = .ok (.aload_n 0, 1) ∧ decode cX13_aimFor 46 = .ok (.invokevirtual 342, 3)))) ∧ ((decode cX13_aimFor 49 = .ok (.iconst 0, 1) ∧ (decode cX13_aimFor 50 = .ok (.istore 5, 2) ∧ decode cX13_aimFor 52 = .ok (.aload_n 0, 1))) ∧ (decode cX13_aimFor 53 = .ok (.aload_n 0, 1) ∧ (decode cX13_aimFor 54 = .ok (.iload_n 1, 1) ∧ decode cX13_aimFor 55 = .ok (.iload 5, 2))))) ∧ (((decode cX13_aimFor 57 = .ok (.iload_n 3, 1) ∧ decode cX13_aimFor 58 = .ok (.invokevirtual 326, 3)) ∧ (decode cX13_aimFor 61 = .ok (.invokevirtual 330, 3) ∧ (decode cX13_aimFor 64 = .ok (.iload_n 2, 1) ∧ decode cX13_aimFor 65 = .ok (.if_icmp .eq 9, 3)))) ∧ ((decode cX13_aimFor 68 = .ok (.iinc 5 1, 3) ∧ (decode cX13_aimFor 71 = .ok (.goto (-19), 3) ∧ decode cX13_aimFor 74 = .ok (.aload_n 0, 1))) ∧ (decode cX13_aimFor 75 = .ok (.iload 5, 2) ∧ (decode cX13_aimFor 77 = .ok (.invokevirtual 59, 3) ∧ decode cX13_aimFor 80 = .ok (.ireturn, 1))))))) := ⟨⟨by decide +kernel, by decide +kernel⟩, ⟨by decide +kernel, by decide +kernel⟩⟩
def X13_aimFor_b52_body (rk52 : St → Int → Int → Int → Int → Int → Rs) (s : St) (x0 x1 x2 x3 x5 : Int) : Rs :=
  grd (isK s 23 x0) (bnd (X13_outOf s x0 x1 x5 x3) (fun r8 s9 => grd (isK s9 23 x0) (bnd (X13_heardFrom s9 x0 r8) (fun r10 s11 => if r10 = x2 then (grd (isK s11 23 x0) (bnd (X13_good s11 x0 x5) (fun r12 s13 => some (r12, s13)))) else (rk52 s11 x0 x1 x2 x3 (w32 (x5 + 1)))))))
def X13_aimFor_b52 (n : Nat) (s : St) (x0 x1 x2 x3 x5 : Int) : Rs := iter (fun (rec : St × Int × Int × Int × Int × Int → Rs) (a : St × Int × Int × Int × Int × Int) => X13_aimFor_b52_body (fun (s : St) (x0 x1 x2 x3 x5 : Int) => rec (s, x0, x1, x2, x3, x5)) a.1 a.2.1 a.2.2.1 a.2.2.2.1 a.2.2.2.2.1 a.2.2.2.2.2) n (s, x0, x1, x2, x3, x5)
theorem X13_aimFor_b52_0 (s : St) (x0 x1 x2 x3 x5 : Int) : X13_aimFor_b52 0 s x0 x1 x2 x3 x5 = none := rfl
theorem X13_aimFor_b52_1 (n : Nat) (s : St) (x0 x1 x2 x3 x5 : Int) : X13_aimFor_b52 (n + 1) s x0 x1 x2 x3 x5 = X13_aimFor_b52_body (X13_aimFor_b52 n) s x0 x1 x2 x3 x5 := rfl
set_option maxRecDepth 100000 in
set_option maxHeartbeats 4000000 in
theorem X13_aimFor_b52_body_s (G : Gx) (l : Launch) (rk52 : St → Int → Int → Int → Int → Int → Rs) (hk52 : ∀ (s : St) (x0 x1 x2 x3 x5 : Int), V G l mX13_aimFor 52 [(0, (2, x0)), (1, (0, x1)), (2, (0, x2)), (3, (0, x3)), (5, (0, x5))] [] s (rk52 s x0 x1 x2 x3 x5)) (s : St) (x0 x1 x2 x3 x5 : Int) : V G l mX13_aimFor 52 [(0, (2, x0)), (1, (0, x1)), (2, (0, x2)), (3, (0, x3)), (5, (0, x5))] [] s (X13_aimFor_b52_body rk52 s x0 x1 x2 x3 x5) := by
  unfold X13_aimFor_b52_body
  refine V_aload_n dec_X13_aimFor.2.1.2.1.2.2 0 rfl ?_
  refine V_aload_n dec_X13_aimFor.2.1.2.2.1 0 rfl ?_
  refine V_iload_n dec_X13_aimFor.2.1.2.2.2.1 1 rfl ?_
  refine V_iload dec_X13_aimFor.2.1.2.2.2.2 4 rfl ?_
  refine V_iload_n dec_X13_aimFor.2.2.1.1.1 3 rfl ?_
  refine V_callV0 (ci := 13) (a := x0) (As := [(0, x1), (0, x5), (0, x3)]) (st := [(2, x0)]) rfl rfl (X13_outOf_s G l s x0 x1 x5 x3) cal_X13_outOf rfl ml_X13_326 rfl rfl dec_X13_aimFor.2.2.1.1.2 (k_tag (tag := 0) rfl fun r8 s9 => ?_)
  refine V_callV0 (ci := 13) (a := x0) (As := [(0, r8)]) (st := []) rfl rfl (X13_heardFrom_s G l s9 x0 r8) cal_X13_heardFrom rfl ml_X13_330 rfl rfl dec_X13_aimFor.2.2.1.2.1 (k_tag (tag := 0) rfl fun r10 s11 => ?_)
  refine V_iload_n dec_X13_aimFor.2.2.1.2.2.1 2 rfl ?_
  refine V_icmp_eq (tgt := 74) dec_X13_aimFor.2.2.1.2.2.2 (by decide) ?_ ?_
  · refine V_aload_n dec_X13_aimFor.2.2.2.1.2.2 0 rfl ?_
    refine V_iload dec_X13_aimFor.2.2.2.2.1 4 rfl ?_
    refine V_callV0 (ci := 13) (a := x0) (As := [(0, x5)]) (st := []) rfl rfl (X13_good_s G l s11 x0 x5) cal_X13_good rfl ml_X13_59 rfl rfl dec_X13_aimFor.2.2.2.2.2.1 (k_tag (tag := 0) rfl fun r12 s13 => ?_)
    exact V_iret rfl dec_X13_aimFor.2.2.2.2.2.2
  · refine V_iinc (lv' := [(5, (0, (w32 (x5 + 1)))), (0, (2, x0)), (1, (0, x1)), (2, (0, x2)), (3, (0, x3))]) dec_X13_aimFor.2.2.2.1.1 4 rfl (by decide) rfl ?_
    refine V_goto (tgt := 52) dec_X13_aimFor.2.2.2.1.2.1 (by decide) ?_
    exact V_pick [1, 2, 3, 4, 0] rfl (hk52 s11 x0 x1 x2 x3 (w32 (x5 + 1)))
theorem X13_aimFor_b52_s (G : Gx) (l : Launch) (n : Nat) (s : St) (x0 x1 x2 x3 x5 : Int) : V G l mX13_aimFor 52 [(0, (2, x0)), (1, (0, x1)), (2, (0, x2)), (3, (0, x3)), (5, (0, x5))] [] s (X13_aimFor_b52 n s x0 x1 x2 x3 x5) :=
  V_iter (LV := fun a : St × Int × Int × Int × Int × Int => [(0, (2, a.2.1)), (1, (0, a.2.2.1)), (2, (0, a.2.2.2.1)), (3, (0, a.2.2.2.2.1)), (5, (0, a.2.2.2.2.2))]) (ST := fun a : St × Int × Int × Int × Int × Int => []) (SS := fun a : St × Int × Int × Int × Int × Int => a.1) (fun rec hrec a => X13_aimFor_b52_body_s G l (fun (s : St) (x0 x1 x2 x3 x5 : Int) => rec (s, x0, x1, x2, x3, x5)) (fun (s : St) (x0 x1 x2 x3 x5 : Int) => hrec (s, x0, x1, x2, x3, x5)) a.1 a.2.1 a.2.2.1 a.2.2.2.1 a.2.2.2.2.1 a.2.2.2.2.2) n (s, x0, x1, x2, x3, x5)
def X13_aimFor_b27 (s : St) (x0 x1 x2 x3 k0 k1 : Int) : Rs :=
  grd (isK s 23 k1) (bnd (X13_refusesNight s k1 k0 x3) (fun r4 s5 => if r4 ≤ 0 then (grd (isK s5 23 x0) (bnd (X13_works s5 x0) (fun r6 s7 => X13_aimFor_b52 FU s7 x0 x1 x2 x3 0))) else (grd (isK s5 23 x0) (bnd (X13_refused s5 x0 r4) (fun r14 s15 => some (r14, s15))))))
set_option maxRecDepth 100000 in
set_option maxHeartbeats 4000000 in
theorem X13_aimFor_b27_s (G : Gx) (l : Launch) (s : St) (x0 x1 x2 x3 k0 k1 : Int) : V G l mX13_aimFor 27 [(0, (2, x0)), (1, (0, x1)), (2, (0, x2)), (3, (0, x3))] [(0, k0), (2, k1)] s (X13_aimFor_b27 s x0 x1 x2 x3 k0 k1) := by
  unfold X13_aimFor_b27
  refine V_iload_n dec_X13_aimFor.1.2.2.1.1 3 rfl ?_
  refine V_callV0 (ci := 13) (a := k1) (As := [(0, k0), (0, x3)]) (st := []) rfl rfl (X13_refusesNight_s G l s k1 k0 x3) cal_X13_refusesNight rfl ml_X13_354 rfl rfl dec_X13_aimFor.1.2.2.1.2.1 (k_tag (tag := 0) rfl fun r4 s5 => ?_)
  refine V_istore (lv' := [(4, (0, r4)), (0, (2, x0)), (1, (0, x1)), (2, (0, x2)), (3, (0, x3))]) dec_X13_aimFor.1.2.2.1.2.2 (by decide) rfl ?_
  refine V_iload dec_X13_aimFor.1.2.2.2.1 0 rfl ?_
  refine V_if_le (tgt := 45) dec_X13_aimFor.1.2.2.2.2.1 (by decide) ?_ ?_
  · refine V_aload_n dec_X13_aimFor.2.1.1.2.2.1 1 rfl ?_
    refine V_callV0 (ci := 13) (a := x0) (As := []) (st := []) rfl rfl (X13_works_s G l s5 x0) cal_X13_works rfl ml_X13_342 rfl rfl dec_X13_aimFor.2.1.1.2.2.2 (k_void rfl fun r6 s7 => ?_)
    refine V_iconst dec_X13_aimFor.2.1.2.1.1 rfl ?_
    refine V_istore (lv' := [(5, (0, 0)), (4, (0, r4)), (0, (2, x0)), (1, (0, x1)), (2, (0, x2)), (3, (0, x3))]) dec_X13_aimFor.2.1.2.1.2.1 (by decide) rfl ?_
    exact V_pick [2, 3, 4, 5, 0] rfl (X13_aimFor_b52_s G l FU s7 x0 x1 x2 x3 0)
  · refine V_aload_n dec_X13_aimFor.1.2.2.2.2.2 1 rfl ?_
    refine V_iload dec_X13_aimFor.2.1.1.1.1 0 rfl ?_
    refine V_callV0 (ci := 13) (a := x0) (As := [(0, r4)]) (st := []) rfl rfl (X13_refused_s G l s5 x0 r4) cal_X13_refused rfl ml_X13_55 rfl rfl dec_X13_aimFor.2.1.1.1.2 (k_tag (tag := 0) rfl fun r14 s15 => ?_)
    exact V_iret rfl dec_X13_aimFor.2.1.1.2.1
def X13_aimFor_b26 (s : St) (x0 x1 x2 x3 k0 : Int) : Rs :=
  X13_aimFor_b27 s x0 x1 x2 x3 0 k0
set_option maxRecDepth 100000 in
set_option maxHeartbeats 4000000 in
theorem X13_aimFor_b26_s (G : Gx) (l : Launch) (s : St) (x0 x1 x2 x3 k0 : Int) : V G l mX13_aimFor 26 [(0, (2, x0)), (1, (0, x1)), (2, (0, x2)), (3, (0, x3))] [(2, k0)] s (X13_aimFor_b26 s x0 x1 x2 x3 k0) := by
  unfold X13_aimFor_b26
  refine V_iconst dec_X13_aimFor.1.2.1.2.2.2 rfl ?_
  exact V_pick [0, 1, 2, 3] rfl (X13_aimFor_b27_s G l s x0 x1 x2 x3 0 k0)
def X13_aimFor (s : St) (a0 a1 a2 a3 : Int) : Rs :=
  grd (isK s 23 a0) (lets (pI s a0 0 0) (fun s1 => grd (isK s1 23 a0) (bnd (X13_isDead s1 a0 a1) (fun r2 s3 => if r2 = 0 then (X13_aimFor_b26 s3 a0 a1 a2 a3 a0) else (grd (isK s3 23 a0) (bnd (X13_isPerson s3 a0 a2) (fun r16 s17 => if r16 = 0 then (X13_aimFor_b26 s17 a0 a1 a2 a3 a0) else (X13_aimFor_b27 s17 a0 a1 a2 a3 1 a0))))))))
set_option maxRecDepth 100000 in
set_option maxHeartbeats 4000000 in
theorem X13_aimFor_s (G : Gx) (l : Launch) (s : St) (a0 a1 a2 a3 : Int) : Snd G l mX13_aimFor [(2, a0), (0, a1), (0, a2), (0, a3)] s (X13_aimFor s a0 a1 a2 a3) := by
  refine Snd.of (by decide +kernel) rfl ?_
  show V G l mX13_aimFor 0 [(0, (2, a0)), (1, (0, a1)), (2, (0, a2)), (3, (0, a3))] [] s _
  unfold X13_aimFor
  refine V_aload_n dec_X13_aimFor.1.1.1.1.1 0 rfl ?_
  refine V_iconst dec_X13_aimFor.1.1.1.1.2 rfl ?_
  refine V_putI (host := "") 13 0 nf_13_0 ty_13_0 (Or.inl ⟨fl_X13_49, Or.inl rfl⟩) dec_X13_aimFor.1.1.1.2.1 ?_
  refine V_lets fun s1 => ?_
  refine V_aload_n dec_X13_aimFor.1.1.1.2.2.1 0 rfl ?_
  refine V_aload_n dec_X13_aimFor.1.1.1.2.2.2 0 rfl ?_
  refine V_iload_n dec_X13_aimFor.1.1.2.1.1 1 rfl ?_
  refine V_callV0 (ci := 13) (a := a0) (As := [(0, a1)]) (st := [(2, a0)]) rfl rfl (X13_isDead_s G l s1 a0 a1) cal_X13_isDead rfl ml_X13_348 rfl rfl dec_X13_aimFor.1.1.2.1.2 (k_tag (tag := 0) rfl fun r2 s3 => ?_)
  refine V_if_eq (tgt := 26) dec_X13_aimFor.1.1.2.2.1 (by decide) ?_ ?_
  · exact V_pick [0, 1, 2, 3] rfl (X13_aimFor_b26_s G l s3 a0 a1 a2 a3 a0)
  · refine V_aload_n dec_X13_aimFor.1.1.2.2.2.1 0 rfl ?_
    refine V_iload_n dec_X13_aimFor.1.1.2.2.2.2 2 rfl ?_
    refine V_callV0 (ci := 13) (a := a0) (As := [(0, a2)]) (st := [(2, a0)]) rfl rfl (X13_isPerson_s G l s3 a0 a2) cal_X13_isPerson rfl ml_X13_339 rfl rfl dec_X13_aimFor.1.2.1.1.1 (k_tag (tag := 0) rfl fun r16 s17 => ?_)
    refine V_if_eq (tgt := 26) dec_X13_aimFor.1.2.1.1.2 (by decide) ?_ ?_
    · exact V_pick [0, 1, 2, 3] rfl (X13_aimFor_b26_s G l s17 a0 a1 a2 a3 a0)
    · refine V_iconst dec_X13_aimFor.1.2.1.2.1 rfl ?_
      refine V_goto (tgt := 27) dec_X13_aimFor.1.2.1.2.2.1 (by decide) ?_
      exact V_pick [0, 1, 2, 3] rfl (X13_aimFor_b27_s G l s17 a0 a1 a2 a3 1 a0)
theorem dec_X13_aimOf : (((decode cX13_aimOf 0 = .ok (.aload_n 0, 1) ∧ decode cX13_aimOf 1 = .ok (.getfield 21, 3)) ∧ (decode cX13_aimOf 4 = .ok (.aload_n 0, 1) ∧ decode cX13_aimOf 5 = .ok (.getfield 303, 3))) ∧ ((decode cX13_aimOf 8 = .ok (.getfield 263, 3) ∧ decode cX13_aimOf 11 = .ok (.iload_n 1, 1)) ∧ (decode cX13_aimOf 12 = .ok (.iaload, 1) ∧ (decode cX13_aimOf 13 = .ok (.iaload, 1) ∧ decode cX13_aimOf 14 = .ok (.ireturn, 1))))) := by decide +kernel
def X13_aimOf (s : St) (a0 a1 : Int) : Rs :=
  grd (isK s 23 a0) (grd (isK s 23 a0) (grd (isK s 22 (gR s a0 3)) (grd (isK s 1 (gR s (gR s a0 3) 11) ∧ 0 ≤ a1 ∧ a1 < ln s (gR s (gR s a0 3) 11)) (grd (isK s 1 (gR s a0 16) ∧ 0 ≤ (gI s (gR s (gR s a0 3) 11) a1.toNat) ∧ (gI s (gR s (gR s a0 3) 11) a1.toNat) < ln s (gR s a0 16)) (some ((gI s (gR s a0 16) (gI s (gR s (gR s a0 3) 11) a1.toNat).toNat), s))))))
set_option maxRecDepth 100000 in
set_option maxHeartbeats 4000000 in
theorem X13_aimOf_s (G : Gx) (l : Launch) (s : St) (a0 a1 : Int) : Snd G l mX13_aimOf [(2, a0), (0, a1)] s (X13_aimOf s a0 a1) := by
  refine Snd.of (by decide +kernel) rfl ?_
  show V G l mX13_aimOf 0 [(0, (2, a0)), (1, (0, a1))] [] s _
  unfold X13_aimOf
  refine V_aload_n dec_X13_aimOf.1.1.1 0 rfl ?_
  refine V_getR 13 16 nf_13_16 ft_13_16 fl_X13_21 dec_X13_aimOf.1.1.2 ?_
  refine V_aload_n dec_X13_aimOf.1.2.1 0 rfl ?_
  refine V_getR 13 3 nf_13_3 ft_13_3 fl_X13_303 dec_X13_aimOf.1.2.2 ?_
  refine V_getRN RX13 12 11 nf_12_11 ft_12_11 fl_X13_263 dec_X13_aimOf.2.1.1 ?_
  refine V_iload_n dec_X13_aimOf.2.1.2 1 rfl ?_
  refine V_iald dec_X13_aimOf.2.2.1 ?_
  refine V_iald dec_X13_aimOf.2.2.2.1 ?_
  exact V_iret rfl dec_X13_aimOf.2.2.2.2
theorem dec_X13_aims : (((((decode cX13_aims 0 = .ok (.aload_n 0, 1) ∧ (decode cX13_aims 1 = .ok (.iconst 0, 1) ∧ decode cX13_aims 2 = .ok (.putfield 49, 3))) ∧ ((decode cX13_aims 5 = .ok (.aload_n 0, 1) ∧ decode cX13_aims 6 = .ok (.aload_n 0, 1)) ∧ (decode cX13_aims 7 = .ok (.iload_n 1, 1) ∧ decode cX13_aims 8 = .ok (.invokevirtual 348, 3)))) ∧ ((decode cX13_aims 11 = .ok (.ifCond .eq 15, 3) ∧ (decode cX13_aims 14 = .ok (.aload_n 0, 1) ∧ decode cX13_aims 15 = .ok (.iload_n 2, 1))) ∧ ((decode cX13_aims 16 = .ok (.invokevirtual 339, 3) ∧ decode cX13_aims 19 = .ok (.ifCond .eq 7, 3)) ∧ (decode cX13_aims 22 = .ok (.iconst 1, 1) ∧ decode cX13_aims 23 = .ok (.goto 4, 3))))) ∧ (((decode cX13_aims 26 = .ok (.iconst 0, 1) ∧ (decode cX13_aims 27 = .ok (.iload_n 3, 1) ∧ decode cX13_aims 28 = .ok (.invokevirtual 354, 3))) ∧ ((decode cX13_aims 31 = .ok (.istore 4, 2) ∧ decode cX13_aims 33 = .ok (.iload 4, 2)) ∧ (decode cX13_aims 35 = .ok (.ifCond .le 10, 3) ∧ decode cX13_aims 38 = .ok (.aload_n 0, 1)))) ∧ ((decode cX13_aims 39 = .ok (.iload 4, 2) ∧ (decode cX13_aims 41 = .ok (.invokevirtual 55, 3) ∧ decode cX13_aims 44 = .ok (.ireturn, 1))) ∧ ((decode cX13_aims 45 = .ok (.aload_n 0, 1) ∧ decode cX13_aims 46 = .ok (.invokevirtual 342, 3)) ∧ (decode cX13_aims 49 = .ok (.iconst 0, 1) ∧ decode cX13_aims 50 = .ok (.istore 5, 2)))))) ∧ ((((decode cX13_aims 52 = .ok (.iconst 0, 1) ∧ (decode cX13_aims 53 = .ok (.istore 6, 2) ∧ decode cX13_aims 55 = .ok (.iload 6, 2))) ∧ ((decode cX13_aims 57 = .ok (.aload_n 0, 1) ∧ decode cX13_aims 58 = .ok (.getfield 303, 3)) ∧ (decode cX13_aims 61 = .ok (.getfield 159, 3) ∧ decode cX13_aims 64 = .ok (.if_icmp .ge 35, 3)))) ∧ ((decode cX13_aims 67 = .ok (.iload 5, 2) ∧ (decode cX13_aims 69 = .ok (.aload_n 0, 1) ∧ decode cX13_aims 70 = .ok (.aload_n 0, 1))) ∧ ((decode cX13_aims 71 = .ok (.iload_n 1, 1) ∧ decode cX13_aims 72 = .ok (.iload 6, 2)) ∧ (decode cX13_aims 74 = .ok (.iload_n 3, 1) ∧ decode cX13_aims 75 = .ok (.invokevirtual 326, 3))))) ∧ (((decode cX13_aims 78 = .ok (.invokevirtual 330, 3) ∧ (decode cX13_aims 81 = .ok (.iload_n 2, 1) ∧ decode cX13_aims 82 = .ok (.if_icmp .ne 7, 3))) ∧ ((decode cX13_aims 85 = .ok (.iconst 1, 1) ∧ decode cX13_aims 86 = .ok (.goto 4, 3)) ∧ (decode cX13_aims 89 = .ok (.iconst 0, 1) ∧ decode cX13_aims 90 = .ok (.iadd, 1)))) ∧ ((decode cX13_aims 91 = .ok (.istore 5, 2) ∧ (decode cX13_aims 93 = .ok (.iinc 6 1, 3) ∧ decode cX13_aims 96 = .ok (.goto (-41), 3))) ∧ ((decode cX13_aims 99 = .ok (.aload_n 0, 1) ∧ decode cX13_aims 100 = .ok (.iload 5, 2)) ∧ (decode cX13_aims 102 = .ok (.invokevirtual 59, 3) ∧ decode cX13_aims 105 = .ok (.ireturn, 1))))))) := ⟨⟨⟨by decide +kernel, by decide +kernel⟩, ⟨by decide +kernel, by decide +kernel⟩⟩, ⟨⟨by decide +kernel, by decide +kernel⟩, ⟨by decide +kernel, by decide +kernel⟩⟩⟩
def X13_aims_b90 (rk55 : St → Int → Int → Int → Int → Int → Int → Rs) (s : St) (x0 x1 x2 x3 x6 k0 k1 : Int) : Rs :=
  rk55 s x0 x1 x2 x3 (w32 (k1 + k0)) (w32 (x6 + 1))
set_option maxRecDepth 100000 in
set_option maxHeartbeats 4000000 in
theorem X13_aims_b90_s (G : Gx) (l : Launch) (rk55 : St → Int → Int → Int → Int → Int → Int → Rs) (hk55 : ∀ (s : St) (x0 x1 x2 x3 x5 x6 : Int), V G l mX13_aims 55 [(0, (2, x0)), (1, (0, x1)), (2, (0, x2)), (3, (0, x3)), (5, (0, x5)), (6, (0, x6))] [] s (rk55 s x0 x1 x2 x3 x5 x6)) (s : St) (x0 x1 x2 x3 x6 k0 k1 : Int) : V G l mX13_aims 90 [(0, (2, x0)), (1, (0, x1)), (2, (0, x2)), (3, (0, x3)), (6, (0, x6))] [(0, k0), (0, k1)] s (X13_aims_b90 rk55 s x0 x1 x2 x3 x6 k0 k1) := by
  unfold X13_aims_b90
  refine V_iadd dec_X13_aims.2.2.1.2.2.2 ?_
  refine V_istore (lv' := [(5, (0, (w32 (k1 + k0)))), (0, (2, x0)), (1, (0, x1)), (2, (0, x2)), (3, (0, x3)), (6, (0, x6))]) dec_X13_aims.2.2.2.1.1 (by decide) rfl ?_
  refine V_iinc (lv' := [(6, (0, (w32 (x6 + 1)))), (5, (0, (w32 (k1 + k0)))), (0, (2, x0)), (1, (0, x1)), (2, (0, x2)), (3, (0, x3))]) dec_X13_aims.2.2.2.1.2.1 5 rfl (by decide) rfl ?_
  refine V_goto (tgt := 55) dec_X13_aims.2.2.2.1.2.2 (by decide) ?_
  exact V_pick [2, 3, 4, 5, 1, 0] rfl (hk55 s x0 x1 x2 x3 (w32 (k1 + k0)) (w32 (x6 + 1)))
def X13_aims_b55_body (rk55 : St → Int → Int → Int → Int → Int → Int → Rs) (s : St) (x0 x1 x2 x3 x5 x6 : Int) : Rs :=
  grd (isK s 23 x0) (grd (isK s 22 (gR s x0 3)) (if (gI s (gR s x0 3) 0) ≤ x6 then (grd (isK s 23 x0) (bnd (X13_good s x0 x5) (fun r8 s9 => some (r8, s9)))) else (grd (isK s 23 x0) (bnd (X13_outOf s x0 x1 x6 x3) (fun r10 s11 => grd (isK s11 23 x0) (bnd (X13_heardFrom s11 x0 r10) (fun r12 s13 => if ¬ r12 = x2 then (X13_aims_b90 rk55 s13 x0 x1 x2 x3 x6 0 x5) else (X13_aims_b90 rk55 s13 x0 x1 x2 x3 x6 1 x5))))))))
def X13_aims_b55 (n : Nat) (s : St) (x0 x1 x2 x3 x5 x6 : Int) : Rs := iter (fun (rec : St × Int × Int × Int × Int × Int × Int → Rs) (a : St × Int × Int × Int × Int × Int × Int) => X13_aims_b55_body (fun (s : St) (x0 x1 x2 x3 x5 x6 : Int) => rec (s, x0, x1, x2, x3, x5, x6)) a.1 a.2.1 a.2.2.1 a.2.2.2.1 a.2.2.2.2.1 a.2.2.2.2.2.1 a.2.2.2.2.2.2) n (s, x0, x1, x2, x3, x5, x6)
theorem X13_aims_b55_0 (s : St) (x0 x1 x2 x3 x5 x6 : Int) : X13_aims_b55 0 s x0 x1 x2 x3 x5 x6 = none := rfl
theorem X13_aims_b55_1 (n : Nat) (s : St) (x0 x1 x2 x3 x5 x6 : Int) : X13_aims_b55 (n + 1) s x0 x1 x2 x3 x5 x6 = X13_aims_b55_body (X13_aims_b55 n) s x0 x1 x2 x3 x5 x6 := rfl
set_option maxRecDepth 100000 in
set_option maxHeartbeats 4000000 in
theorem X13_aims_b55_body_s (G : Gx) (l : Launch) (rk55 : St → Int → Int → Int → Int → Int → Int → Rs) (hk55 : ∀ (s : St) (x0 x1 x2 x3 x5 x6 : Int), V G l mX13_aims 55 [(0, (2, x0)), (1, (0, x1)), (2, (0, x2)), (3, (0, x3)), (5, (0, x5)), (6, (0, x6))] [] s (rk55 s x0 x1 x2 x3 x5 x6)) (s : St) (x0 x1 x2 x3 x5 x6 : Int) : V G l mX13_aims 55 [(0, (2, x0)), (1, (0, x1)), (2, (0, x2)), (3, (0, x3)), (5, (0, x5)), (6, (0, x6))] [] s (X13_aims_b55_body rk55 s x0 x1 x2 x3 x5 x6) := by
  unfold X13_aims_b55_body
  refine V_iload dec_X13_aims.2.1.1.1.2.2 5 rfl ?_
  refine V_aload_n dec_X13_aims.2.1.1.2.1.1 0 rfl ?_
  refine V_getR 13 3 nf_13_3 ft_13_3 fl_X13_303 dec_X13_aims.2.1.1.2.1.2 ?_
  refine V_getIN RX13 12 0 nf_12_0 ft_12_0 fl_X13_159 dec_X13_aims.2.1.1.2.2.1 ?_
  refine V_icmp_ge (tgt := 99) dec_X13_aims.2.1.1.2.2.2 (by decide) ?_ ?_
  · refine V_aload_n dec_X13_aims.2.2.2.2.1.1 0 rfl ?_
    refine V_iload dec_X13_aims.2.2.2.2.1.2 4 rfl ?_
    refine V_callV0 (ci := 13) (a := x0) (As := [(0, x5)]) (st := []) rfl rfl (X13_good_s G l s x0 x5) cal_X13_good rfl ml_X13_59 rfl rfl dec_X13_aims.2.2.2.2.2.1 (k_tag (tag := 0) rfl fun r8 s9 => ?_)
    exact V_iret rfl dec_X13_aims.2.2.2.2.2.2
  · refine V_iload dec_X13_aims.2.1.2.1.1 4 rfl ?_
    refine V_aload_n dec_X13_aims.2.1.2.1.2.1 0 rfl ?_
    refine V_aload_n dec_X13_aims.2.1.2.1.2.2 0 rfl ?_
    refine V_iload_n dec_X13_aims.2.1.2.2.1.1 1 rfl ?_
    refine V_iload dec_X13_aims.2.1.2.2.1.2 5 rfl ?_
    refine V_iload_n dec_X13_aims.2.1.2.2.2.1 3 rfl ?_
    refine V_callV0 (ci := 13) (a := x0) (As := [(0, x1), (0, x6), (0, x3)]) (st := [(2, x0), (0, x5)]) rfl rfl (X13_outOf_s G l s x0 x1 x6 x3) cal_X13_outOf rfl ml_X13_326 rfl rfl dec_X13_aims.2.1.2.2.2.2 (k_tag (tag := 0) rfl fun r10 s11 => ?_)
    refine V_callV0 (ci := 13) (a := x0) (As := [(0, r10)]) (st := [(0, x5)]) rfl rfl (X13_heardFrom_s G l s11 x0 r10) cal_X13_heardFrom rfl ml_X13_330 rfl rfl dec_X13_aims.2.2.1.1.1 (k_tag (tag := 0) rfl fun r12 s13 => ?_)
    refine V_iload_n dec_X13_aims.2.2.1.1.2.1 2 rfl ?_
    refine V_icmp_ne (tgt := 89) dec_X13_aims.2.2.1.1.2.2 (by decide) ?_ ?_
    · refine V_iconst dec_X13_aims.2.2.1.2.2.1 rfl ?_
      exact V_pick [0, 1, 2, 3, 5] rfl (X13_aims_b90_s G l rk55 hk55 s13 x0 x1 x2 x3 x6 0 x5)
    · refine V_iconst dec_X13_aims.2.2.1.2.1.1 rfl ?_
      refine V_goto (tgt := 90) dec_X13_aims.2.2.1.2.1.2 (by decide) ?_
      exact V_pick [0, 1, 2, 3, 5] rfl (X13_aims_b90_s G l rk55 hk55 s13 x0 x1 x2 x3 x6 1 x5)
theorem X13_aims_b55_s (G : Gx) (l : Launch) (n : Nat) (s : St) (x0 x1 x2 x3 x5 x6 : Int) : V G l mX13_aims 55 [(0, (2, x0)), (1, (0, x1)), (2, (0, x2)), (3, (0, x3)), (5, (0, x5)), (6, (0, x6))] [] s (X13_aims_b55 n s x0 x1 x2 x3 x5 x6) :=
  V_iter (LV := fun a : St × Int × Int × Int × Int × Int × Int => [(0, (2, a.2.1)), (1, (0, a.2.2.1)), (2, (0, a.2.2.2.1)), (3, (0, a.2.2.2.2.1)), (5, (0, a.2.2.2.2.2.1)), (6, (0, a.2.2.2.2.2.2))]) (ST := fun a : St × Int × Int × Int × Int × Int × Int => []) (SS := fun a : St × Int × Int × Int × Int × Int × Int => a.1) (fun rec hrec a => X13_aims_b55_body_s G l (fun (s : St) (x0 x1 x2 x3 x5 x6 : Int) => rec (s, x0, x1, x2, x3, x5, x6)) (fun (s : St) (x0 x1 x2 x3 x5 x6 : Int) => hrec (s, x0, x1, x2, x3, x5, x6)) a.1 a.2.1 a.2.2.1 a.2.2.2.1 a.2.2.2.2.1 a.2.2.2.2.2.1 a.2.2.2.2.2.2) n (s, x0, x1, x2, x3, x5, x6)
def X13_aims_b27 (s : St) (x0 x1 x2 x3 k0 k1 : Int) : Rs :=
  grd (isK s 23 k1) (bnd (X13_refusesNight s k1 k0 x3) (fun r4 s5 => if r4 ≤ 0 then (grd (isK s5 23 x0) (bnd (X13_works s5 x0) (fun r6 s7 => X13_aims_b55 FU s7 x0 x1 x2 x3 0 0))) else (grd (isK s5 23 x0) (bnd (X13_refused s5 x0 r4) (fun r14 s15 => some (r14, s15))))))
set_option maxRecDepth 100000 in
set_option maxHeartbeats 4000000 in
theorem X13_aims_b27_s (G : Gx) (l : Launch) (s : St) (x0 x1 x2 x3 k0 k1 : Int) : V G l mX13_aims 27 [(0, (2, x0)), (1, (0, x1)), (2, (0, x2)), (3, (0, x3))] [(0, k0), (2, k1)] s (X13_aims_b27 s x0 x1 x2 x3 k0 k1) := by
  unfold X13_aims_b27
  refine V_iload_n dec_X13_aims.1.2.1.1.2.1 3 rfl ?_
  refine V_callV0 (ci := 13) (a := k1) (As := [(0, k0), (0, x3)]) (st := []) rfl rfl (X13_refusesNight_s G l s k1 k0 x3) cal_X13_refusesNight rfl ml_X13_354 rfl rfl dec_X13_aims.1.2.1.1.2.2 (k_tag (tag := 0) rfl fun r4 s5 => ?_)
  refine V_istore (lv' := [(4, (0, r4)), (0, (2, x0)), (1, (0, x1)), (2, (0, x2)), (3, (0, x3))]) dec_X13_aims.1.2.1.2.1.1 (by decide) rfl ?_
  refine V_iload dec_X13_aims.1.2.1.2.1.2 0 rfl ?_
  refine V_if_le (tgt := 45) dec_X13_aims.1.2.1.2.2.1 (by decide) ?_ ?_
  · refine V_aload_n dec_X13_aims.1.2.2.2.1.1 1 rfl ?_
    refine V_callV0 (ci := 13) (a := x0) (As := []) (st := []) rfl rfl (X13_works_s G l s5 x0) cal_X13_works rfl ml_X13_342 rfl rfl dec_X13_aims.1.2.2.2.1.2 (k_void rfl fun r6 s7 => ?_)
    refine V_iconst dec_X13_aims.1.2.2.2.2.1 rfl ?_
    refine V_istore (lv' := [(5, (0, 0)), (4, (0, r4)), (0, (2, x0)), (1, (0, x1)), (2, (0, x2)), (3, (0, x3))]) dec_X13_aims.1.2.2.2.2.2 (by decide) rfl ?_
    refine V_iconst dec_X13_aims.2.1.1.1.1 rfl ?_
    refine V_istore (lv' := [(6, (0, 0)), (5, (0, 0)), (4, (0, r4)), (0, (2, x0)), (1, (0, x1)), (2, (0, x2)), (3, (0, x3))]) dec_X13_aims.2.1.1.1.2.1 (by decide) rfl ?_
    exact V_pick [3, 4, 5, 6, 1, 0] rfl (X13_aims_b55_s G l FU s7 x0 x1 x2 x3 0 0)
  · refine V_aload_n dec_X13_aims.1.2.1.2.2.2 1 rfl ?_
    refine V_iload dec_X13_aims.1.2.2.1.1 0 rfl ?_
    refine V_callV0 (ci := 13) (a := x0) (As := [(0, r4)]) (st := []) rfl rfl (X13_refused_s G l s5 x0 r4) cal_X13_refused rfl ml_X13_55 rfl rfl dec_X13_aims.1.2.2.1.2.1 (k_tag (tag := 0) rfl fun r14 s15 => ?_)
    exact V_iret rfl dec_X13_aims.1.2.2.1.2.2
def X13_aims_b26 (s : St) (x0 x1 x2 x3 k0 : Int) : Rs :=
  X13_aims_b27 s x0 x1 x2 x3 0 k0
set_option maxRecDepth 100000 in
set_option maxHeartbeats 4000000 in
theorem X13_aims_b26_s (G : Gx) (l : Launch) (s : St) (x0 x1 x2 x3 k0 : Int) : V G l mX13_aims 26 [(0, (2, x0)), (1, (0, x1)), (2, (0, x2)), (3, (0, x3))] [(2, k0)] s (X13_aims_b26 s x0 x1 x2 x3 k0) := by
  unfold X13_aims_b26
  refine V_iconst dec_X13_aims.1.2.1.1.1 rfl ?_
  exact V_pick [0, 1, 2, 3] rfl (X13_aims_b27_s G l s x0 x1 x2 x3 0 k0)
def X13_aims (s : St) (a0 a1 a2 a3 : Int) : Rs :=
  grd (isK s 23 a0) (lets (pI s a0 0 0) (fun s1 => grd (isK s1 23 a0) (bnd (X13_isDead s1 a0 a1) (fun r2 s3 => if r2 = 0 then (X13_aims_b26 s3 a0 a1 a2 a3 a0) else (grd (isK s3 23 a0) (bnd (X13_isPerson s3 a0 a2) (fun r16 s17 => if r16 = 0 then (X13_aims_b26 s17 a0 a1 a2 a3 a0) else (X13_aims_b27 s17 a0 a1 a2 a3 1 a0))))))))
set_option maxRecDepth 100000 in
set_option maxHeartbeats 4000000 in
theorem X13_aims_s (G : Gx) (l : Launch) (s : St) (a0 a1 a2 a3 : Int) : Snd G l mX13_aims [(2, a0), (0, a1), (0, a2), (0, a3)] s (X13_aims s a0 a1 a2 a3) := by
  refine Snd.of (by decide +kernel) rfl ?_
  show V G l mX13_aims 0 [(0, (2, a0)), (1, (0, a1)), (2, (0, a2)), (3, (0, a3))] [] s _
  unfold X13_aims
  refine V_aload_n dec_X13_aims.1.1.1.1.1 0 rfl ?_
  refine V_iconst dec_X13_aims.1.1.1.1.2.1 rfl ?_
  refine V_putI (host := "") 13 0 nf_13_0 ty_13_0 (Or.inl ⟨fl_X13_49, Or.inl rfl⟩) dec_X13_aims.1.1.1.1.2.2 ?_
  refine V_lets fun s1 => ?_
  refine V_aload_n dec_X13_aims.1.1.1.2.1.1 0 rfl ?_
  refine V_aload_n dec_X13_aims.1.1.1.2.1.2 0 rfl ?_
  refine V_iload_n dec_X13_aims.1.1.1.2.2.1 1 rfl ?_
  refine V_callV0 (ci := 13) (a := a0) (As := [(0, a1)]) (st := [(2, a0)]) rfl rfl (X13_isDead_s G l s1 a0 a1) cal_X13_isDead rfl ml_X13_348 rfl rfl dec_X13_aims.1.1.1.2.2.2 (k_tag (tag := 0) rfl fun r2 s3 => ?_)
  refine V_if_eq (tgt := 26) dec_X13_aims.1.1.2.1.1 (by decide) ?_ ?_
  · exact V_pick [0, 1, 2, 3] rfl (X13_aims_b26_s G l s3 a0 a1 a2 a3 a0)
  · refine V_aload_n dec_X13_aims.1.1.2.1.2.1 0 rfl ?_
    refine V_iload_n dec_X13_aims.1.1.2.1.2.2 2 rfl ?_
    refine V_callV0 (ci := 13) (a := a0) (As := [(0, a2)]) (st := [(2, a0)]) rfl rfl (X13_isPerson_s G l s3 a0 a2) cal_X13_isPerson rfl ml_X13_339 rfl rfl dec_X13_aims.1.1.2.2.1.1 (k_tag (tag := 0) rfl fun r16 s17 => ?_)
    refine V_if_eq (tgt := 26) dec_X13_aims.1.1.2.2.1.2 (by decide) ?_ ?_
    · exact V_pick [0, 1, 2, 3] rfl (X13_aims_b26_s G l s17 a0 a1 a2 a3 a0)
    · refine V_iconst dec_X13_aims.1.1.2.2.2.1 rfl ?_
      refine V_goto (tgt := 27) dec_X13_aims.1.1.2.2.2.2 (by decide) ?_
      exact V_pick [0, 1, 2, 3] rfl (X13_aims_b27_s G l s17 a0 a1 a2 a3 1 a0)
theorem dec_X13_apart : ((((decode cX13_apart 0 = .ok (.aload_n 0, 1) ∧ decode cX13_apart 1 = .ok (.iload_n 2, 1)) ∧ (decode cX13_apart 2 = .ok (.iload_n 1, 1) ∧ (decode cX13_apart 3 = .ok (.isub, 1) ∧ decode cX13_apart 4 = .ok (.i2l, 1)))) ∧ ((decode cX13_apart 5 = .ok (.invokevirtual 317, 3) ∧ (decode cX13_apart 8 = .ok (.istore_n 3, 1) ∧ decode cX13_apart 9 = .ok (.iload_n 3, 1))) ∧ (decode cX13_apart 10 = .ok (.aload_n 0, 1) ∧ (decode cX13_apart 11 = .ok (.getfield 303, 3) ∧ decode cX13_apart 14 = .ok (.getfield 159, 3))))) ∧ (((decode cX13_apart 17 = .ok (.iload_n 3, 1) ∧ decode cX13_apart 18 = .ok (.isub, 1)) ∧ (decode cX13_apart 19 = .ok (.if_icmp .ge 7, 3) ∧ (decode cX13_apart 22 = .ok (.iload_n 3, 1) ∧ decode cX13_apart 23 = .ok (.goto 12, 3)))) ∧ ((decode cX13_apart 26 = .ok (.aload_n 0, 1) ∧ (decode cX13_apart 27 = .ok (.getfield 303, 3) ∧ decode cX13_apart 30 = .ok (.getfield 159, 3))) ∧ (decode cX13_apart 33 = .ok (.iload_n 3, 1) ∧ (decode cX13_apart 34 = .ok (.isub, 1) ∧ decode cX13_apart 35 = .ok (.ireturn, 1)))))) := ⟨by decide +kernel, by decide +kernel⟩
def X13_apart_b35 (s : St) (k0 : Int) : Rs :=
  some (k0, s)
set_option maxRecDepth 100000 in
set_option maxHeartbeats 4000000 in
theorem X13_apart_b35_s (G : Gx) (l : Launch) (s : St) (k0 : Int) : V G l mX13_apart 35 [] [(0, k0)] s (X13_apart_b35 s k0) := by
  unfold X13_apart_b35
  exact V_iret rfl dec_X13_apart.2.2.2.2.2
def X13_apart (s : St) (a0 a1 a2 : Int) : Rs :=
  grd (isK s 23 a0) (bnd (X13_around s a0 (w32 (a2 - a1))) (fun r1 s2 => grd (isK s2 23 a0) (grd (isK s2 22 (gR s2 a0 3)) (if (w32 ((gI s2 (gR s2 a0 3) 0) - r1)) ≤ r1 then (grd (isK s2 23 a0) (grd (isK s2 22 (gR s2 a0 3)) (X13_apart_b35 s2 (w32 ((gI s2 (gR s2 a0 3) 0) - r1))))) else (X13_apart_b35 s2 r1)))))
set_option maxRecDepth 100000 in
set_option maxHeartbeats 4000000 in
theorem X13_apart_s (G : Gx) (l : Launch) (s : St) (a0 a1 a2 : Int) : Snd G l mX13_apart [(2, a0), (0, a1), (0, a2)] s (X13_apart s a0 a1 a2) := by
  refine Snd.of (by decide +kernel) rfl ?_
  show V G l mX13_apart 0 [(0, (2, a0)), (1, (0, a1)), (2, (0, a2))] [] s _
  unfold X13_apart
  refine V_aload_n dec_X13_apart.1.1.1.1 0 rfl ?_
  refine V_iload_n dec_X13_apart.1.1.1.2 2 rfl ?_
  refine V_iload_n dec_X13_apart.1.1.2.1 1 rfl ?_
  refine V_isub dec_X13_apart.1.1.2.2.1 ?_
  refine V_i2l dec_X13_apart.1.1.2.2.2 ?_
  refine V_callV0 (ci := 13) (a := a0) (As := [(1, (w32 (a2 - a1)))]) (st := []) rfl rfl (X13_around_s G l s a0 (w32 (a2 - a1))) cal_X13_around rfl ml_X13_317 rfl rfl dec_X13_apart.1.2.1.1 (k_tag (tag := 0) rfl fun r1 s2 => ?_)
  refine V_istore_n (lv' := [(3, (0, r1)), (0, (2, a0)), (1, (0, a1)), (2, (0, a2))]) dec_X13_apart.1.2.1.2.1 (by decide) rfl ?_
  refine V_iload_n dec_X13_apart.1.2.1.2.2 0 rfl ?_
  refine V_aload_n dec_X13_apart.1.2.2.1 1 rfl ?_
  refine V_getR 13 3 nf_13_3 ft_13_3 fl_X13_303 dec_X13_apart.1.2.2.2.1 ?_
  refine V_getIN RX13 12 0 nf_12_0 ft_12_0 fl_X13_159 dec_X13_apart.1.2.2.2.2 ?_
  refine V_iload_n dec_X13_apart.2.1.1.1 0 rfl ?_
  refine V_isub dec_X13_apart.2.1.1.2 ?_
  refine V_icmp_ge (tgt := 26) dec_X13_apart.2.1.2.1 (by decide) ?_ ?_
  · refine V_aload_n dec_X13_apart.2.2.1.1 1 rfl ?_
    refine V_getR 13 3 nf_13_3 ft_13_3 fl_X13_303 dec_X13_apart.2.2.1.2.1 ?_
    refine V_getIN RX13 12 0 nf_12_0 ft_12_0 fl_X13_159 dec_X13_apart.2.2.1.2.2 ?_
    refine V_iload_n dec_X13_apart.2.2.2.1 0 rfl ?_
    refine V_isub dec_X13_apart.2.2.2.2.1 ?_
    exact V_pick [] rfl (X13_apart_b35_s G l s2 (w32 ((gI s2 (gR s2 a0 3) 0) - r1)))
  · refine V_iload_n dec_X13_apart.2.1.2.2.1 0 rfl ?_
    refine V_goto (tgt := 35) dec_X13_apart.2.1.2.2.2 (by decide) ?_
    exact V_pick [] rfl (X13_apart_b35_s G l s2 r1)
theorem dec_X13_areTwo : (((decode cX13_areTwo 0 = .ok (.aload_n 0, 1) ∧ (decode cX13_areTwo 1 = .ok (.iload_n 1, 1) ∧ decode cX13_areTwo 2 = .ok (.invokevirtual 339, 3))) ∧ ((decode cX13_areTwo 5 = .ok (.ifCond .eq 20, 3) ∧ decode cX13_areTwo 8 = .ok (.aload_n 0, 1)) ∧ (decode cX13_areTwo 9 = .ok (.iload_n 2, 1) ∧ decode cX13_areTwo 10 = .ok (.invokevirtual 339, 3)))) ∧ (((decode cX13_areTwo 13 = .ok (.ifCond .eq 12, 3) ∧ decode cX13_areTwo 16 = .ok (.iload_n 1, 1)) ∧ (decode cX13_areTwo 17 = .ok (.iload_n 2, 1) ∧ decode cX13_areTwo 18 = .ok (.if_icmp .eq 7, 3))) ∧ ((decode cX13_areTwo 21 = .ok (.iconst 1, 1) ∧ decode cX13_areTwo 22 = .ok (.goto 4, 3)) ∧ (decode cX13_areTwo 25 = .ok (.iconst 0, 1) ∧ decode cX13_areTwo 26 = .ok (.ireturn, 1))))) := ⟨by decide +kernel, by decide +kernel⟩
def X13_areTwo_b26 (s : St) (k0 : Int) : Rs :=
  grd (k0 = 0 ∨ k0 = 1) (some (k0, s))
set_option maxRecDepth 100000 in
set_option maxHeartbeats 4000000 in
theorem X13_areTwo_b26_s (G : Gx) (l : Launch) (s : St) (k0 : Int) : V G l mX13_areTwo 26 [] [(0, k0)] s (X13_areTwo_b26 s k0) := by
  unfold X13_areTwo_b26
  exact V_zret rfl dec_X13_areTwo.2.2.2.2
def X13_areTwo_b25 (s : St) : Rs :=
  X13_areTwo_b26 s 0
set_option maxRecDepth 100000 in
set_option maxHeartbeats 4000000 in
theorem X13_areTwo_b25_s (G : Gx) (l : Launch) (s : St) : V G l mX13_areTwo 25 [] [] s (X13_areTwo_b25 s) := by
  unfold X13_areTwo_b25
  refine V_iconst dec_X13_areTwo.2.2.2.1 rfl ?_
  exact V_pick [] rfl (X13_areTwo_b26_s G l s 0)
def X13_areTwo (s : St) (a0 a1 a2 : Int) : Rs :=
  grd (isK s 23 a0) (bnd (X13_isPerson s a0 a1) (fun r1 s2 => if r1 = 0 then (X13_areTwo_b25 s2) else (grd (isK s2 23 a0) (bnd (X13_isPerson s2 a0 a2) (fun r3 s4 => if r3 = 0 then (X13_areTwo_b25 s4) else (if a1 = a2 then (X13_areTwo_b25 s4) else (X13_areTwo_b26 s4 1)))))))
set_option maxRecDepth 100000 in
set_option maxHeartbeats 4000000 in
theorem X13_areTwo_s (G : Gx) (l : Launch) (s : St) (a0 a1 a2 : Int) : Snd G l mX13_areTwo [(2, a0), (0, a1), (0, a2)] s (X13_areTwo s a0 a1 a2) := by
  refine Snd.of (by decide +kernel) rfl ?_
  show V G l mX13_areTwo 0 [(0, (2, a0)), (1, (0, a1)), (2, (0, a2))] [] s _
  unfold X13_areTwo
  refine V_aload_n dec_X13_areTwo.1.1.1 0 rfl ?_
  refine V_iload_n dec_X13_areTwo.1.1.2.1 1 rfl ?_
  refine V_callV0 (ci := 13) (a := a0) (As := [(0, a1)]) (st := []) rfl rfl (X13_isPerson_s G l s a0 a1) cal_X13_isPerson rfl ml_X13_339 rfl rfl dec_X13_areTwo.1.1.2.2 (k_tag (tag := 0) rfl fun r1 s2 => ?_)
  refine V_if_eq (tgt := 25) dec_X13_areTwo.1.2.1.1 (by decide) ?_ ?_
  · exact V_pick [] rfl (X13_areTwo_b25_s G l s2)
  · refine V_aload_n dec_X13_areTwo.1.2.1.2 0 rfl ?_
    refine V_iload_n dec_X13_areTwo.1.2.2.1 2 rfl ?_
    refine V_callV0 (ci := 13) (a := a0) (As := [(0, a2)]) (st := []) rfl rfl (X13_isPerson_s G l s2 a0 a2) cal_X13_isPerson rfl ml_X13_339 rfl rfl dec_X13_areTwo.1.2.2.2 (k_tag (tag := 0) rfl fun r3 s4 => ?_)
    refine V_if_eq (tgt := 25) dec_X13_areTwo.2.1.1.1 (by decide) ?_ ?_
    · exact V_pick [] rfl (X13_areTwo_b25_s G l s4)
    · refine V_iload_n dec_X13_areTwo.2.1.1.2 1 rfl ?_
      refine V_iload_n dec_X13_areTwo.2.1.2.1 2 rfl ?_
      refine V_icmp_eq (tgt := 25) dec_X13_areTwo.2.1.2.2 (by decide) ?_ ?_
      · exact V_pick [] rfl (X13_areTwo_b25_s G l s4)
      · refine V_iconst dec_X13_areTwo.2.2.1.1 rfl ?_
        refine V_goto (tgt := 26) dec_X13_areTwo.2.2.1.2 (by decide) ?_
        exact V_pick [] rfl (X13_areTwo_b26_s G l s4 1)
theorem dec_X13_bit : (((decode cX13_bit 0 = .ok (.iload_n 0, 1) ∧ decode cX13_bit 1 = .ok (.iload_n 1, 1)) ∧ (decode cX13_bit 2 = .ok (.ishr, 1) ∧ (decode cX13_bit 3 = .ok (.iconst 1, 1) ∧ decode cX13_bit 4 = .ok (.iand, 1)))) ∧ ((decode cX13_bit 5 = .ok (.iconst 1, 1) ∧ (decode cX13_bit 6 = .ok (.if_icmp .ne 7, 3) ∧ decode cX13_bit 9 = .ok (.iconst 1, 1))) ∧ (decode cX13_bit 10 = .ok (.goto 4, 3) ∧ (decode cX13_bit 13 = .ok (.iconst 0, 1) ∧ decode cX13_bit 14 = .ok (.ireturn, 1))))) := by decide +kernel
def X13_bit_b14 (s : St) (k0 : Int) : Rs :=
  grd (k0 = 0 ∨ k0 = 1) (some (k0, s))
set_option maxRecDepth 100000 in
set_option maxHeartbeats 4000000 in
theorem X13_bit_b14_s (G : Gx) (l : Launch) (s : St) (k0 : Int) : V G l mX13_bit 14 [] [(0, k0)] s (X13_bit_b14 s k0) := by
  unfold X13_bit_b14
  exact V_zret rfl dec_X13_bit.2.2.2.2
def X13_bit (s : St) (a0 a1 : Int) : Rs :=
  if ¬ (and32 (shr32 a0 a1) 1) = (1 : Int) then (X13_bit_b14 s 0) else (X13_bit_b14 s 1)
set_option maxRecDepth 100000 in
set_option maxHeartbeats 4000000 in
theorem X13_bit_s (G : Gx) (l : Launch) (s : St) (a0 a1 : Int) : Snd G l mX13_bit [(0, a0), (0, a1)] s (X13_bit s a0 a1) := by
  refine Snd.of (by decide +kernel) rfl ?_
  show V G l mX13_bit 0 [(0, (0, a0)), (1, (0, a1))] [] s _
  unfold X13_bit
  refine V_iload_n dec_X13_bit.1.1.1 0 rfl ?_
  refine V_iload_n dec_X13_bit.1.1.2 1 rfl ?_
  refine V_ishr dec_X13_bit.1.2.1 ?_
  refine V_iconst dec_X13_bit.1.2.2.1 rfl ?_
  refine V_iand dec_X13_bit.1.2.2.2 ?_
  refine V_iconst dec_X13_bit.2.1.1 rfl ?_
  refine V_icmp_ne (tgt := 13) dec_X13_bit.2.1.2.1 (by decide) ?_ ?_
  · refine V_iconst dec_X13_bit.2.2.2.1 rfl ?_
    exact V_pick [] rfl (X13_bit_b14_s G l s 0)
  · refine V_iconst dec_X13_bit.2.1.2.2 rfl ?_
    refine V_goto (tgt := 14) dec_X13_bit.2.2.1 (by decide) ?_
    exact V_pick [] rfl (X13_bit_b14_s G l s 1)
theorem dec_X13_asTold : ((((((decode cX13_asTold 0 = .ok (.iconst 0, 1) ∧ decode cX13_asTold 1 = .ok (.istore_n 2, 1)) ∧ (decode cX13_asTold 2 = .ok (.iload_n 2, 1) ∧ (decode cX13_asTold 3 = .ok (.bipush 19, 2) ∧ decode cX13_asTold 5 = .ok (.if_icmp .ge 16, 3)))) ∧ ((decode cX13_asTold 8 = .ok (.aload_n 0, 1) ∧ decode cX13_asTold 9 = .ok (.getfield 21, 3)) ∧ (decode cX13_asTold 12 = .ok (.iload_n 2, 1) ∧ (decode cX13_asTold 13 = .ok (.iconst 0, 1) ∧ decode cX13_asTold 14 = .ok (.iastore, 1))))) ∧ (((decode cX13_asTold 15 = .ok (.iinc 2 1, 3) ∧ decode cX13_asTold 18 = .ok (.goto (-16), 3)) ∧ (decode cX13_asTold 21 = .ok (.iconst 0, 1) ∧ (decode cX13_asTold 22 = .ok (.istore_n 2, 1) ∧ decode cX13_asTold 23 = .ok (.iload_n 2, 1)))) ∧ ((decode cX13_asTold 24 = .ok (.bipush 6, 2) ∧ (decode cX13_asTold 26 = .ok (.if_icmp .ge 24, 3) ∧ decode cX13_asTold 29 = .ok (.aload_n 0, 1))) ∧ (decode cX13_asTold 30 = .ok (.getfield 21, 3) ∧ (decode cX13_asTold 33 = .ok (.iload_n 2, 1) ∧ decode cX13_asTold 34 = .ok (.aload_n 0, 1)))))) ∧ ((((decode cX13_asTold 35 = .ok (.getfield 303, 3) ∧ decode cX13_asTold 38 = .ok (.getfield 239, 3)) ∧ (decode cX13_asTold 41 = .ok (.iload_n 2, 1) ∧ (decode cX13_asTold 42 = .ok (.iaload, 1) ∧ decode cX13_asTold 43 = .ok (.iastore, 1)))) ∧ ((decode cX13_asTold 44 = .ok (.iinc 2 1, 3) ∧ (decode cX13_asTold 47 = .ok (.goto (-24), 3) ∧ decode cX13_asTold 50 = .ok (.iconst 0, 1))) ∧ (decode cX13_asTold 51 = .ok (.istore_n 2, 1) ∧ (decode cX13_asTold 52 = .ok (.iload_n 2, 1) ∧ decode cX13_asTold 53 = .ok (.bipush 6, 2))))) ∧ (((decode cX13_asTold 55 = .ok (.if_icmp .ge 45, 3) ∧ decode cX13_asTold 58 = .ok (.aload_n 0, 1)) ∧ (decode cX13_asTold 59 = .ok (.getfield 21, 3) ∧ (decode cX13_asTold 62 = .ok (.bipush 6, 2) ∧ decode cX13_asTold 64 = .ok (.iload_n 2, 1)))) ∧ ((decode cX13_asTold 65 = .ok (.iadd, 1) ∧ (decode cX13_asTold 66 = .ok (.aload_n 0, 1) ∧ decode cX13_asTold 67 = .ok (.getfield 303, 3))) ∧ (decode cX13_asTold 70 = .ok (.getfield 261, 3) ∧ (decode cX13_asTold 73 = .ok (.iload_n 2, 1) ∧ decode cX13_asTold 74 = .ok (.iaload, 1))))))) ∧ (((((decode cX13_asTold 75 = .ok (.iastore, 1) ∧ decode cX13_asTold 76 = .ok (.aload_n 0, 1)) ∧ (decode cX13_asTold 77 = .ok (.getfield 21, 3) ∧ (decode cX13_asTold 80 = .ok (.bipush 12, 2) ∧ decode cX13_asTold 82 = .ok (.iload_n 2, 1)))) ∧ ((decode cX13_asTold 83 = .ok (.iadd, 1) ∧ decode cX13_asTold 84 = .ok (.aload_n 0, 1)) ∧ (decode cX13_asTold 85 = .ok (.getfield 303, 3) ∧ (decode cX13_asTold 88 = .ok (.getfield 266, 3) ∧ decode cX13_asTold 91 = .ok (.iload_n 2, 1))))) ∧ (((decode cX13_asTold 92 = .ok (.iaload, 1) ∧ decode cX13_asTold 93 = .ok (.iastore, 1)) ∧ (decode cX13_asTold 94 = .ok (.iinc 2 1, 3) ∧ (decode cX13_asTold 97 = .ok (.goto (-45), 3) ∧ decode cX13_asTold 100 = .ok (.iconst 0, 1)))) ∧ ((decode cX13_asTold 101 = .ok (.istore_n 2, 1) ∧ (decode cX13_asTold 102 = .ok (.iload_n 2, 1) ∧ decode cX13_asTold 103 = .ok (.aload_n 0, 1))) ∧ (decode cX13_asTold 104 = .ok (.getfield 303, 3) ∧ (decode cX13_asTold 107 = .ok (.getfield 268, 3) ∧ decode cX13_asTold 110 = .ok (.if_icmp .ge 43, 3)))))) ∧ ((((decode cX13_asTold 113 = .ok (.iload_n 1, 1) ∧ decode cX13_asTold 114 = .ok (.iload_n 2, 1)) ∧ (decode cX13_asTold 115 = .ok (.invokestatic 314, 3) ∧ (decode cX13_asTold 118 = .ok (.ifCond .eq 29, 3) ∧ decode cX13_asTold 121 = .ok (.aload_n 0, 1)))) ∧ ((decode cX13_asTold 122 = .ok (.getfield 21, 3) ∧ (decode cX13_asTold 125 = .ok (.bipush 6, 2) ∧ decode cX13_asTold 127 = .ok (.aload_n 0, 1))) ∧ (decode cX13_asTold 128 = .ok (.getfield 303, 3) ∧ (decode cX13_asTold 131 = .ok (.getfield 274, 3) ∧ decode cX13_asTold 134 = .ok (.iload_n 2, 1))))) ∧ (((decode cX13_asTold 135 = .ok (.iaload, 1) ∧ decode cX13_asTold 136 = .ok (.iadd, 1)) ∧ (decode cX13_asTold 137 = .ok (.aload_n 0, 1) ∧ (decode cX13_asTold 138 = .ok (.getfield 303, 3) ∧ decode cX13_asTold 141 = .ok (.getfield 276, 3)))) ∧ ((decode cX13_asTold 144 = .ok (.iload_n 2, 1) ∧ (decode cX13_asTold 145 = .ok (.iaload, 1) ∧ decode cX13_asTold 146 = .ok (.iastore, 1))) ∧ (decode cX13_asTold 147 = .ok (.iinc 2 1, 3) ∧ (decode cX13_asTold 150 = .ok (.goto (-48), 3) ∧ decode cX13_asTold 153 = .ok (.return_, 1)))))))) := ⟨⟨⟨by decide +kernel, by decide +kernel⟩, ⟨by decide +kernel, by decide +kernel⟩⟩, ⟨⟨by decide +kernel, by decide +kernel⟩, ⟨by decide +kernel, by decide +kernel⟩⟩⟩
def X13_asTold_b147 (rk102 : St → Int → Int → Int → Rs) (s : St) (x0 x1 x2 : Int) : Rs :=
  rk102 s x0 x1 (w32 (x2 + 1))
set_option maxRecDepth 100000 in
set_option maxHeartbeats 4000000 in
theorem X13_asTold_b147_s (G : Gx) (l : Launch) (rk102 : St → Int → Int → Int → Rs) (hk102 : ∀ (s : St) (x0 x1 x2 : Int), V G l mX13_asTold 102 [(0, (2, x0)), (1, (0, x1)), (2, (0, x2))] [] s (rk102 s x0 x1 x2)) (s : St) (x0 x1 x2 : Int) : V G l mX13_asTold 147 [(0, (2, x0)), (1, (0, x1)), (2, (0, x2))] [] s (X13_asTold_b147 rk102 s x0 x1 x2) := by
  unfold X13_asTold_b147
  refine V_iinc (lv' := [(2, (0, (w32 (x2 + 1)))), (0, (2, x0)), (1, (0, x1))]) dec_X13_asTold.2.2.2.2.2.1 2 rfl (by decide) rfl ?_
  refine V_goto (tgt := 102) dec_X13_asTold.2.2.2.2.2.2.1 (by decide) ?_
  exact V_pick [1, 2, 0] rfl (hk102 s x0 x1 (w32 (x2 + 1)))
def X13_asTold_b102_body (rk102 : St → Int → Int → Int → Rs) (s : St) (x0 x1 x2 : Int) : Rs :=
  grd (isK s 23 x0) (grd (isK s 22 (gR s x0 3)) (if (gI s (gR s x0 3) 5) ≤ x2 then (some (0, s)) else (bnd (X13_bit s x1 x2) (fun r1 s2 => if r1 = 0 then (X13_asTold_b147 rk102 s2 x0 x1 x2) else (grd (isK s2 23 x0) (grd (isK s2 23 x0) (grd (isK s2 22 (gR s2 x0 3)) (grd (isK s2 1 (gR s2 (gR s2 x0 3) 13) ∧ 0 ≤ x2 ∧ x2 < ln s2 (gR s2 (gR s2 x0 3) 13)) (grd (isK s2 23 x0) (grd (isK s2 22 (gR s2 x0 3)) (grd (isK s2 1 (gR s2 (gR s2 x0 3) 14) ∧ 0 ≤ x2 ∧ x2 < ln s2 (gR s2 (gR s2 x0 3) 14)) (grd (isK s2 1 (gR s2 x0 16) ∧ 0 ≤ (w32 (6 + (gI s2 (gR s2 (gR s2 x0 3) 13) x2.toNat))) ∧ (w32 (6 + (gI s2 (gR s2 (gR s2 x0 3) 13) x2.toNat))) < ln s2 (gR s2 x0 16)) (lets (pI s2 (gR s2 x0 16) (w32 (6 + (gI s2 (gR s2 (gR s2 x0 3) 13) x2.toNat))).toNat (gI s2 (gR s2 (gR s2 x0 3) 14) x2.toNat)) (fun s3 => X13_asTold_b147 rk102 s3 x0 x1 x2))))))))))))))
def X13_asTold_b102 (n : Nat) (s : St) (x0 x1 x2 : Int) : Rs := iter (fun (rec : St × Int × Int × Int → Rs) (a : St × Int × Int × Int) => X13_asTold_b102_body (fun (s : St) (x0 x1 x2 : Int) => rec (s, x0, x1, x2)) a.1 a.2.1 a.2.2.1 a.2.2.2) n (s, x0, x1, x2)
theorem X13_asTold_b102_0 (s : St) (x0 x1 x2 : Int) : X13_asTold_b102 0 s x0 x1 x2 = none := rfl
theorem X13_asTold_b102_1 (n : Nat) (s : St) (x0 x1 x2 : Int) : X13_asTold_b102 (n + 1) s x0 x1 x2 = X13_asTold_b102_body (X13_asTold_b102 n) s x0 x1 x2 := rfl
set_option maxRecDepth 100000 in
set_option maxHeartbeats 4000000 in
theorem X13_asTold_b102_body_s (G : Gx) (l : Launch) (rk102 : St → Int → Int → Int → Rs) (hk102 : ∀ (s : St) (x0 x1 x2 : Int), V G l mX13_asTold 102 [(0, (2, x0)), (1, (0, x1)), (2, (0, x2))] [] s (rk102 s x0 x1 x2)) (s : St) (x0 x1 x2 : Int) : V G l mX13_asTold 102 [(0, (2, x0)), (1, (0, x1)), (2, (0, x2))] [] s (X13_asTold_b102_body rk102 s x0 x1 x2) := by
  unfold X13_asTold_b102_body
  refine V_iload_n dec_X13_asTold.2.1.2.2.1.2.1 2 rfl ?_
  refine V_aload_n dec_X13_asTold.2.1.2.2.1.2.2 0 rfl ?_
  refine V_getR 13 3 nf_13_3 ft_13_3 fl_X13_303 dec_X13_asTold.2.1.2.2.2.1 ?_
  refine V_getIN RX13 12 5 nf_12_5 ft_12_5 fl_X13_268 dec_X13_asTold.2.1.2.2.2.2.1 ?_
  refine V_icmp_ge (tgt := 153) dec_X13_asTold.2.1.2.2.2.2.2 (by decide) ?_ ?_
  · exact V_vret rfl dec_X13_asTold.2.2.2.2.2.2.2
  · refine V_iload_n dec_X13_asTold.2.2.1.1.1.1 1 rfl ?_
    refine V_iload_n dec_X13_asTold.2.2.1.1.1.2 2 rfl ?_
    refine V_callS0 (As := [(0, x1), (0, x2)]) (st := []) (host := "") rfl (X13_bit_s G l s x1 x2) cal_X13_bit rfl (Or.inl ml_X13_314) rfl rfl dec_X13_asTold.2.2.1.1.2.1 (k_tag (tag := 0) rfl fun r1 s2 => ?_)
    refine V_if_eq (tgt := 147) dec_X13_asTold.2.2.1.1.2.2.1 (by decide) ?_ ?_
    · exact V_pick [0, 1, 2] rfl (X13_asTold_b147_s G l rk102 hk102 s2 x0 x1 x2)
    · refine V_aload_n dec_X13_asTold.2.2.1.1.2.2.2 0 rfl ?_
      refine V_getR 13 16 nf_13_16 ft_13_16 fl_X13_21 dec_X13_asTold.2.2.1.2.1.1 ?_
      refine V_bipush dec_X13_asTold.2.2.1.2.1.2.1 rfl ?_
      refine V_aload_n dec_X13_asTold.2.2.1.2.1.2.2 0 rfl ?_
      refine V_getR 13 3 nf_13_3 ft_13_3 fl_X13_303 dec_X13_asTold.2.2.1.2.2.1 ?_
      refine V_getRN RX13 12 13 nf_12_13 ft_12_13 fl_X13_274 dec_X13_asTold.2.2.1.2.2.2.1 ?_
      refine V_iload_n dec_X13_asTold.2.2.1.2.2.2.2 2 rfl ?_
      refine V_iald dec_X13_asTold.2.2.2.1.1.1 ?_
      refine V_iadd dec_X13_asTold.2.2.2.1.1.2 ?_
      refine V_aload_n dec_X13_asTold.2.2.2.1.2.1 0 rfl ?_
      refine V_getR 13 3 nf_13_3 ft_13_3 fl_X13_303 dec_X13_asTold.2.2.2.1.2.2.1 ?_
      refine V_getRN RX13 12 14 nf_12_14 ft_12_14 fl_X13_276 dec_X13_asTold.2.2.2.1.2.2.2 ?_
      refine V_iload_n dec_X13_asTold.2.2.2.2.1.1 2 rfl ?_
      refine V_iald dec_X13_asTold.2.2.2.2.1.2.1 ?_
      refine V_iast dec_X13_asTold.2.2.2.2.1.2.2 ?_
      refine V_lets fun s3 => ?_
      exact V_pick [0, 1, 2] rfl (X13_asTold_b147_s G l rk102 hk102 s3 x0 x1 x2)
theorem X13_asTold_b102_s (G : Gx) (l : Launch) (n : Nat) (s : St) (x0 x1 x2 : Int) : V G l mX13_asTold 102 [(0, (2, x0)), (1, (0, x1)), (2, (0, x2))] [] s (X13_asTold_b102 n s x0 x1 x2) :=
  V_iter (LV := fun a : St × Int × Int × Int => [(0, (2, a.2.1)), (1, (0, a.2.2.1)), (2, (0, a.2.2.2))]) (ST := fun a : St × Int × Int × Int => []) (SS := fun a : St × Int × Int × Int => a.1) (fun rec hrec a => X13_asTold_b102_body_s G l (fun (s : St) (x0 x1 x2 : Int) => rec (s, x0, x1, x2)) (fun (s : St) (x0 x1 x2 : Int) => hrec (s, x0, x1, x2)) a.1 a.2.1 a.2.2.1 a.2.2.2) n (s, x0, x1, x2)
def X13_asTold_b52_body (rk52 : St → Int → Int → Int → Rs) (s : St) (x0 x1 x2 : Int) : Rs :=
  if (6 : Int) ≤ x2 then (X13_asTold_b102 FU s x0 x1 0) else (grd (isK s 23 x0) (grd (isK s 23 x0) (grd (isK s 22 (gR s x0 3)) (grd (isK s 1 (gR s (gR s x0 3) 10) ∧ 0 ≤ x2 ∧ x2 < ln s (gR s (gR s x0 3) 10)) (grd (isK s 1 (gR s x0 16) ∧ 0 ≤ (w32 (6 + x2)) ∧ (w32 (6 + x2)) < ln s (gR s x0 16)) (lets (pI s (gR s x0 16) (w32 (6 + x2)).toNat (gI s (gR s (gR s x0 3) 10) x2.toNat)) (fun s4 => grd (isK s4 23 x0) (grd (isK s4 23 x0) (grd (isK s4 22 (gR s4 x0 3)) (grd (isK s4 1 (gR s4 (gR s4 x0 3) 12) ∧ 0 ≤ x2 ∧ x2 < ln s4 (gR s4 (gR s4 x0 3) 12)) (grd (isK s4 1 (gR s4 x0 16) ∧ 0 ≤ (w32 (12 + x2)) ∧ (w32 (12 + x2)) < ln s4 (gR s4 x0 16)) (lets (pI s4 (gR s4 x0 16) (w32 (12 + x2)).toNat (gI s4 (gR s4 (gR s4 x0 3) 12) x2.toNat)) (fun s5 => rk52 s5 x0 x1 (w32 (x2 + 1)))))))))))))))
def X13_asTold_b52 (n : Nat) (s : St) (x0 x1 x2 : Int) : Rs := iter (fun (rec : St × Int × Int × Int → Rs) (a : St × Int × Int × Int) => X13_asTold_b52_body (fun (s : St) (x0 x1 x2 : Int) => rec (s, x0, x1, x2)) a.1 a.2.1 a.2.2.1 a.2.2.2) n (s, x0, x1, x2)
theorem X13_asTold_b52_0 (s : St) (x0 x1 x2 : Int) : X13_asTold_b52 0 s x0 x1 x2 = none := rfl
theorem X13_asTold_b52_1 (n : Nat) (s : St) (x0 x1 x2 : Int) : X13_asTold_b52 (n + 1) s x0 x1 x2 = X13_asTold_b52_body (X13_asTold_b52 n) s x0 x1 x2 := rfl
set_option maxRecDepth 100000 in
set_option maxHeartbeats 4000000 in
theorem X13_asTold_b52_body_s (G : Gx) (l : Launch) (rk52 : St → Int → Int → Int → Rs) (hk52 : ∀ (s : St) (x0 x1 x2 : Int), V G l mX13_asTold 52 [(0, (2, x0)), (1, (0, x1)), (2, (0, x2))] [] s (rk52 s x0 x1 x2)) (s : St) (x0 x1 x2 : Int) : V G l mX13_asTold 52 [(0, (2, x0)), (1, (0, x1)), (2, (0, x2))] [] s (X13_asTold_b52_body rk52 s x0 x1 x2) := by
  unfold X13_asTold_b52_body
  refine V_iload_n dec_X13_asTold.1.2.1.2.2.2.1 2 rfl ?_
  refine V_bipush dec_X13_asTold.1.2.1.2.2.2.2 rfl ?_
  refine V_icmp_ge (tgt := 100) dec_X13_asTold.1.2.2.1.1.1 (by decide) ?_ ?_
  · refine V_iconst dec_X13_asTold.2.1.2.1.2.2.2 rfl ?_
    refine V_istore_n (lv' := [(2, (0, 0)), (0, (2, x0)), (1, (0, x1))]) dec_X13_asTold.2.1.2.2.1.1 (by decide) rfl ?_
    exact V_pick [1, 2, 0] rfl (X13_asTold_b102_s G l FU s x0 x1 0)
  · refine V_aload_n dec_X13_asTold.1.2.2.1.1.2 0 rfl ?_
    refine V_getR 13 16 nf_13_16 ft_13_16 fl_X13_21 dec_X13_asTold.1.2.2.1.2.1 ?_
    refine V_bipush dec_X13_asTold.1.2.2.1.2.2.1 rfl ?_
    refine V_iload_n dec_X13_asTold.1.2.2.1.2.2.2 2 rfl ?_
    refine V_iadd dec_X13_asTold.1.2.2.2.1.1 ?_
    refine V_aload_n dec_X13_asTold.1.2.2.2.1.2.1 0 rfl ?_
    refine V_getR 13 3 nf_13_3 ft_13_3 fl_X13_303 dec_X13_asTold.1.2.2.2.1.2.2 ?_
    refine V_getRN RX13 12 10 nf_12_10 ft_12_10 fl_X13_261 dec_X13_asTold.1.2.2.2.2.1 ?_
    refine V_iload_n dec_X13_asTold.1.2.2.2.2.2.1 2 rfl ?_
    refine V_iald dec_X13_asTold.1.2.2.2.2.2.2 ?_
    refine V_iast dec_X13_asTold.2.1.1.1.1.1 ?_
    refine V_lets fun s4 => ?_
    refine V_aload_n dec_X13_asTold.2.1.1.1.1.2 0 rfl ?_
    refine V_getR 13 16 nf_13_16 ft_13_16 fl_X13_21 dec_X13_asTold.2.1.1.1.2.1 ?_
    refine V_bipush dec_X13_asTold.2.1.1.1.2.2.1 rfl ?_
    refine V_iload_n dec_X13_asTold.2.1.1.1.2.2.2 2 rfl ?_
    refine V_iadd dec_X13_asTold.2.1.1.2.1.1 ?_
    refine V_aload_n dec_X13_asTold.2.1.1.2.1.2 0 rfl ?_
    refine V_getR 13 3 nf_13_3 ft_13_3 fl_X13_303 dec_X13_asTold.2.1.1.2.2.1 ?_
    refine V_getRN RX13 12 12 nf_12_12 ft_12_12 fl_X13_266 dec_X13_asTold.2.1.1.2.2.2.1 ?_
    refine V_iload_n dec_X13_asTold.2.1.1.2.2.2.2 2 rfl ?_
    refine V_iald dec_X13_asTold.2.1.2.1.1.1 ?_
    refine V_iast dec_X13_asTold.2.1.2.1.1.2 ?_
    refine V_lets fun s5 => ?_
    refine V_iinc (lv' := [(2, (0, (w32 (x2 + 1)))), (0, (2, x0)), (1, (0, x1))]) dec_X13_asTold.2.1.2.1.2.1 2 rfl (by decide) rfl ?_
    refine V_goto (tgt := 52) dec_X13_asTold.2.1.2.1.2.2.1 (by decide) ?_
    exact V_pick [1, 2, 0] rfl (hk52 s5 x0 x1 (w32 (x2 + 1)))
theorem X13_asTold_b52_s (G : Gx) (l : Launch) (n : Nat) (s : St) (x0 x1 x2 : Int) : V G l mX13_asTold 52 [(0, (2, x0)), (1, (0, x1)), (2, (0, x2))] [] s (X13_asTold_b52 n s x0 x1 x2) :=
  V_iter (LV := fun a : St × Int × Int × Int => [(0, (2, a.2.1)), (1, (0, a.2.2.1)), (2, (0, a.2.2.2))]) (ST := fun a : St × Int × Int × Int => []) (SS := fun a : St × Int × Int × Int => a.1) (fun rec hrec a => X13_asTold_b52_body_s G l (fun (s : St) (x0 x1 x2 : Int) => rec (s, x0, x1, x2)) (fun (s : St) (x0 x1 x2 : Int) => hrec (s, x0, x1, x2)) a.1 a.2.1 a.2.2.1 a.2.2.2) n (s, x0, x1, x2)
def X13_asTold_b23_body (rk23 : St → Int → Int → Int → Rs) (s : St) (x0 x1 x2 : Int) : Rs :=
  if (6 : Int) ≤ x2 then (X13_asTold_b52 FU s x0 x1 0) else (grd (isK s 23 x0) (grd (isK s 23 x0) (grd (isK s 22 (gR s x0 3)) (grd (isK s 1 (gR s (gR s x0 3) 8) ∧ 0 ≤ x2 ∧ x2 < ln s (gR s (gR s x0 3) 8)) (grd (isK s 1 (gR s x0 16) ∧ 0 ≤ x2 ∧ x2 < ln s (gR s x0 16)) (lets (pI s (gR s x0 16) x2.toNat (gI s (gR s (gR s x0 3) 8) x2.toNat)) (fun s6 => rk23 s6 x0 x1 (w32 (x2 + 1)))))))))
def X13_asTold_b23 (n : Nat) (s : St) (x0 x1 x2 : Int) : Rs := iter (fun (rec : St × Int × Int × Int → Rs) (a : St × Int × Int × Int) => X13_asTold_b23_body (fun (s : St) (x0 x1 x2 : Int) => rec (s, x0, x1, x2)) a.1 a.2.1 a.2.2.1 a.2.2.2) n (s, x0, x1, x2)
theorem X13_asTold_b23_0 (s : St) (x0 x1 x2 : Int) : X13_asTold_b23 0 s x0 x1 x2 = none := rfl
theorem X13_asTold_b23_1 (n : Nat) (s : St) (x0 x1 x2 : Int) : X13_asTold_b23 (n + 1) s x0 x1 x2 = X13_asTold_b23_body (X13_asTold_b23 n) s x0 x1 x2 := rfl
set_option maxRecDepth 100000 in
set_option maxHeartbeats 4000000 in
theorem X13_asTold_b23_body_s (G : Gx) (l : Launch) (rk23 : St → Int → Int → Int → Rs) (hk23 : ∀ (s : St) (x0 x1 x2 : Int), V G l mX13_asTold 23 [(0, (2, x0)), (1, (0, x1)), (2, (0, x2))] [] s (rk23 s x0 x1 x2)) (s : St) (x0 x1 x2 : Int) : V G l mX13_asTold 23 [(0, (2, x0)), (1, (0, x1)), (2, (0, x2))] [] s (X13_asTold_b23_body rk23 s x0 x1 x2) := by
  unfold X13_asTold_b23_body
  refine V_iload_n dec_X13_asTold.1.1.2.1.2.2.2 2 rfl ?_
  refine V_bipush dec_X13_asTold.1.1.2.2.1.1 rfl ?_
  refine V_icmp_ge (tgt := 50) dec_X13_asTold.1.1.2.2.1.2.1 (by decide) ?_ ?_
  · refine V_iconst dec_X13_asTold.1.2.1.2.1.2.2 rfl ?_
    refine V_istore_n (lv' := [(2, (0, 0)), (0, (2, x0)), (1, (0, x1))]) dec_X13_asTold.1.2.1.2.2.1 (by decide) rfl ?_
    exact V_pick [1, 2, 0] rfl (X13_asTold_b52_s G l FU s x0 x1 0)
  · refine V_aload_n dec_X13_asTold.1.1.2.2.1.2.2 0 rfl ?_
    refine V_getR 13 16 nf_13_16 ft_13_16 fl_X13_21 dec_X13_asTold.1.1.2.2.2.1 ?_
    refine V_iload_n dec_X13_asTold.1.1.2.2.2.2.1 2 rfl ?_
    refine V_aload_n dec_X13_asTold.1.1.2.2.2.2.2 0 rfl ?_
    refine V_getR 13 3 nf_13_3 ft_13_3 fl_X13_303 dec_X13_asTold.1.2.1.1.1.1 ?_
    refine V_getRN RX13 12 8 nf_12_8 ft_12_8 fl_X13_239 dec_X13_asTold.1.2.1.1.1.2 ?_
    refine V_iload_n dec_X13_asTold.1.2.1.1.2.1 2 rfl ?_
    refine V_iald dec_X13_asTold.1.2.1.1.2.2.1 ?_
    refine V_iast dec_X13_asTold.1.2.1.1.2.2.2 ?_
    refine V_lets fun s6 => ?_
    refine V_iinc (lv' := [(2, (0, (w32 (x2 + 1)))), (0, (2, x0)), (1, (0, x1))]) dec_X13_asTold.1.2.1.2.1.1 2 rfl (by decide) rfl ?_
    refine V_goto (tgt := 23) dec_X13_asTold.1.2.1.2.1.2.1 (by decide) ?_
    exact V_pick [1, 2, 0] rfl (hk23 s6 x0 x1 (w32 (x2 + 1)))
theorem X13_asTold_b23_s (G : Gx) (l : Launch) (n : Nat) (s : St) (x0 x1 x2 : Int) : V G l mX13_asTold 23 [(0, (2, x0)), (1, (0, x1)), (2, (0, x2))] [] s (X13_asTold_b23 n s x0 x1 x2) :=
  V_iter (LV := fun a : St × Int × Int × Int => [(0, (2, a.2.1)), (1, (0, a.2.2.1)), (2, (0, a.2.2.2))]) (ST := fun a : St × Int × Int × Int => []) (SS := fun a : St × Int × Int × Int => a.1) (fun rec hrec a => X13_asTold_b23_body_s G l (fun (s : St) (x0 x1 x2 : Int) => rec (s, x0, x1, x2)) (fun (s : St) (x0 x1 x2 : Int) => hrec (s, x0, x1, x2)) a.1 a.2.1 a.2.2.1 a.2.2.2) n (s, x0, x1, x2)
def X13_asTold_b2_body (rk2 : St → Int → Int → Int → Rs) (s : St) (x0 x1 x2 : Int) : Rs :=
  if (19 : Int) ≤ x2 then (X13_asTold_b23 FU s x0 x1 0) else (grd (isK s 23 x0) (grd (isK s 1 (gR s x0 16) ∧ 0 ≤ x2 ∧ x2 < ln s (gR s x0 16)) (lets (pI s (gR s x0 16) x2.toNat 0) (fun s7 => rk2 s7 x0 x1 (w32 (x2 + 1))))))
def X13_asTold_b2 (n : Nat) (s : St) (x0 x1 x2 : Int) : Rs := iter (fun (rec : St × Int × Int × Int → Rs) (a : St × Int × Int × Int) => X13_asTold_b2_body (fun (s : St) (x0 x1 x2 : Int) => rec (s, x0, x1, x2)) a.1 a.2.1 a.2.2.1 a.2.2.2) n (s, x0, x1, x2)
theorem X13_asTold_b2_0 (s : St) (x0 x1 x2 : Int) : X13_asTold_b2 0 s x0 x1 x2 = none := rfl
theorem X13_asTold_b2_1 (n : Nat) (s : St) (x0 x1 x2 : Int) : X13_asTold_b2 (n + 1) s x0 x1 x2 = X13_asTold_b2_body (X13_asTold_b2 n) s x0 x1 x2 := rfl
set_option maxRecDepth 100000 in
set_option maxHeartbeats 4000000 in
theorem X13_asTold_b2_body_s (G : Gx) (l : Launch) (rk2 : St → Int → Int → Int → Rs) (hk2 : ∀ (s : St) (x0 x1 x2 : Int), V G l mX13_asTold 2 [(0, (2, x0)), (1, (0, x1)), (2, (0, x2))] [] s (rk2 s x0 x1 x2)) (s : St) (x0 x1 x2 : Int) : V G l mX13_asTold 2 [(0, (2, x0)), (1, (0, x1)), (2, (0, x2))] [] s (X13_asTold_b2_body rk2 s x0 x1 x2) := by
  unfold X13_asTold_b2_body
  refine V_iload_n dec_X13_asTold.1.1.1.1.2.1 2 rfl ?_
  refine V_bipush dec_X13_asTold.1.1.1.1.2.2.1 rfl ?_
  refine V_icmp_ge (tgt := 21) dec_X13_asTold.1.1.1.1.2.2.2 (by decide) ?_ ?_
  · refine V_iconst dec_X13_asTold.1.1.2.1.2.1 rfl ?_
    refine V_istore_n (lv' := [(2, (0, 0)), (0, (2, x0)), (1, (0, x1))]) dec_X13_asTold.1.1.2.1.2.2.1 (by decide) rfl ?_
    exact V_pick [1, 2, 0] rfl (X13_asTold_b23_s G l FU s x0 x1 0)
  · refine V_aload_n dec_X13_asTold.1.1.1.2.1.1 0 rfl ?_
    refine V_getR 13 16 nf_13_16 ft_13_16 fl_X13_21 dec_X13_asTold.1.1.1.2.1.2 ?_
    refine V_iload_n dec_X13_asTold.1.1.1.2.2.1 2 rfl ?_
    refine V_iconst dec_X13_asTold.1.1.1.2.2.2.1 rfl ?_
    refine V_iast dec_X13_asTold.1.1.1.2.2.2.2 ?_
    refine V_lets fun s7 => ?_
    refine V_iinc (lv' := [(2, (0, (w32 (x2 + 1)))), (0, (2, x0)), (1, (0, x1))]) dec_X13_asTold.1.1.2.1.1.1 2 rfl (by decide) rfl ?_
    refine V_goto (tgt := 2) dec_X13_asTold.1.1.2.1.1.2 (by decide) ?_
    exact V_pick [1, 2, 0] rfl (hk2 s7 x0 x1 (w32 (x2 + 1)))
theorem X13_asTold_b2_s (G : Gx) (l : Launch) (n : Nat) (s : St) (x0 x1 x2 : Int) : V G l mX13_asTold 2 [(0, (2, x0)), (1, (0, x1)), (2, (0, x2))] [] s (X13_asTold_b2 n s x0 x1 x2) :=
  V_iter (LV := fun a : St × Int × Int × Int => [(0, (2, a.2.1)), (1, (0, a.2.2.1)), (2, (0, a.2.2.2))]) (ST := fun a : St × Int × Int × Int => []) (SS := fun a : St × Int × Int × Int => a.1) (fun rec hrec a => X13_asTold_b2_body_s G l (fun (s : St) (x0 x1 x2 : Int) => rec (s, x0, x1, x2)) (fun (s : St) (x0 x1 x2 : Int) => hrec (s, x0, x1, x2)) a.1 a.2.1 a.2.2.1 a.2.2.2) n (s, x0, x1, x2)
def X13_asTold (s : St) (a0 a1 : Int) : Rs :=
  X13_asTold_b2 FU s a0 a1 0
set_option maxRecDepth 100000 in
set_option maxHeartbeats 4000000 in
theorem X13_asTold_s (G : Gx) (l : Launch) (s : St) (a0 a1 : Int) : Snd G l mX13_asTold [(2, a0), (0, a1)] s (X13_asTold s a0 a1) := by
  refine Snd.of (by decide +kernel) rfl ?_
  show V G l mX13_asTold 0 [(0, (2, a0)), (1, (0, a1))] [] s _
  unfold X13_asTold
  refine V_iconst dec_X13_asTold.1.1.1.1.1.1 rfl ?_
  refine V_istore_n (lv' := [(2, (0, 0)), (0, (2, a0)), (1, (0, a1))]) dec_X13_asTold.1.1.1.1.1.2 (by decide) rfl ?_
  exact V_pick [1, 2, 0] rfl (X13_asTold_b2_s G l FU s a0 a1 0)
theorem dec_X13_whoHears : (((decode cX13_whoHears 0 = .ok (.aload_n 0, 1) ∧ decode cX13_whoHears 1 = .ok (.aload_n 0, 1)) ∧ (decode cX13_whoHears 2 = .ok (.iload_n 1, 1) ∧ (decode cX13_whoHears 3 = .ok (.aload_n 0, 1) ∧ decode cX13_whoHears 4 = .ok (.iload_n 1, 1)))) ∧ ((decode cX13_whoHears 5 = .ok (.invokevirtual 323, 3) ∧ decode cX13_whoHears 8 = .ok (.iload_n 2, 1)) ∧ (decode cX13_whoHears 9 = .ok (.invokevirtual 326, 3) ∧ (decode cX13_whoHears 12 = .ok (.invokevirtual 330, 3) ∧ decode cX13_whoHears 15 = .ok (.ireturn, 1))))) := by decide +kernel
def X13_whoHears (s : St) (a0 a1 a2 : Int) : Rs :=
  grd (isK s 23 a0) (bnd (X13_aimOf s a0 a1) (fun r1 s2 => grd (isK s2 23 a0) (bnd (X13_outOf s2 a0 a1 r1 a2) (fun r3 s4 => grd (isK s4 23 a0) (bnd (X13_heardFrom s4 a0 r3) (fun r5 s6 => some (r5, s6)))))))
set_option maxRecDepth 100000 in
set_option maxHeartbeats 4000000 in
theorem X13_whoHears_s (G : Gx) (l : Launch) (s : St) (a0 a1 a2 : Int) : Snd G l mX13_whoHears [(2, a0), (0, a1), (0, a2)] s (X13_whoHears s a0 a1 a2) := by
  refine Snd.of (by decide +kernel) rfl ?_
  show V G l mX13_whoHears 0 [(0, (2, a0)), (1, (0, a1)), (2, (0, a2))] [] s _
  unfold X13_whoHears
  refine V_aload_n dec_X13_whoHears.1.1.1 0 rfl ?_
  refine V_aload_n dec_X13_whoHears.1.1.2 0 rfl ?_
  refine V_iload_n dec_X13_whoHears.1.2.1 1 rfl ?_
  refine V_aload_n dec_X13_whoHears.1.2.2.1 0 rfl ?_
  refine V_iload_n dec_X13_whoHears.1.2.2.2 1 rfl ?_
  refine V_callV0 (ci := 13) (a := a0) (As := [(0, a1)]) (st := [(0, a1), (2, a0), (2, a0)]) rfl rfl (X13_aimOf_s G l s a0 a1) cal_X13_aimOf rfl ml_X13_323 rfl rfl dec_X13_whoHears.2.1.1 (k_tag (tag := 0) rfl fun r1 s2 => ?_)
  refine V_iload_n dec_X13_whoHears.2.1.2 2 rfl ?_
  refine V_callV0 (ci := 13) (a := a0) (As := [(0, a1), (0, r1), (0, a2)]) (st := [(2, a0)]) rfl rfl (X13_outOf_s G l s2 a0 a1 r1 a2) cal_X13_outOf rfl ml_X13_326 rfl rfl dec_X13_whoHears.2.2.1 (k_tag (tag := 0) rfl fun r3 s4 => ?_)
  refine V_callV0 (ci := 13) (a := a0) (As := [(0, r3)]) (st := []) rfl rfl (X13_heardFrom_s G l s4 a0 r3) cal_X13_heardFrom rfl ml_X13_330 rfl rfl dec_X13_whoHears.2.2.2.1 (k_tag (tag := 0) rfl fun r5 s6 => ?_)
  exact V_iret rfl dec_X13_whoHears.2.2.2.2
theorem dec_X13_wrongHeard : (((((decode cX13_wrongHeard 0 = .ok (.aload_n 0, 1) ∧ decode cX13_wrongHeard 1 = .ok (.iload_n 1, 1)) ∧ (decode cX13_wrongHeard 2 = .ok (.invokevirtual 305, 3) ∧ decode cX13_wrongHeard 5 = .ok (.iconst 0, 1))) ∧ ((decode cX13_wrongHeard 6 = .ok (.istore_n 2, 1) ∧ decode cX13_wrongHeard 7 = .ok (.iload_n 2, 1)) ∧ (decode cX13_wrongHeard 8 = .ok (.aload_n 0, 1) ∧ decode cX13_wrongHeard 9 = .ok (.getfield 303, 3)))) ∧ (((decode cX13_wrongHeard 12 = .ok (.getfield 279, 3) ∧ decode cX13_wrongHeard 15 = .ok (.if_icmp .ge 45, 3)) ∧ (decode cX13_wrongHeard 18 = .ok (.aload_n 0, 1) ∧ decode cX13_wrongHeard 19 = .ok (.aload_n 0, 1))) ∧ ((decode cX13_wrongHeard 20 = .ok (.getfield 303, 3) ∧ decode cX13_wrongHeard 23 = .ok (.getfield 291, 3)) ∧ (decode cX13_wrongHeard 26 = .ok (.iload_n 2, 1) ∧ (decode cX13_wrongHeard 27 = .ok (.iaload, 1) ∧ decode cX13_wrongHeard 28 = .ok (.aload_n 0, 1)))))) ∧ ((((decode cX13_wrongHeard 29 = .ok (.getfield 303, 3) ∧ decode cX13_wrongHeard 32 = .ok (.getfield 293, 3)) ∧ (decode cX13_wrongHeard 35 = .ok (.iload_n 2, 1) ∧ decode cX13_wrongHeard 36 = .ok (.iaload, 1))) ∧ ((decode cX13_wrongHeard 37 = .ok (.invokevirtual 333, 3) ∧ decode cX13_wrongHeard 40 = .ok (.aload_n 0, 1)) ∧ (decode cX13_wrongHeard 41 = .ok (.getfield 303, 3) ∧ decode cX13_wrongHeard 44 = .ok (.getfield 288, 3)))) ∧ (((decode cX13_wrongHeard 47 = .ok (.iload_n 2, 1) ∧ decode cX13_wrongHeard 48 = .ok (.iaload, 1)) ∧ (decode cX13_wrongHeard 49 = .ok (.if_icmp .eq 5, 3) ∧ decode cX13_wrongHeard 52 = .ok (.iload_n 2, 1))) ∧ ((decode cX13_wrongHeard 53 = .ok (.ireturn, 1) ∧ decode cX13_wrongHeard 54 = .ok (.iinc 2 1, 3)) ∧ (decode cX13_wrongHeard 57 = .ok (.goto (-50), 3) ∧ (decode cX13_wrongHeard 60 = .ok (.bipush (-2), 2) ∧ decode cX13_wrongHeard 62 = .ok (.ireturn, 1))))))) := ⟨⟨by decide +kernel, by decide +kernel⟩, ⟨by decide +kernel, by decide +kernel⟩⟩
def X13_wrongHeard_b7_body (rk7 : St → Int → Int → Rs) (s : St) (x0 x2 : Int) : Rs :=
  grd (isK s 23 x0) (grd (isK s 22 (gR s x0 3)) (if (gI s (gR s x0 3) 6) ≤ x2 then (some ((-2), s)) else (grd (isK s 23 x0) (grd (isK s 22 (gR s x0 3)) (grd (isK s 1 (gR s (gR s x0 3) 16) ∧ 0 ≤ x2 ∧ x2 < ln s (gR s (gR s x0 3) 16)) (grd (isK s 23 x0) (grd (isK s 22 (gR s x0 3)) (grd (isK s 1 (gR s (gR s x0 3) 17) ∧ 0 ≤ x2 ∧ x2 < ln s (gR s (gR s x0 3) 17)) (grd (isK s 23 x0) (bnd (X13_whoHears s x0 (gI s (gR s (gR s x0 3) 16) x2.toNat) (gI s (gR s (gR s x0 3) 17) x2.toNat)) (fun r3 s4 => grd (isK s4 23 x0) (grd (isK s4 22 (gR s4 x0 3)) (grd (isK s4 1 (gR s4 (gR s4 x0 3) 15) ∧ 0 ≤ x2 ∧ x2 < ln s4 (gR s4 (gR s4 x0 3) 15)) (if r3 = (gI s4 (gR s4 (gR s4 x0 3) 15) x2.toNat) then (rk7 s4 x0 (w32 (x2 + 1))) else (some (x2, s4))))))))))))))))
def X13_wrongHeard_b7 (n : Nat) (s : St) (x0 x2 : Int) : Rs := iter (fun (rec : St × Int × Int → Rs) (a : St × Int × Int) => X13_wrongHeard_b7_body (fun (s : St) (x0 x2 : Int) => rec (s, x0, x2)) a.1 a.2.1 a.2.2) n (s, x0, x2)
theorem X13_wrongHeard_b7_0 (s : St) (x0 x2 : Int) : X13_wrongHeard_b7 0 s x0 x2 = none := rfl
theorem X13_wrongHeard_b7_1 (n : Nat) (s : St) (x0 x2 : Int) : X13_wrongHeard_b7 (n + 1) s x0 x2 = X13_wrongHeard_b7_body (X13_wrongHeard_b7 n) s x0 x2 := rfl
set_option maxRecDepth 100000 in
set_option maxHeartbeats 4000000 in
theorem X13_wrongHeard_b7_body_s (G : Gx) (l : Launch) (rk7 : St → Int → Int → Rs) (hk7 : ∀ (s : St) (x0 x2 : Int), V G l mX13_wrongHeard 7 [(0, (2, x0)), (2, (0, x2))] [] s (rk7 s x0 x2)) (s : St) (x0 x2 : Int) : V G l mX13_wrongHeard 7 [(0, (2, x0)), (2, (0, x2))] [] s (X13_wrongHeard_b7_body rk7 s x0 x2) := by
  unfold X13_wrongHeard_b7_body
  refine V_iload_n dec_X13_wrongHeard.1.1.2.1.2 1 rfl ?_
  refine V_aload_n dec_X13_wrongHeard.1.1.2.2.1 0 rfl ?_
  refine V_getR 13 3 nf_13_3 ft_13_3 fl_X13_303 dec_X13_wrongHeard.1.1.2.2.2 ?_
  refine V_getIN RX13 12 6 nf_12_6 ft_12_6 fl_X13_279 dec_X13_wrongHeard.1.2.1.1.1 ?_
  refine V_icmp_ge (tgt := 60) dec_X13_wrongHeard.1.2.1.1.2 (by decide) ?_ ?_
  · refine V_bipush dec_X13_wrongHeard.2.2.2.2.2.1 rfl ?_
    exact V_iret rfl dec_X13_wrongHeard.2.2.2.2.2.2
  · refine V_aload_n dec_X13_wrongHeard.1.2.1.2.1 0 rfl ?_
    refine V_aload_n dec_X13_wrongHeard.1.2.1.2.2 0 rfl ?_
    refine V_getR 13 3 nf_13_3 ft_13_3 fl_X13_303 dec_X13_wrongHeard.1.2.2.1.1 ?_
    refine V_getRN RX13 12 16 nf_12_16 ft_12_16 fl_X13_291 dec_X13_wrongHeard.1.2.2.1.2 ?_
    refine V_iload_n dec_X13_wrongHeard.1.2.2.2.1 1 rfl ?_
    refine V_iald dec_X13_wrongHeard.1.2.2.2.2.1 ?_
    refine V_aload_n dec_X13_wrongHeard.1.2.2.2.2.2 0 rfl ?_
    refine V_getR 13 3 nf_13_3 ft_13_3 fl_X13_303 dec_X13_wrongHeard.2.1.1.1.1 ?_
    refine V_getRN RX13 12 17 nf_12_17 ft_12_17 fl_X13_293 dec_X13_wrongHeard.2.1.1.1.2 ?_
    refine V_iload_n dec_X13_wrongHeard.2.1.1.2.1 1 rfl ?_
    refine V_iald dec_X13_wrongHeard.2.1.1.2.2 ?_
    refine V_callV0 (ci := 13) (a := x0) (As := [(0, (gI s (gR s (gR s x0 3) 16) x2.toNat)), (0, (gI s (gR s (gR s x0 3) 17) x2.toNat))]) (st := []) rfl rfl (X13_whoHears_s G l s x0 (gI s (gR s (gR s x0 3) 16) x2.toNat) (gI s (gR s (gR s x0 3) 17) x2.toNat)) cal_X13_whoHears rfl ml_X13_333 rfl rfl dec_X13_wrongHeard.2.1.2.1.1 (k_tag (tag := 0) rfl fun r3 s4 => ?_)
    refine V_aload_n dec_X13_wrongHeard.2.1.2.1.2 0 rfl ?_
    refine V_getR 13 3 nf_13_3 ft_13_3 fl_X13_303 dec_X13_wrongHeard.2.1.2.2.1 ?_
    refine V_getRN RX13 12 15 nf_12_15 ft_12_15 fl_X13_288 dec_X13_wrongHeard.2.1.2.2.2 ?_
    refine V_iload_n dec_X13_wrongHeard.2.2.1.1.1 1 rfl ?_
    refine V_iald dec_X13_wrongHeard.2.2.1.1.2 ?_
    refine V_icmp_eq (tgt := 54) dec_X13_wrongHeard.2.2.1.2.1 (by decide) ?_ ?_
    · refine V_iinc (lv' := [(2, (0, (w32 (x2 + 1)))), (0, (2, x0))]) dec_X13_wrongHeard.2.2.2.1.2 1 rfl (by decide) rfl ?_
      refine V_goto (tgt := 7) dec_X13_wrongHeard.2.2.2.2.1 (by decide) ?_
      exact V_pick [1, 0] rfl (hk7 s4 x0 (w32 (x2 + 1)))
    · refine V_iload_n dec_X13_wrongHeard.2.2.1.2.2 1 rfl ?_
      exact V_iret rfl dec_X13_wrongHeard.2.2.2.1.1
theorem X13_wrongHeard_b7_s (G : Gx) (l : Launch) (n : Nat) (s : St) (x0 x2 : Int) : V G l mX13_wrongHeard 7 [(0, (2, x0)), (2, (0, x2))] [] s (X13_wrongHeard_b7 n s x0 x2) :=
  V_iter (LV := fun a : St × Int × Int => [(0, (2, a.2.1)), (2, (0, a.2.2))]) (ST := fun a : St × Int × Int => []) (SS := fun a : St × Int × Int => a.1) (fun rec hrec a => X13_wrongHeard_b7_body_s G l (fun (s : St) (x0 x2 : Int) => rec (s, x0, x2)) (fun (s : St) (x0 x2 : Int) => hrec (s, x0, x2)) a.1 a.2.1 a.2.2) n (s, x0, x2)
def X13_wrongHeard (s : St) (a0 a1 : Int) : Rs :=
  grd (isK s 23 a0) (bnd (X13_asTold s a0 a1) (fun r1 s2 => X13_wrongHeard_b7 FU s2 a0 0))
set_option maxRecDepth 100000 in
set_option maxHeartbeats 4000000 in
theorem X13_wrongHeard_s (G : Gx) (l : Launch) (s : St) (a0 a1 : Int) : Snd G l mX13_wrongHeard [(2, a0), (0, a1)] s (X13_wrongHeard s a0 a1) := by
  refine Snd.of (by decide +kernel) rfl ?_
  show V G l mX13_wrongHeard 0 [(0, (2, a0)), (1, (0, a1))] [] s _
  unfold X13_wrongHeard
  refine V_aload_n dec_X13_wrongHeard.1.1.1.1.1 0 rfl ?_
  refine V_iload_n dec_X13_wrongHeard.1.1.1.1.2 1 rfl ?_
  refine V_callV0 (ci := 13) (a := a0) (As := [(0, a1)]) (st := []) rfl rfl (X13_asTold_s G l s a0 a1) cal_X13_asTold rfl ml_X13_305 rfl rfl dec_X13_wrongHeard.1.1.1.2.1 (k_void rfl fun r1 s2 => ?_)
  refine V_iconst dec_X13_wrongHeard.1.1.1.2.2 rfl ?_
  refine V_istore_n (lv' := [(2, (0, 0)), (0, (2, a0)), (1, (0, a1))]) dec_X13_wrongHeard.1.1.2.1.1 (by decide) rfl ?_
  exact V_pick [1, 0] rfl (X13_wrongHeard_b7_s G l FU s2 a0 0)
theorem dec_X13_fitting : ((((((decode cX13_fitting 0 = .ok (.aload_n 0, 1) ∧ (decode cX13_fitting 1 = .ok (.iconst 0, 1) ∧ decode cX13_fitting 2 = .ok (.putfield 410, 3))) ∧ (decode cX13_fitting 5 = .ok (.aload_n 0, 1) ∧ (decode cX13_fitting 6 = .ok (.iconst 0, 1) ∧ decode cX13_fitting 7 = .ok (.putfield 413, 3)))) ∧ ((decode cX13_fitting 10 = .ok (.aload_n 0, 1) ∧ (decode cX13_fitting 11 = .ok (.iconst 1, 1) ∧ decode cX13_fitting 12 = .ok (.aload_n 0, 1))) ∧ (decode cX13_fitting 13 = .ok (.getfield 303, 3) ∧ (decode cX13_fitting 16 = .ok (.getfield 268, 3) ∧ decode cX13_fitting 19 = .ok (.ishl, 1))))) ∧ (((decode cX13_fitting 20 = .ok (.iconst 1, 1) ∧ (decode cX13_fitting 21 = .ok (.isub, 1) ∧ decode cX13_fitting 22 = .ok (.putfield 416, 3))) ∧ (decode cX13_fitting 25 = .ok (.iconst (-1), 1) ∧ (decode cX13_fitting 26 = .ok (.istore_n 2, 1) ∧ decode cX13_fitting 27 = .ok (.iconst 0, 1)))) ∧ ((decode cX13_fitting 28 = .ok (.istore_n 3, 1) ∧ (decode cX13_fitting 29 = .ok (.iload_n 3, 1) ∧ decode cX13_fitting 30 = .ok (.iconst 4, 1))) ∧ ((decode cX13_fitting 31 = .ok (.if_icmp .ge 16, 3) ∧ decode cX13_fitting 34 = .ok (.aload_n 0, 1)) ∧ (decode cX13_fitting 35 = .ok (.getfield 42, 3) ∧ decode cX13_fitting 38 = .ok (.iload_n 3, 1)))))) ∧ ((((decode cX13_fitting 39 = .ok (.iconst 0, 1) ∧ (decode cX13_fitting 40 = .ok (.iastore, 1) ∧ decode cX13_fitting 41 = .ok (.iinc 3 1, 3))) ∧ (decode cX13_fitting 44 = .ok (.goto (-15), 3) ∧ (decode cX13_fitting 47 = .ok (.iconst 0, 1) ∧ decode cX13_fitting 48 = .ok (.istore_n 3, 1)))) ∧ ((decode cX13_fitting 49 = .ok (.iload_n 3, 1) ∧ (decode cX13_fitting 50 = .ok (.iconst 1, 1) ∧ decode cX13_fitting 51 = .ok (.aload_n 0, 1))) ∧ (decode cX13_fitting 52 = .ok (.getfield 303, 3) ∧ (decode cX13_fitting 55 = .ok (.getfield 268, 3) ∧ decode cX13_fitting 58 = .ok (.ishl, 1))))) ∧ (((decode cX13_fitting 59 = .ok (.if_icmp .ge 107, 3) ∧ (decode cX13_fitting 62 = .ok (.aload_n 0, 1) ∧ decode cX13_fitting 63 = .ok (.iload_n 3, 1))) ∧ (decode cX13_fitting 64 = .ok (.invokevirtual 419, 3) ∧ (decode cX13_fitting 67 = .ok (.bipush (-2), 2) ∧ decode cX13_fitting 69 = .ok (.if_icmp .eq 6, 3)))) ∧ ((decode cX13_fitting 72 = .ok (.goto 88, 3) ∧ (decode cX13_fitting 75 = .ok (.aload_n 0, 1) ∧ decode cX13_fitting 76 = .ok (.getfield 410, 3))) ∧ ((decode cX13_fitting 79 = .ok (.iload_n 1, 1) ∧ decode cX13_fitting 80 = .ok (.if_icmp .ne 5, 3)) ∧ (decode cX13_fitting 83 = .ok (.iload_n 3, 1) ∧ decode cX13_fitting 84 = .ok (.istore_n 2, 1))))))) ∧ (((((decode cX13_fitting 85 = .ok (.aload_n 0, 1) ∧ (decode cX13_fitting 86 = .ok (.dup, 1) ∧ decode cX13_fitting 87 = .ok (.getfield 410, 3))) ∧ (decode cX13_fitting 90 = .ok (.iconst 1, 1) ∧ (decode cX13_fitting 91 = .ok (.iadd, 1) ∧ decode cX13_fitting 92 = .ok (.putfield 410, 3)))) ∧ ((decode cX13_fitting 95 = .ok (.aload_n 0, 1) ∧ (decode cX13_fitting 96 = .ok (.dup, 1) ∧ decode cX13_fitting 97 = .ok (.getfield 413, 3))) ∧ (decode cX13_fitting 100 = .ok (.iload_n 3, 1) ∧ (decode cX13_fitting 101 = .ok (.ior, 1) ∧ decode cX13_fitting 102 = .ok (.putfield 413, 3))))) ∧ (((decode cX13_fitting 105 = .ok (.aload_n 0, 1) ∧ (decode cX13_fitting 106 = .ok (.dup, 1) ∧ decode cX13_fitting 107 = .ok (.getfield 416, 3))) ∧ (decode cX13_fitting 110 = .ok (.iload_n 3, 1) ∧ (decode cX13_fitting 111 = .ok (.iand, 1) ∧ decode cX13_fitting 112 = .ok (.putfield 416, 3)))) ∧ ((decode cX13_fitting 115 = .ok (.iconst 0, 1) ∧ (decode cX13_fitting 116 = .ok (.istore 4, 2) ∧ decode cX13_fitting 118 = .ok (.iload 4, 2))) ∧ ((decode cX13_fitting 120 = .ok (.aload_n 0, 1) ∧ decode cX13_fitting 121 = .ok (.getfield 303, 3)) ∧ (decode cX13_fitting 124 = .ok (.getfield 268, 3) ∧ decode cX13_fitting 127 = .ok (.if_icmp .ge 33, 3)))))) ∧ ((((decode cX13_fitting 130 = .ok (.aload_n 0, 1) ∧ (decode cX13_fitting 131 = .ok (.getfield 42, 3) ∧ decode cX13_fitting 134 = .ok (.iload 4, 2))) ∧ (decode cX13_fitting 136 = .ok (.dup2, 1) ∧ (decode cX13_fitting 137 = .ok (.iaload, 1) ∧ decode cX13_fitting 138 = .ok (.iload_n 3, 1)))) ∧ ((decode cX13_fitting 139 = .ok (.iload 4, 2) ∧ (decode cX13_fitting 141 = .ok (.invokestatic 314, 3) ∧ decode cX13_fitting 144 = .ok (.ifCond .eq 7, 3))) ∧ ((decode cX13_fitting 147 = .ok (.iconst 1, 1) ∧ decode cX13_fitting 148 = .ok (.goto 4, 3)) ∧ (decode cX13_fitting 151 = .ok (.iconst 0, 1) ∧ decode cX13_fitting 152 = .ok (.iadd, 1))))) ∧ (((decode cX13_fitting 153 = .ok (.iastore, 1) ∧ (decode cX13_fitting 154 = .ok (.iinc 4 1, 3) ∧ decode cX13_fitting 157 = .ok (.goto (-39), 3))) ∧ (decode cX13_fitting 160 = .ok (.iinc 3 1, 3) ∧ (decode cX13_fitting 163 = .ok (.goto (-114), 3) ∧ decode cX13_fitting 166 = .ok (.aload_n 0, 1)))) ∧ ((decode cX13_fitting 167 = .ok (.getfield 410, 3) ∧ (decode cX13_fitting 170 = .ok (.ifCond .ne 8, 3) ∧ decode cX13_fitting 173 = .ok (.aload_n 0, 1))) ∧ ((decode cX13_fitting 174 = .ok (.iconst 0, 1) ∧ decode cX13_fitting 175 = .ok (.putfield 416, 3)) ∧ (decode cX13_fitting 178 = .ok (.iload_n 2, 1) ∧ decode cX13_fitting 179 = .ok (.ireturn, 1)))))))) := ⟨⟨⟨by decide +kernel, ⟨by decide +kernel, by decide +kernel⟩⟩, ⟨by decide +kernel, ⟨by decide +kernel, by decide +kernel⟩⟩⟩, ⟨⟨by decide +kernel, ⟨by decide +kernel, by decide +kernel⟩⟩, ⟨⟨by decide +kernel, by decide +kernel⟩, ⟨by decide +kernel, by decide +kernel⟩⟩⟩⟩
def X13_fitting_b178 (s : St) (x2 : Int) : Rs :=
  some (x2, s)
set_option maxRecDepth 100000 in
set_option maxHeartbeats 4000000 in
theorem X13_fitting_b178_s (G : Gx) (l : Launch) (s : St) (x2 : Int) : V G l mX13_fitting 178 [(2, (0, x2))] [] s (X13_fitting_b178 s x2) := by
  unfold X13_fitting_b178
  refine V_iload_n dec_X13_fitting.2.2.2.2.2.2.1 0 rfl ?_
  exact V_iret rfl dec_X13_fitting.2.2.2.2.2.2.2
def X13_fitting_b160 (rk49 : St → Int → Int → Int → Int → Rs) (s : St) (x0 x1 x2 x3 : Int) : Rs :=
  rk49 s x0 x1 x2 (w32 (x3 + 1))
set_option maxRecDepth 100000 in
set_option maxHeartbeats 4000000 in
theorem X13_fitting_b160_s (G : Gx) (l : Launch) (rk49 : St → Int → Int → Int → Int → Rs) (hk49 : ∀ (s : St) (x0 x1 x2 x3 : Int), V G l mX13_fitting 49 [(0, (2, x0)), (1, (0, x1)), (2, (0, x2)), (3, (0, x3))] [] s (rk49 s x0 x1 x2 x3)) (s : St) (x0 x1 x2 x3 : Int) : V G l mX13_fitting 160 [(0, (2, x0)), (1, (0, x1)), (2, (0, x2)), (3, (0, x3))] [] s (X13_fitting_b160 rk49 s x0 x1 x2 x3) := by
  unfold X13_fitting_b160
  refine V_iinc (lv' := [(3, (0, (w32 (x3 + 1)))), (0, (2, x0)), (1, (0, x1)), (2, (0, x2))]) dec_X13_fitting.2.2.2.1.2.1 3 rfl (by decide) rfl ?_
  refine V_goto (tgt := 49) dec_X13_fitting.2.2.2.1.2.2.1 (by decide) ?_
  exact V_pick [1, 2, 3, 0] rfl (hk49 s x0 x1 x2 (w32 (x3 + 1)))
def X13_fitting_b152 (rk49 : St → Int → Int → Int → Int → Rs) (rk118 : St → Int → Int → Int → Int → Int → Rs) (s : St) (x0 x1 x2 x3 x4 k0 k1 k2 k3 : Int) : Rs :=
  grd (isK s 1 k3 ∧ 0 ≤ k2 ∧ k2 < ln s k3) (lets (pI s k3 k2.toNat (w32 (k1 + k0))) (fun s12 => rk118 s12 x0 x1 x2 x3 (w32 (x4 + 1))))
set_option maxRecDepth 100000 in
set_option maxHeartbeats 4000000 in
theorem X13_fitting_b152_s (G : Gx) (l : Launch) (rk49 : St → Int → Int → Int → Int → Rs) (rk118 : St → Int → Int → Int → Int → Int → Rs) (hk49 : ∀ (s : St) (x0 x1 x2 x3 : Int), V G l mX13_fitting 49 [(0, (2, x0)), (1, (0, x1)), (2, (0, x2)), (3, (0, x3))] [] s (rk49 s x0 x1 x2 x3)) (hk118 : ∀ (s : St) (x0 x1 x2 x3 x4 : Int), V G l mX13_fitting 118 [(0, (2, x0)), (1, (0, x1)), (2, (0, x2)), (3, (0, x3)), (4, (0, x4))] [] s (rk118 s x0 x1 x2 x3 x4)) (s : St) (x0 x1 x2 x3 x4 k0 k1 k2 k3 : Int) : V G l mX13_fitting 152 [(0, (2, x0)), (1, (0, x1)), (2, (0, x2)), (3, (0, x3)), (4, (0, x4))] [(0, k0), (0, k1), (0, k2), (2, k3)] s (X13_fitting_b152 rk49 rk118 s x0 x1 x2 x3 x4 k0 k1 k2 k3) := by
  unfold X13_fitting_b152
  refine V_iadd dec_X13_fitting.2.2.1.2.2.2.2 ?_
  refine V_iast dec_X13_fitting.2.2.2.1.1.1 ?_
  refine V_lets fun s12 => ?_
  refine V_iinc (lv' := [(4, (0, (w32 (x4 + 1)))), (0, (2, x0)), (1, (0, x1)), (2, (0, x2)), (3, (0, x3))]) dec_X13_fitting.2.2.2.1.1.2.1 4 rfl (by decide) rfl ?_
  refine V_goto (tgt := 118) dec_X13_fitting.2.2.2.1.1.2.2 (by decide) ?_
  exact V_pick [1, 2, 3, 4, 0] rfl (hk118 s12 x0 x1 x2 x3 (w32 (x4 + 1)))
def X13_fitting_b118_body (rk49 : St → Int → Int → Int → Int → Rs) (rk118 : St → Int → Int → Int → Int → Int → Rs) (s : St) (x0 x1 x2 x3 x4 : Int) : Rs :=
  grd (isK s 23 x0) (grd (isK s 22 (gR s x0 3)) (if (gI s (gR s x0 3) 5) ≤ x4 then (X13_fitting_b160 rk49 s x0 x1 x2 x3) else (grd (isK s 23 x0) (grd (isK s 1 (gR s x0 29) ∧ 0 ≤ x4 ∧ x4 < ln s (gR s x0 29)) (bnd (X13_bit s x3 x4) (fun r10 s11 => if r10 = 0 then (X13_fitting_b152 rk49 rk118 s11 x0 x1 x2 x3 x4 0 (gI s (gR s x0 29) x4.toNat) x4 (gR s x0 29)) else (X13_fitting_b152 rk49 rk118 s11 x0 x1 x2 x3 x4 1 (gI s (gR s x0 29) x4.toNat) x4 (gR s x0 29))))))))
def X13_fitting_b118 (rk49 : St → Int → Int → Int → Int → Rs) (n : Nat) (s : St) (x0 x1 x2 x3 x4 : Int) : Rs := iter (fun (rec : St × Int × Int × Int × Int × Int → Rs) (a : St × Int × Int × Int × Int × Int) => X13_fitting_b118_body rk49 (fun (s : St) (x0 x1 x2 x3 x4 : Int) => rec (s, x0, x1, x2, x3, x4)) a.1 a.2.1 a.2.2.1 a.2.2.2.1 a.2.2.2.2.1 a.2.2.2.2.2) n (s, x0, x1, x2, x3, x4)
theorem X13_fitting_b118_0 (rk49 : St → Int → Int → Int → Int → Rs) (s : St) (x0 x1 x2 x3 x4 : Int) : X13_fitting_b118 rk49 0 s x0 x1 x2 x3 x4 = none := rfl
theorem X13_fitting_b118_1 (rk49 : St → Int → Int → Int → Int → Rs) (n : Nat) (s : St) (x0 x1 x2 x3 x4 : Int) : X13_fitting_b118 rk49 (n + 1) s x0 x1 x2 x3 x4 = X13_fitting_b118_body rk49 (X13_fitting_b118 rk49 n) s x0 x1 x2 x3 x4 := rfl
set_option maxRecDepth 100000 in
set_option maxHeartbeats 4000000 in
theorem X13_fitting_b118_body_s (G : Gx) (l : Launch) (rk49 : St → Int → Int → Int → Int → Rs) (rk118 : St → Int → Int → Int → Int → Int → Rs) (hk49 : ∀ (s : St) (x0 x1 x2 x3 : Int), V G l mX13_fitting 49 [(0, (2, x0)), (1, (0, x1)), (2, (0, x2)), (3, (0, x3))] [] s (rk49 s x0 x1 x2 x3)) (hk118 : ∀ (s : St) (x0 x1 x2 x3 x4 : Int), V G l mX13_fitting 118 [(0, (2, x0)), (1, (0, x1)), (2, (0, x2)), (3, (0, x3)), (4, (0, x4))] [] s (rk118 s x0 x1 x2 x3 x4)) (s : St) (x0 x1 x2 x3 x4 : Int) : V G l mX13_fitting 118 [(0, (2, x0)), (1, (0, x1)), (2, (0, x2)), (3, (0, x3)), (4, (0, x4))] [] s (X13_fitting_b118_body rk49 rk118 s x0 x1 x2 x3 x4) := by
  unfold X13_fitting_b118_body
  refine V_iload dec_X13_fitting.2.1.2.2.1.2.2 4 rfl ?_
  refine V_aload_n dec_X13_fitting.2.1.2.2.2.1.1 0 rfl ?_
  refine V_getR 13 3 nf_13_3 ft_13_3 fl_X13_303 dec_X13_fitting.2.1.2.2.2.1.2 ?_
  refine V_getIN RX13 12 5 nf_12_5 ft_12_5 fl_X13_268 dec_X13_fitting.2.1.2.2.2.2.1 ?_
  refine V_icmp_ge (tgt := 160) dec_X13_fitting.2.1.2.2.2.2.2 (by decide) ?_ ?_
  · exact V_pick [0, 1, 2, 3] rfl (X13_fitting_b160_s G l rk49 hk49 s x0 x1 x2 x3)
  · refine V_aload_n dec_X13_fitting.2.2.1.1.1.1 0 rfl ?_
    refine V_getR 13 29 nf_13_29 ft_13_29 fl_X13_42 dec_X13_fitting.2.2.1.1.1.2.1 ?_
    refine V_iload dec_X13_fitting.2.2.1.1.1.2.2 4 rfl ?_
    refine V_dup2 (nl0 _) (nl2 _) dec_X13_fitting.2.2.1.1.2.1 ?_
    refine V_iald dec_X13_fitting.2.2.1.1.2.2.1 ?_
    refine V_iload_n dec_X13_fitting.2.2.1.1.2.2.2 3 rfl ?_
    refine V_iload dec_X13_fitting.2.2.1.2.1.1 4 rfl ?_
    refine V_callS0 (As := [(0, x3), (0, x4)]) (st := [(0, (gI s (gR s x0 29) x4.toNat)), (0, x4), (2, (gR s x0 29))]) (host := "") rfl (X13_bit_s G l s x3 x4) cal_X13_bit rfl (Or.inl ml_X13_314) rfl rfl dec_X13_fitting.2.2.1.2.1.2.1 (k_tag (tag := 0) rfl fun r10 s11 => ?_)
    refine V_if_eq (tgt := 151) dec_X13_fitting.2.2.1.2.1.2.2 (by decide) ?_ ?_
    · refine V_iconst dec_X13_fitting.2.2.1.2.2.2.1 rfl ?_
      exact V_pick [0, 1, 2, 3, 4] rfl (X13_fitting_b152_s G l rk49 rk118 hk49 hk118 s11 x0 x1 x2 x3 x4 0 (gI s (gR s x0 29) x4.toNat) x4 (gR s x0 29))
    · refine V_iconst dec_X13_fitting.2.2.1.2.2.1.1 rfl ?_
      refine V_goto (tgt := 152) dec_X13_fitting.2.2.1.2.2.1.2 (by decide) ?_
      exact V_pick [0, 1, 2, 3, 4] rfl (X13_fitting_b152_s G l rk49 rk118 hk49 hk118 s11 x0 x1 x2 x3 x4 1 (gI s (gR s x0 29) x4.toNat) x4 (gR s x0 29))
theorem X13_fitting_b118_s (G : Gx) (l : Launch) (rk49 : St → Int → Int → Int → Int → Rs) (hk49 : ∀ (s : St) (x0 x1 x2 x3 : Int), V G l mX13_fitting 49 [(0, (2, x0)), (1, (0, x1)), (2, (0, x2)), (3, (0, x3))] [] s (rk49 s x0 x1 x2 x3)) (n : Nat) (s : St) (x0 x1 x2 x3 x4 : Int) : V G l mX13_fitting 118 [(0, (2, x0)), (1, (0, x1)), (2, (0, x2)), (3, (0, x3)), (4, (0, x4))] [] s (X13_fitting_b118 rk49 n s x0 x1 x2 x3 x4) :=
  V_iter (LV := fun a : St × Int × Int × Int × Int × Int => [(0, (2, a.2.1)), (1, (0, a.2.2.1)), (2, (0, a.2.2.2.1)), (3, (0, a.2.2.2.2.1)), (4, (0, a.2.2.2.2.2))]) (ST := fun a : St × Int × Int × Int × Int × Int => []) (SS := fun a : St × Int × Int × Int × Int × Int => a.1) (fun rec hrec a => X13_fitting_b118_body_s G l rk49 (fun (s : St) (x0 x1 x2 x3 x4 : Int) => rec (s, x0, x1, x2, x3, x4)) hk49 (fun (s : St) (x0 x1 x2 x3 x4 : Int) => hrec (s, x0, x1, x2, x3, x4)) a.1 a.2.1 a.2.2.1 a.2.2.2.1 a.2.2.2.2.1 a.2.2.2.2.2) n (s, x0, x1, x2, x3, x4)
def X13_fitting_b85 (rk49 : St → Int → Int → Int → Int → Rs) (s : St) (x0 x1 x2 x3 : Int) : Rs :=
  grd (isK s 23 x0) (grd (isK s 23 x0) (lets (pI s x0 26 (w32 ((gI s x0 26) + 1))) (fun s7 => grd (isK s7 23 x0) (grd (isK s7 23 x0) (lets (pI s7 x0 27 (or32 (gI s7 x0 27) x3)) (fun s8 => grd (isK s8 23 x0) (grd (isK s8 23 x0) (lets (pI s8 x0 28 (and32 (gI s8 x0 28) x3)) (fun s9 => X13_fitting_b118 rk49 FU s9 x0 x1 x2 x3 0)))))))))
set_option maxRecDepth 100000 in
set_option maxHeartbeats 4000000 in
theorem X13_fitting_b85_s (G : Gx) (l : Launch) (rk49 : St → Int → Int → Int → Int → Rs) (hk49 : ∀ (s : St) (x0 x1 x2 x3 : Int), V G l mX13_fitting 49 [(0, (2, x0)), (1, (0, x1)), (2, (0, x2)), (3, (0, x3))] [] s (rk49 s x0 x1 x2 x3)) (s : St) (x0 x1 x2 x3 : Int) : V G l mX13_fitting 85 [(0, (2, x0)), (1, (0, x1)), (2, (0, x2)), (3, (0, x3))] [] s (X13_fitting_b85 rk49 s x0 x1 x2 x3) := by
  unfold X13_fitting_b85
  refine V_aload_n dec_X13_fitting.2.1.1.1.1.1 0 rfl ?_
  refine V_dup (nl2 _) dec_X13_fitting.2.1.1.1.1.2.1 ?_
  refine V_getI 13 26 nf_13_26 ft_13_26 fl_X13_410 dec_X13_fitting.2.1.1.1.1.2.2 ?_
  refine V_iconst dec_X13_fitting.2.1.1.1.2.1 rfl ?_
  refine V_iadd dec_X13_fitting.2.1.1.1.2.2.1 ?_
  refine V_putI (host := "") 13 26 nf_13_26 ty_13_26 (Or.inl ⟨fl_X13_410, Or.inl rfl⟩) dec_X13_fitting.2.1.1.1.2.2.2 ?_
  refine V_lets fun s7 => ?_
  refine V_aload_n dec_X13_fitting.2.1.1.2.1.1 0 rfl ?_
  refine V_dup (nl2 _) dec_X13_fitting.2.1.1.2.1.2.1 ?_
  refine V_getI 13 27 nf_13_27 ft_13_27 fl_X13_413 dec_X13_fitting.2.1.1.2.1.2.2 ?_
  refine V_iload_n dec_X13_fitting.2.1.1.2.2.1 3 rfl ?_
  refine V_ior dec_X13_fitting.2.1.1.2.2.2.1 ?_
  refine V_putI (host := "") 13 27 nf_13_27 ty_13_27 (Or.inl ⟨fl_X13_413, Or.inl rfl⟩) dec_X13_fitting.2.1.1.2.2.2.2 ?_
  refine V_lets fun s8 => ?_
  refine V_aload_n dec_X13_fitting.2.1.2.1.1.1 0 rfl ?_
  refine V_dup (nl2 _) dec_X13_fitting.2.1.2.1.1.2.1 ?_
  refine V_getI 13 28 nf_13_28 ft_13_28 fl_X13_416 dec_X13_fitting.2.1.2.1.1.2.2 ?_
  refine V_iload_n dec_X13_fitting.2.1.2.1.2.1 3 rfl ?_
  refine V_iand dec_X13_fitting.2.1.2.1.2.2.1 ?_
  refine V_putI (host := "") 13 28 nf_13_28 ty_13_28 (Or.inl ⟨fl_X13_416, Or.inl rfl⟩) dec_X13_fitting.2.1.2.1.2.2.2 ?_
  refine V_lets fun s9 => ?_
  refine V_iconst dec_X13_fitting.2.1.2.2.1.1 rfl ?_
  refine V_istore (lv' := [(4, (0, 0)), (0, (2, x0)), (1, (0, x1)), (2, (0, x2)), (3, (0, x3))]) dec_X13_fitting.2.1.2.2.1.2.1 (by decide) rfl ?_
  exact V_pick [1, 2, 3, 4, 0] rfl (X13_fitting_b118_s G l rk49 hk49 FU s9 x0 x1 x2 x3 0)
def X13_fitting_b49_body (rk49 : St → Int → Int → Int → Int → Rs) (s : St) (x0 x1 x2 x3 : Int) : Rs :=
  grd (isK s 23 x0) (grd (isK s 22 (gR s x0 3)) (if (shl32 1 (gI s (gR s x0 3) 5)) ≤ x3 then (grd (isK s 23 x0) (if ¬ (gI s x0 26) = 0 then (X13_fitting_b178 s x2) else (grd (isK s 23 x0) (lets (pI s x0 28 0) (fun s4 => X13_fitting_b178 s4 x2))))) else (grd (isK s 23 x0) (bnd (X13_wrongHeard s x0 x3) (fun r5 s6 => if r5 = ((-2) : Int) then (grd (isK s6 23 x0) (if ¬ (gI s6 x0 26) = x1 then (X13_fitting_b85 rk49 s6 x0 x1 x2 x3) else (X13_fitting_b85 rk49 s6 x0 x1 x3 x3))) else (X13_fitting_b160 rk49 s6 x0 x1 x2 x3))))))
def X13_fitting_b49 (n : Nat) (s : St) (x0 x1 x2 x3 : Int) : Rs := iter (fun (rec : St × Int × Int × Int × Int → Rs) (a : St × Int × Int × Int × Int) => X13_fitting_b49_body (fun (s : St) (x0 x1 x2 x3 : Int) => rec (s, x0, x1, x2, x3)) a.1 a.2.1 a.2.2.1 a.2.2.2.1 a.2.2.2.2) n (s, x0, x1, x2, x3)
theorem X13_fitting_b49_0 (s : St) (x0 x1 x2 x3 : Int) : X13_fitting_b49 0 s x0 x1 x2 x3 = none := rfl
theorem X13_fitting_b49_1 (n : Nat) (s : St) (x0 x1 x2 x3 : Int) : X13_fitting_b49 (n + 1) s x0 x1 x2 x3 = X13_fitting_b49_body (X13_fitting_b49 n) s x0 x1 x2 x3 := rfl
set_option maxRecDepth 100000 in
set_option maxHeartbeats 4000000 in
theorem X13_fitting_b49_body_s (G : Gx) (l : Launch) (rk49 : St → Int → Int → Int → Int → Rs) (hk49 : ∀ (s : St) (x0 x1 x2 x3 : Int), V G l mX13_fitting 49 [(0, (2, x0)), (1, (0, x1)), (2, (0, x2)), (3, (0, x3))] [] s (rk49 s x0 x1 x2 x3)) (s : St) (x0 x1 x2 x3 : Int) : V G l mX13_fitting 49 [(0, (2, x0)), (1, (0, x1)), (2, (0, x2)), (3, (0, x3))] [] s (X13_fitting_b49_body rk49 s x0 x1 x2 x3) := by
  unfold X13_fitting_b49_body
  refine V_iload_n dec_X13_fitting.1.2.1.2.1.1 3 rfl ?_
  refine V_iconst dec_X13_fitting.1.2.1.2.1.2.1 rfl ?_
  refine V_aload_n dec_X13_fitting.1.2.1.2.1.2.2 0 rfl ?_
  refine V_getR 13 3 nf_13_3 ft_13_3 fl_X13_303 dec_X13_fitting.1.2.1.2.2.1 ?_
  refine V_getIN RX13 12 5 nf_12_5 ft_12_5 fl_X13_268 dec_X13_fitting.1.2.1.2.2.2.1 ?_
  refine V_ishl dec_X13_fitting.1.2.1.2.2.2.2 ?_
  refine V_icmp_ge (tgt := 166) dec_X13_fitting.1.2.2.1.1.1 (by decide) ?_ ?_
  · refine V_aload_n dec_X13_fitting.2.2.2.1.2.2.2 0 rfl ?_
    refine V_getI 13 26 nf_13_26 ft_13_26 fl_X13_410 dec_X13_fitting.2.2.2.2.1.1 ?_
    refine V_if_ne (tgt := 178) dec_X13_fitting.2.2.2.2.1.2.1 (by decide) ?_ ?_
    · exact V_pick [2] rfl (X13_fitting_b178_s G l s x2)
    · refine V_aload_n dec_X13_fitting.2.2.2.2.1.2.2 0 rfl ?_
      refine V_iconst dec_X13_fitting.2.2.2.2.2.1.1 rfl ?_
      refine V_putI (host := "") 13 28 nf_13_28 ty_13_28 (Or.inl ⟨fl_X13_416, Or.inl rfl⟩) dec_X13_fitting.2.2.2.2.2.1.2 ?_
      refine V_lets fun s4 => ?_
      exact V_pick [2] rfl (X13_fitting_b178_s G l s4 x2)
  · refine V_aload_n dec_X13_fitting.1.2.2.1.1.2.1 0 rfl ?_
    refine V_iload_n dec_X13_fitting.1.2.2.1.1.2.2 3 rfl ?_
    refine V_callV0 (ci := 13) (a := x0) (As := [(0, x3)]) (st := []) rfl rfl (X13_wrongHeard_s G l s x0 x3) cal_X13_wrongHeard rfl ml_X13_419 rfl rfl dec_X13_fitting.1.2.2.1.2.1 (k_tag (tag := 0) rfl fun r5 s6 => ?_)
    refine V_bipush dec_X13_fitting.1.2.2.1.2.2.1 rfl ?_
    refine V_icmp_eq (tgt := 75) dec_X13_fitting.1.2.2.1.2.2.2 (by decide) ?_ ?_
    · refine V_aload_n dec_X13_fitting.1.2.2.2.1.2.1 0 rfl ?_
      refine V_getI 13 26 nf_13_26 ft_13_26 fl_X13_410 dec_X13_fitting.1.2.2.2.1.2.2 ?_
      refine V_iload_n dec_X13_fitting.1.2.2.2.2.1.1 1 rfl ?_
      refine V_icmp_ne (tgt := 85) dec_X13_fitting.1.2.2.2.2.1.2 (by decide) ?_ ?_
      · exact V_pick [0, 1, 2, 3] rfl (X13_fitting_b85_s G l rk49 hk49 s6 x0 x1 x2 x3)
      · refine V_iload_n dec_X13_fitting.1.2.2.2.2.2.1 3 rfl ?_
        refine V_istore_n (lv' := [(2, (0, x3)), (0, (2, x0)), (1, (0, x1)), (3, (0, x3))]) dec_X13_fitting.1.2.2.2.2.2.2 (by decide) rfl ?_
        exact V_pick [1, 2, 0, 3] rfl (X13_fitting_b85_s G l rk49 hk49 s6 x0 x1 x3 x3)
    · refine V_goto (tgt := 160) dec_X13_fitting.1.2.2.2.1.1 (by decide) ?_
      exact V_pick [0, 1, 2, 3] rfl (X13_fitting_b160_s G l rk49 hk49 s6 x0 x1 x2 x3)
theorem X13_fitting_b49_s (G : Gx) (l : Launch) (n : Nat) (s : St) (x0 x1 x2 x3 : Int) : V G l mX13_fitting 49 [(0, (2, x0)), (1, (0, x1)), (2, (0, x2)), (3, (0, x3))] [] s (X13_fitting_b49 n s x0 x1 x2 x3) :=
  V_iter (LV := fun a : St × Int × Int × Int × Int => [(0, (2, a.2.1)), (1, (0, a.2.2.1)), (2, (0, a.2.2.2.1)), (3, (0, a.2.2.2.2))]) (ST := fun a : St × Int × Int × Int × Int => []) (SS := fun a : St × Int × Int × Int × Int => a.1) (fun rec hrec a => X13_fitting_b49_body_s G l (fun (s : St) (x0 x1 x2 x3 : Int) => rec (s, x0, x1, x2, x3)) (fun (s : St) (x0 x1 x2 x3 : Int) => hrec (s, x0, x1, x2, x3)) a.1 a.2.1 a.2.2.1 a.2.2.2.1 a.2.2.2.2) n (s, x0, x1, x2, x3)
def X13_fitting_b29_body (rk29 : St → Int → Int → Int → Int → Rs) (s : St) (x0 x1 x2 x3 : Int) : Rs :=
  if (4 : Int) ≤ x3 then (X13_fitting_b49 FU s x0 x1 x2 0) else (grd (isK s 23 x0) (grd (isK s 1 (gR s x0 29) ∧ 0 ≤ x3 ∧ x3 < ln s (gR s x0 29)) (lets (pI s (gR s x0 29) x3.toNat 0) (fun s13 => rk29 s13 x0 x1 x2 (w32 (x3 + 1))))))
def X13_fitting_b29 (n : Nat) (s : St) (x0 x1 x2 x3 : Int) : Rs := iter (fun (rec : St × Int × Int × Int × Int → Rs) (a : St × Int × Int × Int × Int) => X13_fitting_b29_body (fun (s : St) (x0 x1 x2 x3 : Int) => rec (s, x0, x1, x2, x3)) a.1 a.2.1 a.2.2.1 a.2.2.2.1 a.2.2.2.2) n (s, x0, x1, x2, x3)
theorem X13_fitting_b29_0 (s : St) (x0 x1 x2 x3 : Int) : X13_fitting_b29 0 s x0 x1 x2 x3 = none := rfl
theorem X13_fitting_b29_1 (n : Nat) (s : St) (x0 x1 x2 x3 : Int) : X13_fitting_b29 (n + 1) s x0 x1 x2 x3 = X13_fitting_b29_body (X13_fitting_b29 n) s x0 x1 x2 x3 := rfl
set_option maxRecDepth 100000 in
set_option maxHeartbeats 4000000 in
theorem X13_fitting_b29_body_s (G : Gx) (l : Launch) (rk29 : St → Int → Int → Int → Int → Rs) (hk29 : ∀ (s : St) (x0 x1 x2 x3 : Int), V G l mX13_fitting 29 [(0, (2, x0)), (1, (0, x1)), (2, (0, x2)), (3, (0, x3))] [] s (rk29 s x0 x1 x2 x3)) (s : St) (x0 x1 x2 x3 : Int) : V G l mX13_fitting 29 [(0, (2, x0)), (1, (0, x1)), (2, (0, x2)), (3, (0, x3))] [] s (X13_fitting_b29_body rk29 s x0 x1 x2 x3) := by
  unfold X13_fitting_b29_body
  refine V_iload_n dec_X13_fitting.1.1.2.2.1.2.1 3 rfl ?_
  refine V_iconst dec_X13_fitting.1.1.2.2.1.2.2 rfl ?_
  refine V_icmp_ge (tgt := 47) dec_X13_fitting.1.1.2.2.2.1.1 (by decide) ?_ ?_
  · refine V_iconst dec_X13_fitting.1.2.1.1.2.2.1 rfl ?_
    refine V_istore_n (lv' := [(3, (0, 0)), (0, (2, x0)), (1, (0, x1)), (2, (0, x2))]) dec_X13_fitting.1.2.1.1.2.2.2 (by decide) rfl ?_
    exact V_pick [1, 2, 3, 0] rfl (X13_fitting_b49_s G l FU s x0 x1 x2 0)
  · refine V_aload_n dec_X13_fitting.1.1.2.2.2.1.2 0 rfl ?_
    refine V_getR 13 29 nf_13_29 ft_13_29 fl_X13_42 dec_X13_fitting.1.1.2.2.2.2.1 ?_
    refine V_iload_n dec_X13_fitting.1.1.2.2.2.2.2 3 rfl ?_
    refine V_iconst dec_X13_fitting.1.2.1.1.1.1 rfl ?_
    refine V_iast dec_X13_fitting.1.2.1.1.1.2.1 ?_
    refine V_lets fun s13 => ?_
    refine V_iinc (lv' := [(3, (0, (w32 (x3 + 1)))), (0, (2, x0)), (1, (0, x1)), (2, (0, x2))]) dec_X13_fitting.1.2.1.1.1.2.2 3 rfl (by decide) rfl ?_
    refine V_goto (tgt := 29) dec_X13_fitting.1.2.1.1.2.1 (by decide) ?_
    exact V_pick [1, 2, 3, 0] rfl (hk29 s13 x0 x1 x2 (w32 (x3 + 1)))
theorem X13_fitting_b29_s (G : Gx) (l : Launch) (n : Nat) (s : St) (x0 x1 x2 x3 : Int) : V G l mX13_fitting 29 [(0, (2, x0)), (1, (0, x1)), (2, (0, x2)), (3, (0, x3))] [] s (X13_fitting_b29 n s x0 x1 x2 x3) :=
  V_iter (LV := fun a : St × Int × Int × Int × Int => [(0, (2, a.2.1)), (1, (0, a.2.2.1)), (2, (0, a.2.2.2.1)), (3, (0, a.2.2.2.2))]) (ST := fun a : St × Int × Int × Int × Int => []) (SS := fun a : St × Int × Int × Int × Int => a.1) (fun rec hrec a => X13_fitting_b29_body_s G l (fun (s : St) (x0 x1 x2 x3 : Int) => rec (s, x0, x1, x2, x3)) (fun (s : St) (x0 x1 x2 x3 : Int) => hrec (s, x0, x1, x2, x3)) a.1 a.2.1 a.2.2.1 a.2.2.2.1 a.2.2.2.2) n (s, x0, x1, x2, x3)
def X13_fitting (s : St) (a0 a1 : Int) : Rs :=
  grd (isK s 23 a0) (lets (pI s a0 26 0) (fun s1 => grd (isK s1 23 a0) (lets (pI s1 a0 27 0) (fun s2 => grd (isK s2 23 a0) (grd (isK s2 22 (gR s2 a0 3)) (grd (isK s2 23 a0) (lets (pI s2 a0 28 (w32 ((shl32 1 (gI s2 (gR s2 a0 3) 5)) - 1))) (fun s3 => X13_fitting_b29 FU s3 a0 a1 (-1) 0))))))))
set_option maxRecDepth 100000 in
set_option maxHeartbeats 4000000 in
theorem X13_fitting_s (G : Gx) (l : Launch) (s : St) (a0 a1 : Int) : Snd G l mX13_fitting [(2, a0), (0, a1)] s (X13_fitting s a0 a1) := by
  refine Snd.of (by decide +kernel) rfl ?_
  show V G l mX13_fitting 0 [(0, (2, a0)), (1, (0, a1))] [] s _
  unfold X13_fitting
  refine V_aload_n dec_X13_fitting.1.1.1.1.1.1 0 rfl ?_
  refine V_iconst dec_X13_fitting.1.1.1.1.1.2.1 rfl ?_
  refine V_putI (host := "") 13 26 nf_13_26 ty_13_26 (Or.inl ⟨fl_X13_410, Or.inl rfl⟩) dec_X13_fitting.1.1.1.1.1.2.2 ?_
  refine V_lets fun s1 => ?_
  refine V_aload_n dec_X13_fitting.1.1.1.1.2.1 0 rfl ?_
  refine V_iconst dec_X13_fitting.1.1.1.1.2.2.1 rfl ?_
  refine V_putI (host := "") 13 27 nf_13_27 ty_13_27 (Or.inl ⟨fl_X13_413, Or.inl rfl⟩) dec_X13_fitting.1.1.1.1.2.2.2 ?_
  refine V_lets fun s2 => ?_
  refine V_aload_n dec_X13_fitting.1.1.1.2.1.1 0 rfl ?_
  refine V_iconst dec_X13_fitting.1.1.1.2.1.2.1 rfl ?_
  refine V_aload_n dec_X13_fitting.1.1.1.2.1.2.2 0 rfl ?_
  refine V_getR 13 3 nf_13_3 ft_13_3 fl_X13_303 dec_X13_fitting.1.1.1.2.2.1 ?_
  refine V_getIN RX13 12 5 nf_12_5 ft_12_5 fl_X13_268 dec_X13_fitting.1.1.1.2.2.2.1 ?_
  refine V_ishl dec_X13_fitting.1.1.1.2.2.2.2 ?_
  refine V_iconst dec_X13_fitting.1.1.2.1.1.1 rfl ?_
  refine V_isub dec_X13_fitting.1.1.2.1.1.2.1 ?_
  refine V_putI (host := "") 13 28 nf_13_28 ty_13_28 (Or.inl ⟨fl_X13_416, Or.inl rfl⟩) dec_X13_fitting.1.1.2.1.1.2.2 ?_
  refine V_lets fun s3 => ?_
  refine V_iconst dec_X13_fitting.1.1.2.1.2.1 rfl ?_
  refine V_istore_n (lv' := [(2, (0, (-1))), (0, (2, a0)), (1, (0, a1))]) dec_X13_fitting.1.1.2.1.2.2.1 (by decide) rfl ?_
  refine V_iconst dec_X13_fitting.1.1.2.1.2.2.2 rfl ?_
  refine V_istore_n (lv' := [(3, (0, 0)), (2, (0, (-1))), (0, (2, a0)), (1, (0, a1))]) dec_X13_fitting.1.1.2.2.1.1 (by decide) rfl ?_
  exact V_pick [2, 3, 1, 0] rfl (X13_fitting_b29_s G l FU s3 a0 a1 (-1) 0)
theorem dec_X13_asks : (((((decode cX13_asks 0 = .ok (.aload_n 0, 1) ∧ (decode cX13_asks 1 = .ok (.iconst (-1), 1) ∧ decode cX13_asks 2 = .ok (.invokevirtual 422, 3))) ∧ ((decode cX13_asks 5 = .ok (.pop, 1) ∧ decode cX13_asks 6 = .ok (.bipush (-2), 2)) ∧ (decode cX13_asks 8 = .ok (.istore_n 1, 1) ∧ decode cX13_asks 9 = .ok (.aload_n 0, 1)))) ∧ (((decode cX13_asks 10 = .ok (.bipush (-2), 2) ∧ decode cX13_asks 12 = .ok (.putfield 425, 3)) ∧ (decode cX13_asks 15 = .ok (.iconst 0, 1) ∧ decode cX13_asks 16 = .ok (.istore_n 2, 1))) ∧ ((decode cX13_asks 17 = .ok (.iload_n 2, 1) ∧ decode cX13_asks 18 = .ok (.aload_n 0, 1)) ∧ (decode cX13_asks 19 = .ok (.getfield 303, 3) ∧ decode cX13_asks 22 = .ok (.getfield 268, 3))))) ∧ (((decode cX13_asks 25 = .ok (.if_icmp .ge 81, 3) ∧ (decode cX13_asks 28 = .ok (.aload_n 0, 1) ∧ decode cX13_asks 29 = .ok (.getfield 410, 3))) ∧ ((decode cX13_asks 32 = .ok (.ifCond .le 74, 3) ∧ decode cX13_asks 35 = .ok (.aload_n 0, 1)) ∧ (decode cX13_asks 36 = .ok (.getfield 42, 3) ∧ decode cX13_asks 39 = .ok (.iload_n 2, 1)))) ∧ (((decode cX13_asks 40 = .ok (.iaload, 1) ∧ decode cX13_asks 41 = .ok (.aload_n 0, 1)) ∧ (decode cX13_asks 42 = .ok (.getfield 410, 3) ∧ decode cX13_asks 45 = .ok (.aload_n 0, 1))) ∧ ((decode cX13_asks 46 = .ok (.getfield 42, 3) ∧ decode cX13_asks 49 = .ok (.iload_n 2, 1)) ∧ (decode cX13_asks 50 = .ok (.iaload, 1) ∧ decode cX13_asks 51 = .ok (.isub, 1)))))) ∧ ((((decode cX13_asks 52 = .ok (.if_icmp .le 12, 3) ∧ (decode cX13_asks 55 = .ok (.aload_n 0, 1) ∧ decode cX13_asks 56 = .ok (.getfield 42, 3))) ∧ ((decode cX13_asks 59 = .ok (.iload_n 2, 1) ∧ decode cX13_asks 60 = .ok (.iaload, 1)) ∧ (decode cX13_asks 61 = .ok (.goto 14, 3) ∧ decode cX13_asks 64 = .ok (.aload_n 0, 1)))) ∧ (((decode cX13_asks 65 = .ok (.getfield 410, 3) ∧ decode cX13_asks 68 = .ok (.aload_n 0, 1)) ∧ (decode cX13_asks 69 = .ok (.getfield 42, 3) ∧ decode cX13_asks 72 = .ok (.iload_n 2, 1))) ∧ ((decode cX13_asks 73 = .ok (.iaload, 1) ∧ decode cX13_asks 74 = .ok (.isub, 1)) ∧ (decode cX13_asks 75 = .ok (.istore_n 3, 1) ∧ decode cX13_asks 76 = .ok (.iload_n 1, 1))))) ∧ ((((decode cX13_asks 77 = .ok (.bipush (-2), 2) ∧ decode cX13_asks 79 = .ok (.if_icmp .eq 14, 3)) ∧ (decode cX13_asks 82 = .ok (.iload_n 3, 1) ∧ decode cX13_asks 83 = .ok (.aload_n 0, 1))) ∧ ((decode cX13_asks 84 = .ok (.getfield 425, 3) ∧ decode cX13_asks 87 = .ok (.if_icmp .lt 6, 3)) ∧ (decode cX13_asks 90 = .ok (.goto 10, 3) ∧ decode cX13_asks 93 = .ok (.iload_n 2, 1)))) ∧ (((decode cX13_asks 94 = .ok (.istore_n 1, 1) ∧ decode cX13_asks 95 = .ok (.aload_n 0, 1)) ∧ (decode cX13_asks 96 = .ok (.iload_n 3, 1) ∧ decode cX13_asks 97 = .ok (.putfield 425, 3))) ∧ ((decode cX13_asks 100 = .ok (.iinc 2 1, 3) ∧ decode cX13_asks 103 = .ok (.goto (-86), 3)) ∧ (decode cX13_asks 106 = .ok (.iload_n 1, 1) ∧ decode cX13_asks 107 = .ok (.ireturn, 1))))))) := ⟨⟨⟨by decide +kernel, by decide +kernel⟩, ⟨by decide +kernel, by decide +kernel⟩⟩, ⟨⟨by decide +kernel, by decide +kernel⟩, ⟨by decide +kernel, by decide +kernel⟩⟩⟩
def X13_asks_b106 (s : St) (x1 : Int) : Rs :=
  some (x1, s)
set_option maxRecDepth 100000 in
set_option maxHeartbeats 4000000 in
theorem X13_asks_b106_s (G : Gx) (l : Launch) (s : St) (x1 : Int) : V G l mX13_asks 106 [(1, (0, x1))] [] s (X13_asks_b106 s x1) := by
  unfold X13_asks_b106
  refine V_iload_n dec_X13_asks.2.2.2.2.2.1 0 rfl ?_
  exact V_iret rfl dec_X13_asks.2.2.2.2.2.2
def X13_asks_b100 (rk17 : St → Int → Int → Int → Rs) (s : St) (x0 x1 x2 : Int) : Rs :=
  rk17 s x0 x1 (w32 (x2 + 1))
set_option maxRecDepth 100000 in
set_option maxHeartbeats 4000000 in
theorem X13_asks_b100_s (G : Gx) (l : Launch) (rk17 : St → Int → Int → Int → Rs) (hk17 : ∀ (s : St) (x0 x1 x2 : Int), V G l mX13_asks 17 [(0, (2, x0)), (1, (0, x1)), (2, (0, x2))] [] s (rk17 s x0 x1 x2)) (s : St) (x0 x1 x2 : Int) : V G l mX13_asks 100 [(0, (2, x0)), (1, (0, x1)), (2, (0, x2))] [] s (X13_asks_b100 rk17 s x0 x1 x2) := by
  unfold X13_asks_b100
  refine V_iinc (lv' := [(2, (0, (w32 (x2 + 1)))), (0, (2, x0)), (1, (0, x1))]) dec_X13_asks.2.2.2.2.1.1 2 rfl (by decide) rfl ?_
  refine V_goto (tgt := 17) dec_X13_asks.2.2.2.2.1.2 (by decide) ?_
  exact V_pick [1, 2, 0] rfl (hk17 s x0 x1 (w32 (x2 + 1)))
def X13_asks_b93 (rk17 : St → Int → Int → Int → Rs) (s : St) (x0 x2 x3 : Int) : Rs :=
  grd (isK s 23 x0) (lets (pI s x0 30 x3) (fun s4 => X13_asks_b100 rk17 s4 x0 x2 x2))
set_option maxRecDepth 100000 in
set_option maxHeartbeats 4000000 in
theorem X13_asks_b93_s (G : Gx) (l : Launch) (rk17 : St → Int → Int → Int → Rs) (hk17 : ∀ (s : St) (x0 x1 x2 : Int), V G l mX13_asks 17 [(0, (2, x0)), (1, (0, x1)), (2, (0, x2))] [] s (rk17 s x0 x1 x2)) (s : St) (x0 x2 x3 : Int) : V G l mX13_asks 93 [(0, (2, x0)), (2, (0, x2)), (3, (0, x3))] [] s (X13_asks_b93 rk17 s x0 x2 x3) := by
  unfold X13_asks_b93
  refine V_iload_n dec_X13_asks.2.2.1.2.2.2 1 rfl ?_
  refine V_istore_n (lv' := [(1, (0, x2)), (0, (2, x0)), (2, (0, x2)), (3, (0, x3))]) dec_X13_asks.2.2.2.1.1.1 (by decide) rfl ?_
  refine V_aload_n dec_X13_asks.2.2.2.1.1.2 1 rfl ?_
  refine V_iload_n dec_X13_asks.2.2.2.1.2.1 3 rfl ?_
  refine V_putI (host := "") 13 30 nf_13_30 ty_13_30 (Or.inl ⟨fl_X13_425, Or.inl rfl⟩) dec_X13_asks.2.2.2.1.2.2 ?_
  refine V_lets fun s4 => ?_
  exact V_pick [1, 0, 2] rfl (X13_asks_b100_s G l rk17 hk17 s4 x0 x2 x2)
def X13_asks_b75 (rk17 : St → Int → Int → Int → Rs) (s : St) (x0 x1 x2 k0 : Int) : Rs :=
  if x1 = ((-2) : Int) then (X13_asks_b93 rk17 s x0 x2 k0) else (grd (isK s 23 x0) (if k0 < (gI s x0 30) then (X13_asks_b93 rk17 s x0 x2 k0) else (X13_asks_b100 rk17 s x0 x1 x2)))
set_option maxRecDepth 100000 in
set_option maxHeartbeats 4000000 in
theorem X13_asks_b75_s (G : Gx) (l : Launch) (rk17 : St → Int → Int → Int → Rs) (hk17 : ∀ (s : St) (x0 x1 x2 : Int), V G l mX13_asks 17 [(0, (2, x0)), (1, (0, x1)), (2, (0, x2))] [] s (rk17 s x0 x1 x2)) (s : St) (x0 x1 x2 k0 : Int) : V G l mX13_asks 75 [(0, (2, x0)), (1, (0, x1)), (2, (0, x2))] [(0, k0)] s (X13_asks_b75 rk17 s x0 x1 x2 k0) := by
  unfold X13_asks_b75
  refine V_istore_n (lv' := [(3, (0, k0)), (0, (2, x0)), (1, (0, x1)), (2, (0, x2))]) dec_X13_asks.2.1.2.2.2.1 (by decide) rfl ?_
  refine V_iload_n dec_X13_asks.2.1.2.2.2.2 2 rfl ?_
  refine V_bipush dec_X13_asks.2.2.1.1.1.1 rfl ?_
  refine V_icmp_eq (tgt := 93) dec_X13_asks.2.2.1.1.1.2 (by decide) ?_ ?_
  · exact V_pick [1, 3, 0] rfl (X13_asks_b93_s G l rk17 hk17 s x0 x2 k0)
  · refine V_iload_n dec_X13_asks.2.2.1.1.2.1 0 rfl ?_
    refine V_aload_n dec_X13_asks.2.2.1.1.2.2 1 rfl ?_
    refine V_getI 13 30 nf_13_30 ft_13_30 fl_X13_425 dec_X13_asks.2.2.1.2.1.1 ?_
    refine V_icmp_lt (tgt := 93) dec_X13_asks.2.2.1.2.1.2 (by decide) ?_ ?_
    · exact V_pick [1, 3, 0] rfl (X13_asks_b93_s G l rk17 hk17 s x0 x2 k0)
    · refine V_goto (tgt := 100) dec_X13_asks.2.2.1.2.2.1 (by decide) ?_
      exact V_pick [1, 2, 3] rfl (X13_asks_b100_s G l rk17 hk17 s x0 x1 x2)
def X13_asks_b17_body (rk17 : St → Int → Int → Int → Rs) (s : St) (x0 x1 x2 : Int) : Rs :=
  grd (isK s 23 x0) (grd (isK s 22 (gR s x0 3)) (if (gI s (gR s x0 3) 5) ≤ x2 then (X13_asks_b106 s x1) else (grd (isK s 23 x0) (if (gI s x0 26) ≤ 0 then (X13_asks_b106 s x1) else (grd (isK s 23 x0) (grd (isK s 1 (gR s x0 29) ∧ 0 ≤ x2 ∧ x2 < ln s (gR s x0 29)) (grd (isK s 23 x0) (grd (isK s 23 x0) (grd (isK s 1 (gR s x0 29) ∧ 0 ≤ x2 ∧ x2 < ln s (gR s x0 29)) (if (gI s (gR s x0 29) x2.toNat) ≤ (w32 ((gI s x0 26) - (gI s (gR s x0 29) x2.toNat))) then (grd (isK s 23 x0) (grd (isK s 23 x0) (grd (isK s 1 (gR s x0 29) ∧ 0 ≤ x2 ∧ x2 < ln s (gR s x0 29)) (X13_asks_b75 rk17 s x0 x1 x2 (w32 ((gI s x0 26) - (gI s (gR s x0 29) x2.toNat))))))) else (grd (isK s 23 x0) (grd (isK s 1 (gR s x0 29) ∧ 0 ≤ x2 ∧ x2 < ln s (gR s x0 29)) (X13_asks_b75 rk17 s x0 x1 x2 (gI s (gR s x0 29) x2.toNat))))))))))))))
def X13_asks_b17 (n : Nat) (s : St) (x0 x1 x2 : Int) : Rs := iter (fun (rec : St × Int × Int × Int → Rs) (a : St × Int × Int × Int) => X13_asks_b17_body (fun (s : St) (x0 x1 x2 : Int) => rec (s, x0, x1, x2)) a.1 a.2.1 a.2.2.1 a.2.2.2) n (s, x0, x1, x2)
theorem X13_asks_b17_0 (s : St) (x0 x1 x2 : Int) : X13_asks_b17 0 s x0 x1 x2 = none := rfl
theorem X13_asks_b17_1 (n : Nat) (s : St) (x0 x1 x2 : Int) : X13_asks_b17 (n + 1) s x0 x1 x2 = X13_asks_b17_body (X13_asks_b17 n) s x0 x1 x2 := rfl
set_option maxRecDepth 100000 in
set_option maxHeartbeats 4000000 in
theorem X13_asks_b17_body_s (G : Gx) (l : Launch) (rk17 : St → Int → Int → Int → Rs) (hk17 : ∀ (s : St) (x0 x1 x2 : Int), V G l mX13_asks 17 [(0, (2, x0)), (1, (0, x1)), (2, (0, x2))] [] s (rk17 s x0 x1 x2)) (s : St) (x0 x1 x2 : Int) : V G l mX13_asks 17 [(0, (2, x0)), (1, (0, x1)), (2, (0, x2))] [] s (X13_asks_b17_body rk17 s x0 x1 x2) := by
  unfold X13_asks_b17_body
  refine V_iload_n dec_X13_asks.1.1.2.2.1.1 2 rfl ?_
  refine V_aload_n dec_X13_asks.1.1.2.2.1.2 0 rfl ?_
  refine V_getR 13 3 nf_13_3 ft_13_3 fl_X13_303 dec_X13_asks.1.1.2.2.2.1 ?_
  refine V_getIN RX13 12 5 nf_12_5 ft_12_5 fl_X13_268 dec_X13_asks.1.1.2.2.2.2 ?_
  refine V_icmp_ge (tgt := 106) dec_X13_asks.1.2.1.1.1 (by decide) ?_ ?_
  · exact V_pick [1] rfl (X13_asks_b106_s G l s x1)
  · refine V_aload_n dec_X13_asks.1.2.1.1.2.1 0 rfl ?_
    refine V_getI 13 26 nf_13_26 ft_13_26 fl_X13_410 dec_X13_asks.1.2.1.1.2.2 ?_
    refine V_if_le (tgt := 106) dec_X13_asks.1.2.1.2.1.1 (by decide) ?_ ?_
    · exact V_pick [1] rfl (X13_asks_b106_s G l s x1)
    · refine V_aload_n dec_X13_asks.1.2.1.2.1.2 0 rfl ?_
      refine V_getR 13 29 nf_13_29 ft_13_29 fl_X13_42 dec_X13_asks.1.2.1.2.2.1 ?_
      refine V_iload_n dec_X13_asks.1.2.1.2.2.2 2 rfl ?_
      refine V_iald dec_X13_asks.1.2.2.1.1.1 ?_
      refine V_aload_n dec_X13_asks.1.2.2.1.1.2 0 rfl ?_
      refine V_getI 13 26 nf_13_26 ft_13_26 fl_X13_410 dec_X13_asks.1.2.2.1.2.1 ?_
      refine V_aload_n dec_X13_asks.1.2.2.1.2.2 0 rfl ?_
      refine V_getR 13 29 nf_13_29 ft_13_29 fl_X13_42 dec_X13_asks.1.2.2.2.1.1 ?_
      refine V_iload_n dec_X13_asks.1.2.2.2.1.2 2 rfl ?_
      refine V_iald dec_X13_asks.1.2.2.2.2.1 ?_
      refine V_isub dec_X13_asks.1.2.2.2.2.2 ?_
      refine V_icmp_le (tgt := 64) dec_X13_asks.2.1.1.1.1 (by decide) ?_ ?_
      · refine V_aload_n dec_X13_asks.2.1.1.2.2.2 0 rfl ?_
        refine V_getI 13 26 nf_13_26 ft_13_26 fl_X13_410 dec_X13_asks.2.1.2.1.1.1 ?_
        refine V_aload_n dec_X13_asks.2.1.2.1.1.2 0 rfl ?_
        refine V_getR 13 29 nf_13_29 ft_13_29 fl_X13_42 dec_X13_asks.2.1.2.1.2.1 ?_
        refine V_iload_n dec_X13_asks.2.1.2.1.2.2 2 rfl ?_
        refine V_iald dec_X13_asks.2.1.2.2.1.1 ?_
        refine V_isub dec_X13_asks.2.1.2.2.1.2 ?_
        exact V_pick [0, 1, 2] rfl (X13_asks_b75_s G l rk17 hk17 s x0 x1 x2 (w32 ((gI s x0 26) - (gI s (gR s x0 29) x2.toNat))))
      · refine V_aload_n dec_X13_asks.2.1.1.1.2.1 0 rfl ?_
        refine V_getR 13 29 nf_13_29 ft_13_29 fl_X13_42 dec_X13_asks.2.1.1.1.2.2 ?_
        refine V_iload_n dec_X13_asks.2.1.1.2.1.1 2 rfl ?_
        refine V_iald dec_X13_asks.2.1.1.2.1.2 ?_
        refine V_goto (tgt := 75) dec_X13_asks.2.1.1.2.2.1 (by decide) ?_
        exact V_pick [0, 1, 2] rfl (X13_asks_b75_s G l rk17 hk17 s x0 x1 x2 (gI s (gR s x0 29) x2.toNat))
theorem X13_asks_b17_s (G : Gx) (l : Launch) (n : Nat) (s : St) (x0 x1 x2 : Int) : V G l mX13_asks 17 [(0, (2, x0)), (1, (0, x1)), (2, (0, x2))] [] s (X13_asks_b17 n s x0 x1 x2) :=
  V_iter (LV := fun a : St × Int × Int × Int => [(0, (2, a.2.1)), (1, (0, a.2.2.1)), (2, (0, a.2.2.2))]) (ST := fun a : St × Int × Int × Int => []) (SS := fun a : St × Int × Int × Int => a.1) (fun rec hrec a => X13_asks_b17_body_s G l (fun (s : St) (x0 x1 x2 : Int) => rec (s, x0, x1, x2)) (fun (s : St) (x0 x1 x2 : Int) => hrec (s, x0, x1, x2)) a.1 a.2.1 a.2.2.1 a.2.2.2) n (s, x0, x1, x2)
def X13_asks (s : St) (a0 : Int) : Rs :=
  grd (isK s 23 a0) (bnd (X13_fitting s a0 (-1)) (fun r1 s2 => grd (isK s2 23 a0) (lets (pI s2 a0 30 (-2)) (fun s3 => X13_asks_b17 FU s3 a0 (-2) 0))))
set_option maxRecDepth 100000 in
set_option maxHeartbeats 4000000 in
theorem X13_asks_s (G : Gx) (l : Launch) (s : St) (a0 : Int) : Snd G l mX13_asks [(2, a0)] s (X13_asks s a0) := by
  refine Snd.of (by decide +kernel) rfl ?_
  show V G l mX13_asks 0 [(0, (2, a0))] [] s _
  unfold X13_asks
  refine V_aload_n dec_X13_asks.1.1.1.1.1 0 rfl ?_
  refine V_iconst dec_X13_asks.1.1.1.1.2.1 rfl ?_
  refine V_callV0 (ci := 13) (a := a0) (As := [(0, (-1))]) (st := []) rfl rfl (X13_fitting_s G l s a0 (-1)) cal_X13_fitting rfl ml_X13_422 rfl rfl dec_X13_asks.1.1.1.1.2.2 (k_tag (tag := 0) rfl fun r1 s2 => ?_)
  refine V_pop (nl0 _) dec_X13_asks.1.1.1.2.1.1 ?_
  refine V_bipush dec_X13_asks.1.1.1.2.1.2 rfl ?_
  refine V_istore_n (lv' := [(1, (0, (-2))), (0, (2, a0))]) dec_X13_asks.1.1.1.2.2.1 (by decide) rfl ?_
  refine V_aload_n dec_X13_asks.1.1.1.2.2.2 1 rfl ?_
  refine V_bipush dec_X13_asks.1.1.2.1.1.1 rfl ?_
  refine V_putI (host := "") 13 30 nf_13_30 ty_13_30 (Or.inl ⟨fl_X13_425, Or.inl rfl⟩) dec_X13_asks.1.1.2.1.1.2 ?_
  refine V_lets fun s3 => ?_
  refine V_iconst dec_X13_asks.1.1.2.1.2.1 rfl ?_
  refine V_istore_n (lv' := [(2, (0, 0)), (1, (0, (-2))), (0, (2, a0))]) dec_X13_asks.1.1.2.1.2.2 (by decide) rfl ?_
  exact V_pick [2, 1, 0] rfl (X13_asks_b17_s G l FU s3 a0 (-2) 0)
theorem dec_X13_ask : (((decode cX13_ask 0 = .ok (.aload_n 0, 1) ∧ (decode cX13_ask 1 = .ok (.iconst 0, 1) ∧ decode cX13_ask 2 = .ok (.putfield 49, 3))) ∧ ((decode cX13_ask 5 = .ok (.aload_n 0, 1) ∧ decode cX13_ask 6 = .ok (.getfield 303, 3)) ∧ (decode cX13_ask 9 = .ok (.ifnonnull 11, 3) ∧ decode cX13_ask 12 = .ok (.aload_n 0, 1)))) ∧ (((decode cX13_ask 13 = .ok (.iconst 1, 1) ∧ decode cX13_ask 14 = .ok (.invokevirtual 55, 3)) ∧ (decode cX13_ask 17 = .ok (.goto 11, 3) ∧ decode cX13_ask 20 = .ok (.aload_n 0, 1))) ∧ ((decode cX13_ask 21 = .ok (.aload_n 0, 1) ∧ decode cX13_ask 22 = .ok (.invokevirtual 428, 3)) ∧ (decode cX13_ask 25 = .ok (.invokevirtual 59, 3) ∧ decode cX13_ask 28 = .ok (.ireturn, 1))))) := ⟨by decide +kernel, by decide +kernel⟩
def X13_ask_b28 (s : St) (k0 : Int) : Rs :=
  some (k0, s)
set_option maxRecDepth 100000 in
set_option maxHeartbeats 4000000 in
theorem X13_ask_b28_s (G : Gx) (l : Launch) (s : St) (k0 : Int) : V G l mX13_ask 28 [] [(0, k0)] s (X13_ask_b28 s k0) := by
  unfold X13_ask_b28
  exact V_iret rfl dec_X13_ask.2.2.2.2
def X13_ask (s : St) (a0 : Int) : Rs :=
  grd (isK s 23 a0) (lets (pI s a0 0 0) (fun s1 => grd (isK s1 23 a0) (if (gR s1 a0 3) < 0 then (grd (isK s1 23 a0) (bnd (X13_refused s1 a0 1) (fun r6 s7 => X13_ask_b28 s7 r6))) else (grd (isK s1 23 a0) (bnd (X13_asks s1 a0) (fun r2 s3 => grd (isK s3 23 a0) (bnd (X13_good s3 a0 r2) (fun r4 s5 => X13_ask_b28 s5 r4))))))))
set_option maxRecDepth 100000 in
set_option maxHeartbeats 4000000 in
theorem X13_ask_s (G : Gx) (l : Launch) (s : St) (a0 : Int) : Snd G l mX13_ask [(2, a0)] s (X13_ask s a0) := by
  refine Snd.of (by decide +kernel) rfl ?_
  show V G l mX13_ask 0 [(0, (2, a0))] [] s _
  unfold X13_ask
  refine V_aload_n dec_X13_ask.1.1.1 0 rfl ?_
  refine V_iconst dec_X13_ask.1.1.2.1 rfl ?_
  refine V_putI (host := "") 13 0 nf_13_0 ty_13_0 (Or.inl ⟨fl_X13_49, Or.inl rfl⟩) dec_X13_ask.1.1.2.2 ?_
  refine V_lets fun s1 => ?_
  refine V_aload_n dec_X13_ask.1.2.1.1 0 rfl ?_
  refine V_getR 13 3 nf_13_3 ft_13_3 fl_X13_303 dec_X13_ask.1.2.1.2 ?_
  refine V_ifnonnull (tgt := 20) dec_X13_ask.1.2.2.1 (by decide) ?_ ?_
  · refine V_aload_n dec_X13_ask.1.2.2.2 0 rfl ?_
    refine V_iconst dec_X13_ask.2.1.1.1 rfl ?_
    refine V_callV0 (ci := 13) (a := a0) (As := [(0, 1)]) (st := []) rfl rfl (X13_refused_s G l s1 a0 1) cal_X13_refused rfl ml_X13_55 rfl rfl dec_X13_ask.2.1.1.2 (k_tag (tag := 0) rfl fun r6 s7 => ?_)
    refine V_goto (tgt := 28) dec_X13_ask.2.1.2.1 (by decide) ?_
    exact V_pick [] rfl (X13_ask_b28_s G l s7 r6)
  · refine V_aload_n dec_X13_ask.2.1.2.2 0 rfl ?_
    refine V_aload_n dec_X13_ask.2.2.1.1 0 rfl ?_
    refine V_callV0 (ci := 13) (a := a0) (As := []) (st := [(2, a0)]) rfl rfl (X13_asks_s G l s1 a0) cal_X13_asks rfl ml_X13_428 rfl rfl dec_X13_ask.2.2.1.2 (k_tag (tag := 0) rfl fun r2 s3 => ?_)
    refine V_callV0 (ci := 13) (a := a0) (As := [(0, r2)]) (st := []) rfl rfl (X13_good_s G l s3 a0 r2) cal_X13_good rfl ml_X13_59 rfl rfl dec_X13_ask.2.2.2.1 (k_tag (tag := 0) rfl fun r4 s5 => ?_)
    exact V_pick [] rfl (X13_ask_b28_s G l s5 r4)
theorem dec_X13_askLeaves : ((((decode cX13_askLeaves 0 = .ok (.aload_n 0, 1) ∧ decode cX13_askLeaves 1 = .ok (.iconst 0, 1)) ∧ (decode cX13_askLeaves 2 = .ok (.putfield 49, 3) ∧ decode cX13_askLeaves 5 = .ok (.aload_n 0, 1))) ∧ ((decode cX13_askLeaves 6 = .ok (.getfield 303, 3) ∧ decode cX13_askLeaves 9 = .ok (.ifnonnull 9, 3)) ∧ (decode cX13_askLeaves 12 = .ok (.aload_n 0, 1) ∧ (decode cX13_askLeaves 13 = .ok (.iconst 1, 1) ∧ decode cX13_askLeaves 14 = .ok (.invokevirtual 55, 3))))) ∧ (((decode cX13_askLeaves 17 = .ok (.ireturn, 1) ∧ decode cX13_askLeaves 18 = .ok (.aload_n 0, 1)) ∧ (decode cX13_askLeaves 19 = .ok (.invokevirtual 428, 3) ∧ decode cX13_askLeaves 22 = .ok (.pop, 1))) ∧ ((decode cX13_askLeaves 23 = .ok (.aload_n 0, 1) ∧ decode cX13_askLeaves 24 = .ok (.aload_n 0, 1)) ∧ (decode cX13_askLeaves 25 = .ok (.getfield 425, 3) ∧ (decode cX13_askLeaves 28 = .ok (.invokevirtual 59, 3) ∧ decode cX13_askLeaves 31 = .ok (.ireturn, 1)))))) := ⟨by decide +kernel, by decide +kernel⟩
def X13_askLeaves (s : St) (a0 : Int) : Rs :=
  grd (isK s 23 a0) (lets (pI s a0 0 0) (fun s1 => grd (isK s1 23 a0) (if (gR s1 a0 3) < 0 then (grd (isK s1 23 a0) (bnd (X13_refused s1 a0 1) (fun r6 s7 => some (r6, s7)))) else (grd (isK s1 23 a0) (bnd (X13_asks s1 a0) (fun r2 s3 => grd (isK s3 23 a0) (grd (isK s3 23 a0) (bnd (X13_good s3 a0 (gI s3 a0 30)) (fun r4 s5 => some (r4, s5))))))))))
set_option maxRecDepth 100000 in
set_option maxHeartbeats 4000000 in
theorem X13_askLeaves_s (G : Gx) (l : Launch) (s : St) (a0 : Int) : Snd G l mX13_askLeaves [(2, a0)] s (X13_askLeaves s a0) := by
  refine Snd.of (by decide +kernel) rfl ?_
  show V G l mX13_askLeaves 0 [(0, (2, a0))] [] s _
  unfold X13_askLeaves
  refine V_aload_n dec_X13_askLeaves.1.1.1.1 0 rfl ?_
  refine V_iconst dec_X13_askLeaves.1.1.1.2 rfl ?_
  refine V_putI (host := "") 13 0 nf_13_0 ty_13_0 (Or.inl ⟨fl_X13_49, Or.inl rfl⟩) dec_X13_askLeaves.1.1.2.1 ?_
  refine V_lets fun s1 => ?_
  refine V_aload_n dec_X13_askLeaves.1.1.2.2 0 rfl ?_
  refine V_getR 13 3 nf_13_3 ft_13_3 fl_X13_303 dec_X13_askLeaves.1.2.1.1 ?_
  refine V_ifnonnull (tgt := 18) dec_X13_askLeaves.1.2.1.2 (by decide) ?_ ?_
  · refine V_aload_n dec_X13_askLeaves.1.2.2.1 0 rfl ?_
    refine V_iconst dec_X13_askLeaves.1.2.2.2.1 rfl ?_
    refine V_callV0 (ci := 13) (a := a0) (As := [(0, 1)]) (st := []) rfl rfl (X13_refused_s G l s1 a0 1) cal_X13_refused rfl ml_X13_55 rfl rfl dec_X13_askLeaves.1.2.2.2.2 (k_tag (tag := 0) rfl fun r6 s7 => ?_)
    exact V_iret rfl dec_X13_askLeaves.2.1.1.1
  · refine V_aload_n dec_X13_askLeaves.2.1.1.2 0 rfl ?_
    refine V_callV0 (ci := 13) (a := a0) (As := []) (st := []) rfl rfl (X13_asks_s G l s1 a0) cal_X13_asks rfl ml_X13_428 rfl rfl dec_X13_askLeaves.2.1.2.1 (k_tag (tag := 0) rfl fun r2 s3 => ?_)
    refine V_pop (nl0 _) dec_X13_askLeaves.2.1.2.2 ?_
    refine V_aload_n dec_X13_askLeaves.2.2.1.1 0 rfl ?_
    refine V_aload_n dec_X13_askLeaves.2.2.1.2 0 rfl ?_
    refine V_getI 13 30 nf_13_30 ft_13_30 fl_X13_425 dec_X13_askLeaves.2.2.2.1 ?_
    refine V_callV0 (ci := 13) (a := a0) (As := [(0, (gI s3 a0 30))]) (st := []) rfl rfl (X13_good_s G l s3 a0 (gI s3 a0 30)) cal_X13_good rfl ml_X13_59 rfl rfl dec_X13_askLeaves.2.2.2.2.1 (k_tag (tag := 0) rfl fun r4 s5 => ?_)
    exact V_iret rfl dec_X13_askLeaves.2.2.2.2.2
theorem dec_X13_denied : ((decode cX13_denied 0 = .ok (.aload_n 0, 1) ∧ (decode cX13_denied 1 = .ok (.iload_n 1, 1) ∧ decode cX13_denied 2 = .ok (.invokevirtual 55, 3))) ∧ (decode cX13_denied 5 = .ok (.pop, 1) ∧ (decode cX13_denied 6 = .ok (.iconst 0, 1) ∧ decode cX13_denied 7 = .ok (.ireturn, 1)))) := by decide +kernel
def X13_denied (s : St) (a0 a1 : Int) : Rs :=
  grd (isK s 23 a0) (bnd (X13_refused s a0 a1) (fun r1 s2 => grd ((0 : Int) = 0 ∨ (0 : Int) = 1) (some (0, s2))))
set_option maxRecDepth 100000 in
set_option maxHeartbeats 4000000 in
theorem X13_denied_s (G : Gx) (l : Launch) (s : St) (a0 a1 : Int) : Snd G l mX13_denied [(2, a0), (0, a1)] s (X13_denied s a0 a1) := by
  refine Snd.of (by decide +kernel) rfl ?_
  show V G l mX13_denied 0 [(0, (2, a0)), (1, (0, a1))] [] s _
  unfold X13_denied
  refine V_aload_n dec_X13_denied.1.1 0 rfl ?_
  refine V_iload_n dec_X13_denied.1.2.1 1 rfl ?_
  refine V_callV0 (ci := 13) (a := a0) (As := [(0, a1)]) (st := []) rfl rfl (X13_refused_s G l s a0 a1) cal_X13_refused rfl ml_X13_55 rfl rfl dec_X13_denied.1.2.2 (k_tag (tag := 0) rfl fun r1 s2 => ?_)
  refine V_pop (nl0 _) dec_X13_denied.2.1 ?_
  refine V_iconst dec_X13_denied.2.2.1 rfl ?_
  exact V_zret rfl dec_X13_denied.2.2.2
theorem dec_X13_granted : ((decode cX13_granted 0 = .ok (.aload_n 0, 1) ∧ (decode cX13_granted 1 = .ok (.iconst 0, 1) ∧ decode cX13_granted 2 = .ok (.invokevirtual 59, 3))) ∧ (decode cX13_granted 5 = .ok (.pop, 1) ∧ (decode cX13_granted 6 = .ok (.iconst 1, 1) ∧ decode cX13_granted 7 = .ok (.ireturn, 1)))) := by decide +kernel
def X13_granted (s : St) (a0 : Int) : Rs :=
  grd (isK s 23 a0) (bnd (X13_good s a0 0) (fun r1 s2 => grd ((1 : Int) = 0 ∨ (1 : Int) = 1) (some (1, s2))))
set_option maxRecDepth 100000 in
set_option maxHeartbeats 4000000 in
theorem X13_granted_s (G : Gx) (l : Launch) (s : St) (a0 : Int) : Snd G l mX13_granted [(2, a0)] s (X13_granted s a0) := by
  refine Snd.of (by decide +kernel) rfl ?_
  show V G l mX13_granted 0 [(0, (2, a0))] [] s _
  unfold X13_granted
  refine V_aload_n dec_X13_granted.1.1 0 rfl ?_
  refine V_iconst dec_X13_granted.1.2.1 rfl ?_
  refine V_callV0 (ci := 13) (a := a0) (As := [(0, 0)]) (st := []) rfl rfl (X13_good_s G l s a0 0) cal_X13_good rfl ml_X13_59 rfl rfl dec_X13_granted.1.2.2 (k_tag (tag := 0) rfl fun r1 s2 => ?_)
  refine V_pop (nl0 _) dec_X13_granted.2.1 ?_
  refine V_iconst dec_X13_granted.2.2.1 rfl ?_
  exact V_zret rfl dec_X13_granted.2.2.2
theorem dec_X13_back : (((((decode cX13_back 0 = .ok (.aload_n 0, 1) ∧ decode cX13_back 1 = .ok (.iconst 0, 1)) ∧ (decode cX13_back 2 = .ok (.putfield 49, 3) ∧ (decode cX13_back 5 = .ok (.aload_n 0, 1) ∧ decode cX13_back 6 = .ok (.getfield 303, 3)))) ∧ ((decode cX13_back 9 = .ok (.ifnull 15, 3) ∧ decode cX13_back 12 = .ok (.iload_n 1, 1)) ∧ (decode cX13_back 13 = .ok (.ifCond .lt 11, 3) ∧ (decode cX13_back 16 = .ok (.iload_n 1, 1) ∧ decode cX13_back 17 = .ok (.aload_n 0, 1))))) ∧ (((decode cX13_back 18 = .ok (.getfield 311, 3) ∧ decode cX13_back 21 = .ok (.if_icmp .lt 9, 3)) ∧ (decode cX13_back 24 = .ok (.aload_n 0, 1) ∧ (decode cX13_back 25 = .ok (.iconst 1, 1) ∧ decode cX13_back 26 = .ok (.invokevirtual 472, 3)))) ∧ ((decode cX13_back 29 = .ok (.ireturn, 1) ∧ decode cX13_back 30 = .ok (.iconst 0, 1)) ∧ (decode cX13_back 31 = .ok (.istore_n 2, 1) ∧ (decode cX13_back 32 = .ok (.iload_n 2, 1) ∧ decode cX13_back 33 = .ok (.bipush 19, 2)))))) ∧ ((((decode cX13_back 35 = .ok (.if_icmp .ge 26, 3) ∧ decode cX13_back 38 = .ok (.aload_n 0, 1)) ∧ (decode cX13_back 39 = .ok (.getfield 17, 3) ∧ (decode cX13_back 42 = .ok (.iload_n 2, 1) ∧ decode cX13_back 43 = .ok (.aload_n 0, 1)))) ∧ ((decode cX13_back 44 = .ok (.getfield 27, 3) ∧ decode cX13_back 47 = .ok (.bipush 19, 2)) ∧ (decode cX13_back 49 = .ok (.iload_n 1, 1) ∧ (decode cX13_back 50 = .ok (.imul, 1) ∧ decode cX13_back 51 = .ok (.iload_n 2, 1))))) ∧ (((decode cX13_back 52 = .ok (.iadd, 1) ∧ decode cX13_back 53 = .ok (.iaload, 1)) ∧ (decode cX13_back 54 = .ok (.iastore, 1) ∧ (decode cX13_back 55 = .ok (.iinc 2 1, 3) ∧ decode cX13_back 58 = .ok (.goto (-26), 3)))) ∧ ((decode cX13_back 61 = .ok (.aload_n 0, 1) ∧ (decode cX13_back 62 = .ok (.iconst 0, 1) ∧ decode cX13_back 63 = .ok (.putfield 308, 3))) ∧ (decode cX13_back 66 = .ok (.aload_n 0, 1) ∧ (decode cX13_back 67 = .ok (.invokevirtual 475, 3) ∧ decode cX13_back 70 = .ok (.ireturn, 1))))))) := ⟨⟨by decide +kernel, by decide +kernel⟩, ⟨by decide +kernel, by decide +kernel⟩⟩
def X13_back_b24 (s : St) (x0 : Int) : Rs :=
  grd (isK s 23 x0) (bnd (X13_denied s x0 1) (fun r2 s3 => grd (r2 = 0 ∨ r2 = 1) (some (r2, s3))))
set_option maxRecDepth 100000 in
set_option maxHeartbeats 4000000 in
theorem X13_back_b24_s (G : Gx) (l : Launch) (s : St) (x0 : Int) : V G l mX13_back 24 [(0, (2, x0))] [] s (X13_back_b24 s x0) := by
  unfold X13_back_b24
  refine V_aload_n dec_X13_back.1.2.1.2.1 0 rfl ?_
  refine V_iconst dec_X13_back.1.2.1.2.2.1 rfl ?_
  refine V_callV0 (ci := 13) (a := x0) (As := [(0, 1)]) (st := []) rfl rfl (X13_denied_s G l s x0 1) cal_X13_denied rfl ml_X13_472 rfl rfl dec_X13_back.1.2.1.2.2.2 (k_tag (tag := 0) rfl fun r2 s3 => ?_)
  exact V_zret rfl dec_X13_back.1.2.2.1.1
def X13_back_b32_body (rk32 : St → Int → Int → Int → Rs) (s : St) (x0 x1 x2 : Int) : Rs :=
  if (19 : Int) ≤ x2 then (grd (isK s 23 x0) (lets (pI s x0 19 0) (fun s4 => grd (isK s4 23 x0) (bnd (X13_granted s4 x0) (fun r5 s6 => grd (r5 = 0 ∨ r5 = 1) (some (r5, s6))))))) else (grd (isK s 23 x0) (grd (isK s 23 x0) (grd (isK s 1 (gR s x0 18) ∧ 0 ≤ (w32 ((w32 (19 * x1)) + x2)) ∧ (w32 ((w32 (19 * x1)) + x2)) < ln s (gR s x0 18)) (grd (isK s 1 (gR s x0 15) ∧ 0 ≤ x2 ∧ x2 < ln s (gR s x0 15)) (lets (pI s (gR s x0 15) x2.toNat (gI s (gR s x0 18) (w32 ((w32 (19 * x1)) + x2)).toNat)) (fun s7 => rk32 s7 x0 x1 (w32 (x2 + 1))))))))
def X13_back_b32 (n : Nat) (s : St) (x0 x1 x2 : Int) : Rs := iter (fun (rec : St × Int × Int × Int → Rs) (a : St × Int × Int × Int) => X13_back_b32_body (fun (s : St) (x0 x1 x2 : Int) => rec (s, x0, x1, x2)) a.1 a.2.1 a.2.2.1 a.2.2.2) n (s, x0, x1, x2)
theorem X13_back_b32_0 (s : St) (x0 x1 x2 : Int) : X13_back_b32 0 s x0 x1 x2 = none := rfl
theorem X13_back_b32_1 (n : Nat) (s : St) (x0 x1 x2 : Int) : X13_back_b32 (n + 1) s x0 x1 x2 = X13_back_b32_body (X13_back_b32 n) s x0 x1 x2 := rfl
set_option maxRecDepth 100000 in
set_option maxHeartbeats 4000000 in
theorem X13_back_b32_body_s (G : Gx) (l : Launch) (rk32 : St → Int → Int → Int → Rs) (hk32 : ∀ (s : St) (x0 x1 x2 : Int), V G l mX13_back 32 [(0, (2, x0)), (1, (0, x1)), (2, (0, x2))] [] s (rk32 s x0 x1 x2)) (s : St) (x0 x1 x2 : Int) : V G l mX13_back 32 [(0, (2, x0)), (1, (0, x1)), (2, (0, x2))] [] s (X13_back_b32_body rk32 s x0 x1 x2) := by
  unfold X13_back_b32_body
  refine V_iload_n dec_X13_back.1.2.2.2.2.1 2 rfl ?_
  refine V_bipush dec_X13_back.1.2.2.2.2.2 rfl ?_
  refine V_icmp_ge (tgt := 61) dec_X13_back.2.1.1.1.1 (by decide) ?_ ?_
  · refine V_aload_n dec_X13_back.2.2.2.1.1 0 rfl ?_
    refine V_iconst dec_X13_back.2.2.2.1.2.1 rfl ?_
    refine V_putI (host := "") 13 19 nf_13_19 ty_13_19 (Or.inl ⟨fl_X13_308, Or.inl rfl⟩) dec_X13_back.2.2.2.1.2.2 ?_
    refine V_lets fun s4 => ?_
    refine V_aload_n dec_X13_back.2.2.2.2.1 0 rfl ?_
    refine V_callV0 (ci := 13) (a := x0) (As := []) (st := []) rfl rfl (X13_granted_s G l s4 x0) cal_X13_granted rfl ml_X13_475 rfl rfl dec_X13_back.2.2.2.2.2.1 (k_tag (tag := 0) rfl fun r5 s6 => ?_)
    exact V_zret rfl dec_X13_back.2.2.2.2.2.2
  · refine V_aload_n dec_X13_back.2.1.1.1.2 0 rfl ?_
    refine V_getR 13 15 nf_13_15 ft_13_15 fl_X13_17 dec_X13_back.2.1.1.2.1 ?_
    refine V_iload_n dec_X13_back.2.1.1.2.2.1 2 rfl ?_
    refine V_aload_n dec_X13_back.2.1.1.2.2.2 0 rfl ?_
    refine V_getR 13 18 nf_13_18 ft_13_18 fl_X13_27 dec_X13_back.2.1.2.1.1 ?_
    refine V_bipush dec_X13_back.2.1.2.1.2 rfl ?_
    refine V_iload_n dec_X13_back.2.1.2.2.1 1 rfl ?_
    refine V_imul dec_X13_back.2.1.2.2.2.1 ?_
    refine V_iload_n dec_X13_back.2.1.2.2.2.2 2 rfl ?_
    refine V_iadd dec_X13_back.2.2.1.1.1 ?_
    refine V_iald dec_X13_back.2.2.1.1.2 ?_
    refine V_iast dec_X13_back.2.2.1.2.1 ?_
    refine V_lets fun s7 => ?_
    refine V_iinc (lv' := [(2, (0, (w32 (x2 + 1)))), (0, (2, x0)), (1, (0, x1))]) dec_X13_back.2.2.1.2.2.1 2 rfl (by decide) rfl ?_
    refine V_goto (tgt := 32) dec_X13_back.2.2.1.2.2.2 (by decide) ?_
    exact V_pick [1, 2, 0] rfl (hk32 s7 x0 x1 (w32 (x2 + 1)))
theorem X13_back_b32_s (G : Gx) (l : Launch) (n : Nat) (s : St) (x0 x1 x2 : Int) : V G l mX13_back 32 [(0, (2, x0)), (1, (0, x1)), (2, (0, x2))] [] s (X13_back_b32 n s x0 x1 x2) :=
  V_iter (LV := fun a : St × Int × Int × Int => [(0, (2, a.2.1)), (1, (0, a.2.2.1)), (2, (0, a.2.2.2))]) (ST := fun a : St × Int × Int × Int => []) (SS := fun a : St × Int × Int × Int => a.1) (fun rec hrec a => X13_back_b32_body_s G l (fun (s : St) (x0 x1 x2 : Int) => rec (s, x0, x1, x2)) (fun (s : St) (x0 x1 x2 : Int) => hrec (s, x0, x1, x2)) a.1 a.2.1 a.2.2.1 a.2.2.2) n (s, x0, x1, x2)
def X13_back (s : St) (a0 a1 : Int) : Rs :=
  grd (isK s 23 a0) (lets (pI s a0 0 0) (fun s1 => grd (isK s1 23 a0) (if (gR s1 a0 3) < 0 then (X13_back_b24 s1 a0) else (if a1 < 0 then (X13_back_b24 s1 a0) else (grd (isK s1 23 a0) (if a1 < (gI s1 a0 20) then (X13_back_b32 FU s1 a0 a1 0) else (X13_back_b24 s1 a0)))))))
set_option maxRecDepth 100000 in
set_option maxHeartbeats 4000000 in
theorem X13_back_s (G : Gx) (l : Launch) (s : St) (a0 a1 : Int) : Snd G l mX13_back [(2, a0), (0, a1)] s (X13_back s a0 a1) := by
  refine Snd.of (by decide +kernel) rfl ?_
  show V G l mX13_back 0 [(0, (2, a0)), (1, (0, a1))] [] s _
  unfold X13_back
  refine V_aload_n dec_X13_back.1.1.1.1.1 0 rfl ?_
  refine V_iconst dec_X13_back.1.1.1.1.2 rfl ?_
  refine V_putI (host := "") 13 0 nf_13_0 ty_13_0 (Or.inl ⟨fl_X13_49, Or.inl rfl⟩) dec_X13_back.1.1.1.2.1 ?_
  refine V_lets fun s1 => ?_
  refine V_aload_n dec_X13_back.1.1.1.2.2.1 0 rfl ?_
  refine V_getR 13 3 nf_13_3 ft_13_3 fl_X13_303 dec_X13_back.1.1.1.2.2.2 ?_
  refine V_ifnull (tgt := 24) dec_X13_back.1.1.2.1.1 (by decide) ?_ ?_
  · exact V_pick [0] rfl (X13_back_b24_s G l s1 a0)
  · refine V_iload_n dec_X13_back.1.1.2.1.2 1 rfl ?_
    refine V_if_lt (tgt := 24) dec_X13_back.1.1.2.2.1 (by decide) ?_ ?_
    · exact V_pick [0] rfl (X13_back_b24_s G l s1 a0)
    · refine V_iload_n dec_X13_back.1.1.2.2.2.1 1 rfl ?_
      refine V_aload_n dec_X13_back.1.1.2.2.2.2 0 rfl ?_
      refine V_getI 13 20 nf_13_20 ft_13_20 fl_X13_311 dec_X13_back.1.2.1.1.1 ?_
      refine V_icmp_lt (tgt := 30) dec_X13_back.1.2.1.1.2 (by decide) ?_ ?_
      · refine V_iconst dec_X13_back.1.2.2.1.2 rfl ?_
        refine V_istore_n (lv' := [(2, (0, 0)), (0, (2, a0)), (1, (0, a1))]) dec_X13_back.1.2.2.2.1 (by decide) rfl ?_
        exact V_pick [1, 2, 0] rfl (X13_back_b32_s G l FU s1 a0 a1 0)
      · exact V_pick [0] rfl (X13_back_b24_s G l s1 a0)
theorem dec_X13_behind : (((((decode cX13_behind 0 = .ok (.iload_n 1, 1) ∧ decode cX13_behind 1 = .ok (.istore_n 3, 1)) ∧ (decode cX13_behind 2 = .ok (.iconst 1, 1) ∧ (decode cX13_behind 3 = .ok (.istore 4, 2) ∧ decode cX13_behind 5 = .ok (.iconst 0, 1)))) ∧ ((decode cX13_behind 6 = .ok (.istore 5, 2) ∧ (decode cX13_behind 8 = .ok (.iload 5, 2) ∧ decode cX13_behind 10 = .ok (.aload_n 0, 1))) ∧ (decode cX13_behind 11 = .ok (.getfield 303, 3) ∧ (decode cX13_behind 14 = .ok (.getfield 241, 3) ∧ decode cX13_behind 17 = .ok (.if_icmp .ge 64, 3))))) ∧ (((decode cX13_behind 20 = .ok (.iload_n 1, 1) ∧ (decode cX13_behind 21 = .ok (.iload 4, 2) ∧ decode cX13_behind 23 = .ok (.idiv, 1))) ∧ (decode cX13_behind 24 = .ok (.iconst 3, 1) ∧ (decode cX13_behind 25 = .ok (.irem, 1) ∧ decode cX13_behind 26 = .ok (.istore 6, 2)))) ∧ ((decode cX13_behind 28 = .ok (.iload 6, 2) ∧ (decode cX13_behind 30 = .ok (.ifCond .ne 14, 3) ∧ decode cX13_behind 33 = .ok (.aload_n 0, 1))) ∧ (decode cX13_behind 34 = .ok (.getfield 39, 3) ∧ (decode cX13_behind 37 = .ok (.iload 5, 2) ∧ decode cX13_behind 39 = .ok (.iaload, 1)))))) ∧ ((((decode cX13_behind 40 = .ok (.iload_n 2, 1) ∧ (decode cX13_behind 41 = .ok (.if_icmp .eq 23, 3) ∧ decode cX13_behind 44 = .ok (.iload 6, 2))) ∧ (decode cX13_behind 46 = .ok (.iconst 1, 1) ∧ (decode cX13_behind 47 = .ok (.if_icmp .ne 22, 3) ∧ decode cX13_behind 50 = .ok (.aload_n 0, 1)))) ∧ ((decode cX13_behind 51 = .ok (.getfield 303, 3) ∧ (decode cX13_behind 54 = .ok (.getfield 263, 3) ∧ decode cX13_behind 57 = .ok (.iload 5, 2))) ∧ (decode cX13_behind 59 = .ok (.iaload, 1) ∧ (decode cX13_behind 60 = .ok (.iload_n 2, 1) ∧ decode cX13_behind 61 = .ok (.if_icmp .ne 8, 3))))) ∧ (((decode cX13_behind 64 = .ok (.iload_n 3, 1) ∧ (decode cX13_behind 65 = .ok (.iload 4, 2) ∧ decode cX13_behind 67 = .ok (.iadd, 1))) ∧ (decode cX13_behind 68 = .ok (.istore_n 3, 1) ∧ (decode cX13_behind 69 = .ok (.iload 4, 2) ∧ decode cX13_behind 71 = .ok (.iconst 3, 1)))) ∧ ((decode cX13_behind 72 = .ok (.imul, 1) ∧ (decode cX13_behind 73 = .ok (.istore 4, 2) ∧ decode cX13_behind 75 = .ok (.iinc 5 1, 3))) ∧ (decode cX13_behind 78 = .ok (.goto (-70), 3) ∧ (decode cX13_behind 81 = .ok (.iload_n 3, 1) ∧ decode cX13_behind 82 = .ok (.ireturn, 1))))))) := ⟨⟨by decide +kernel, by decide +kernel⟩, ⟨by decide +kernel, by decide +kernel⟩⟩
def X13_behind_b69 (rk8 : St → Int → Int → Int → Int → Int → Int → Rs) (s : St) (x0 x1 x2 x3 x4 x5 : Int) : Rs :=
  rk8 s x0 x1 x2 x3 (w32 (x4 * 3)) (w32 (x5 + 1))
set_option maxRecDepth 100000 in
set_option maxHeartbeats 4000000 in
theorem X13_behind_b69_s (G : Gx) (l : Launch) (rk8 : St → Int → Int → Int → Int → Int → Int → Rs) (hk8 : ∀ (s : St) (x0 x1 x2 x3 x4 x5 : Int), V G l mX13_behind 8 [(0, (2, x0)), (1, (0, x1)), (2, (0, x2)), (3, (0, x3)), (4, (0, x4)), (5, (0, x5))] [] s (rk8 s x0 x1 x2 x3 x4 x5)) (s : St) (x0 x1 x2 x3 x4 x5 : Int) : V G l mX13_behind 69 [(0, (2, x0)), (1, (0, x1)), (2, (0, x2)), (3, (0, x3)), (4, (0, x4)), (5, (0, x5))] [] s (X13_behind_b69 rk8 s x0 x1 x2 x3 x4 x5) := by
  unfold X13_behind_b69
  refine V_iload dec_X13_behind.2.2.1.2.2.1 4 rfl ?_
  refine V_iconst dec_X13_behind.2.2.1.2.2.2 rfl ?_
  refine V_imul dec_X13_behind.2.2.2.1.1 ?_
  refine V_istore (lv' := [(4, (0, (w32 (x4 * 3)))), (0, (2, x0)), (1, (0, x1)), (2, (0, x2)), (3, (0, x3)), (5, (0, x5))]) dec_X13_behind.2.2.2.1.2.1 (by decide) rfl ?_
  refine V_iinc (lv' := [(5, (0, (w32 (x5 + 1)))), (4, (0, (w32 (x4 * 3)))), (0, (2, x0)), (1, (0, x1)), (2, (0, x2)), (3, (0, x3))]) dec_X13_behind.2.2.2.1.2.2 5 rfl (by decide) rfl ?_
  refine V_goto (tgt := 8) dec_X13_behind.2.2.2.2.1 (by decide) ?_
  exact V_pick [2, 3, 4, 5, 1, 0] rfl (hk8 s x0 x1 x2 x3 (w32 (x4 * 3)) (w32 (x5 + 1)))
def X13_behind_b64 (rk8 : St → Int → Int → Int → Int → Int → Int → Rs) (s : St) (x0 x1 x2 x3 x4 x5 : Int) : Rs :=
  X13_behind_b69 rk8 s x0 x1 x2 (w32 (x3 + x4)) x4 x5
set_option maxRecDepth 100000 in
set_option maxHeartbeats 4000000 in
theorem X13_behind_b64_s (G : Gx) (l : Launch) (rk8 : St → Int → Int → Int → Int → Int → Int → Rs) (hk8 : ∀ (s : St) (x0 x1 x2 x3 x4 x5 : Int), V G l mX13_behind 8 [(0, (2, x0)), (1, (0, x1)), (2, (0, x2)), (3, (0, x3)), (4, (0, x4)), (5, (0, x5))] [] s (rk8 s x0 x1 x2 x3 x4 x5)) (s : St) (x0 x1 x2 x3 x4 x5 : Int) : V G l mX13_behind 64 [(0, (2, x0)), (1, (0, x1)), (2, (0, x2)), (3, (0, x3)), (4, (0, x4)), (5, (0, x5))] [] s (X13_behind_b64 rk8 s x0 x1 x2 x3 x4 x5) := by
  unfold X13_behind_b64
  refine V_iload_n dec_X13_behind.2.2.1.1.1 3 rfl ?_
  refine V_iload dec_X13_behind.2.2.1.1.2.1 4 rfl ?_
  refine V_iadd dec_X13_behind.2.2.1.1.2.2 ?_
  refine V_istore_n (lv' := [(3, (0, (w32 (x3 + x4)))), (0, (2, x0)), (1, (0, x1)), (2, (0, x2)), (4, (0, x4)), (5, (0, x5))]) dec_X13_behind.2.2.1.2.1 (by decide) rfl ?_
  exact V_pick [1, 2, 3, 0, 4, 5] rfl (X13_behind_b69_s G l rk8 hk8 s x0 x1 x2 (w32 (x3 + x4)) x4 x5)
def X13_behind_b44 (rk8 : St → Int → Int → Int → Int → Int → Int → Rs) (s : St) (x0 x1 x2 x3 x4 x5 x6 : Int) : Rs :=
  if ¬ x6 = (1 : Int) then (X13_behind_b69 rk8 s x0 x1 x2 x3 x4 x5) else (grd (isK s 23 x0) (grd (isK s 22 (gR s x0 3)) (grd (isK s 1 (gR s (gR s x0 3) 11) ∧ 0 ≤ x5 ∧ x5 < ln s (gR s (gR s x0 3) 11)) (if ¬ (gI s (gR s (gR s x0 3) 11) x5.toNat) = x2 then (X13_behind_b69 rk8 s x0 x1 x2 x3 x4 x5) else (X13_behind_b64 rk8 s x0 x1 x2 x3 x4 x5)))))
set_option maxRecDepth 100000 in
set_option maxHeartbeats 4000000 in
theorem X13_behind_b44_s (G : Gx) (l : Launch) (rk8 : St → Int → Int → Int → Int → Int → Int → Rs) (hk8 : ∀ (s : St) (x0 x1 x2 x3 x4 x5 : Int), V G l mX13_behind 8 [(0, (2, x0)), (1, (0, x1)), (2, (0, x2)), (3, (0, x3)), (4, (0, x4)), (5, (0, x5))] [] s (rk8 s x0 x1 x2 x3 x4 x5)) (s : St) (x0 x1 x2 x3 x4 x5 x6 : Int) : V G l mX13_behind 44 [(0, (2, x0)), (1, (0, x1)), (2, (0, x2)), (3, (0, x3)), (4, (0, x4)), (5, (0, x5)), (6, (0, x6))] [] s (X13_behind_b44 rk8 s x0 x1 x2 x3 x4 x5 x6) := by
  unfold X13_behind_b44
  refine V_iload dec_X13_behind.2.1.1.1.2.2 6 rfl ?_
  refine V_iconst dec_X13_behind.2.1.1.2.1 rfl ?_
  refine V_icmp_ne (tgt := 69) dec_X13_behind.2.1.1.2.2.1 (by decide) ?_ ?_
  · exact V_pick [0, 1, 2, 3, 4, 5] rfl (X13_behind_b69_s G l rk8 hk8 s x0 x1 x2 x3 x4 x5)
  · refine V_aload_n dec_X13_behind.2.1.1.2.2.2 0 rfl ?_
    refine V_getR 13 3 nf_13_3 ft_13_3 fl_X13_303 dec_X13_behind.2.1.2.1.1 ?_
    refine V_getRN RX13 12 11 nf_12_11 ft_12_11 fl_X13_263 dec_X13_behind.2.1.2.1.2.1 ?_
    refine V_iload dec_X13_behind.2.1.2.1.2.2 5 rfl ?_
    refine V_iald dec_X13_behind.2.1.2.2.1 ?_
    refine V_iload_n dec_X13_behind.2.1.2.2.2.1 2 rfl ?_
    refine V_icmp_ne (tgt := 69) dec_X13_behind.2.1.2.2.2.2 (by decide) ?_ ?_
    · exact V_pick [0, 1, 2, 3, 4, 5] rfl (X13_behind_b69_s G l rk8 hk8 s x0 x1 x2 x3 x4 x5)
    · exact V_pick [0, 1, 2, 3, 4, 5] rfl (X13_behind_b64_s G l rk8 hk8 s x0 x1 x2 x3 x4 x5)
def X13_behind_b8_body (rk8 : St → Int → Int → Int → Int → Int → Int → Rs) (s : St) (x0 x1 x2 x3 x4 x5 : Int) : Rs :=
  grd (isK s 23 x0) (grd (isK s 22 (gR s x0 3)) (if (gI s (gR s x0 3) 3) ≤ x5 then (some (x3, s)) else (grd (x4 ≠ 0) (grd ((3 : Int) ≠ 0) (letv (Int.tmod (w32 (Int.tdiv x1 x4)) 3) (fun y1 => if ¬ y1 = 0 then (X13_behind_b44 rk8 s x0 x1 x2 x3 x4 x5 y1) else (grd (isK s 23 x0) (grd (isK s 1 (gR s x0 25) ∧ 0 ≤ x5 ∧ x5 < ln s (gR s x0 25)) (if (gI s (gR s x0 25) x5.toNat) = x2 then (X13_behind_b64 rk8 s x0 x1 x2 x3 x4 x5) else (X13_behind_b44 rk8 s x0 x1 x2 x3 x4 x5 y1))))))))))
def X13_behind_b8 (n : Nat) (s : St) (x0 x1 x2 x3 x4 x5 : Int) : Rs := iter (fun (rec : St × Int × Int × Int × Int × Int × Int → Rs) (a : St × Int × Int × Int × Int × Int × Int) => X13_behind_b8_body (fun (s : St) (x0 x1 x2 x3 x4 x5 : Int) => rec (s, x0, x1, x2, x3, x4, x5)) a.1 a.2.1 a.2.2.1 a.2.2.2.1 a.2.2.2.2.1 a.2.2.2.2.2.1 a.2.2.2.2.2.2) n (s, x0, x1, x2, x3, x4, x5)
theorem X13_behind_b8_0 (s : St) (x0 x1 x2 x3 x4 x5 : Int) : X13_behind_b8 0 s x0 x1 x2 x3 x4 x5 = none := rfl
theorem X13_behind_b8_1 (n : Nat) (s : St) (x0 x1 x2 x3 x4 x5 : Int) : X13_behind_b8 (n + 1) s x0 x1 x2 x3 x4 x5 = X13_behind_b8_body (X13_behind_b8 n) s x0 x1 x2 x3 x4 x5 := rfl
set_option maxRecDepth 100000 in
set_option maxHeartbeats 4000000 in
theorem X13_behind_b8_body_s (G : Gx) (l : Launch) (rk8 : St → Int → Int → Int → Int → Int → Int → Rs) (hk8 : ∀ (s : St) (x0 x1 x2 x3 x4 x5 : Int), V G l mX13_behind 8 [(0, (2, x0)), (1, (0, x1)), (2, (0, x2)), (3, (0, x3)), (4, (0, x4)), (5, (0, x5))] [] s (rk8 s x0 x1 x2 x3 x4 x5)) (s : St) (x0 x1 x2 x3 x4 x5 : Int) : V G l mX13_behind 8 [(0, (2, x0)), (1, (0, x1)), (2, (0, x2)), (3, (0, x3)), (4, (0, x4)), (5, (0, x5))] [] s (X13_behind_b8_body rk8 s x0 x1 x2 x3 x4 x5) := by
  unfold X13_behind_b8_body
  refine V_iload dec_X13_behind.1.1.2.1.2.1 5 rfl ?_
  refine V_aload_n dec_X13_behind.1.1.2.1.2.2 0 rfl ?_
  refine V_getR 13 3 nf_13_3 ft_13_3 fl_X13_303 dec_X13_behind.1.1.2.2.1 ?_
  refine V_getIN RX13 12 3 nf_12_3 ft_12_3 fl_X13_241 dec_X13_behind.1.1.2.2.2.1 ?_
  refine V_icmp_ge (tgt := 81) dec_X13_behind.1.1.2.2.2.2 (by decide) ?_ ?_
  · refine V_iload_n dec_X13_behind.2.2.2.2.2.1 3 rfl ?_
    exact V_iret rfl dec_X13_behind.2.2.2.2.2.2
  · refine V_iload_n dec_X13_behind.1.2.1.1.1 1 rfl ?_
    refine V_iload dec_X13_behind.1.2.1.1.2.1 4 rfl ?_
    refine V_idiv dec_X13_behind.1.2.1.1.2.2 ?_
    refine V_iconst dec_X13_behind.1.2.1.2.1 rfl ?_
    refine V_irem dec_X13_behind.1.2.1.2.2.1 ?_
    refine V_letv fun y1 => ?_
    refine V_istore (lv' := [(6, (0, y1)), (0, (2, x0)), (1, (0, x1)), (2, (0, x2)), (3, (0, x3)), (4, (0, x4)), (5, (0, x5))]) dec_X13_behind.1.2.1.2.2.2 (by decide) rfl ?_
    refine V_iload dec_X13_behind.1.2.2.1.1 0 rfl ?_
    refine V_if_ne (tgt := 44) dec_X13_behind.1.2.2.1.2.1 (by decide) ?_ ?_
    · exact V_pick [1, 2, 3, 4, 5, 6, 0] rfl (X13_behind_b44_s G l rk8 hk8 s x0 x1 x2 x3 x4 x5 y1)
    · refine V_aload_n dec_X13_behind.1.2.2.1.2.2 1 rfl ?_
      refine V_getR 13 25 nf_13_25 ft_13_25 fl_X13_39 dec_X13_behind.1.2.2.2.1 ?_
      refine V_iload dec_X13_behind.1.2.2.2.2.1 6 rfl ?_
      refine V_iald dec_X13_behind.1.2.2.2.2.2 ?_
      refine V_iload_n dec_X13_behind.2.1.1.1.1 3 rfl ?_
      refine V_icmp_eq (tgt := 64) dec_X13_behind.2.1.1.1.2.1 (by decide) ?_ ?_
      · exact V_pick [1, 2, 3, 4, 5, 6] rfl (X13_behind_b64_s G l rk8 hk8 s x0 x1 x2 x3 x4 x5)
      · exact V_pick [1, 2, 3, 4, 5, 6, 0] rfl (X13_behind_b44_s G l rk8 hk8 s x0 x1 x2 x3 x4 x5 y1)
theorem X13_behind_b8_s (G : Gx) (l : Launch) (n : Nat) (s : St) (x0 x1 x2 x3 x4 x5 : Int) : V G l mX13_behind 8 [(0, (2, x0)), (1, (0, x1)), (2, (0, x2)), (3, (0, x3)), (4, (0, x4)), (5, (0, x5))] [] s (X13_behind_b8 n s x0 x1 x2 x3 x4 x5) :=
  V_iter (LV := fun a : St × Int × Int × Int × Int × Int × Int => [(0, (2, a.2.1)), (1, (0, a.2.2.1)), (2, (0, a.2.2.2.1)), (3, (0, a.2.2.2.2.1)), (4, (0, a.2.2.2.2.2.1)), (5, (0, a.2.2.2.2.2.2))]) (ST := fun a : St × Int × Int × Int × Int × Int × Int => []) (SS := fun a : St × Int × Int × Int × Int × Int × Int => a.1) (fun rec hrec a => X13_behind_b8_body_s G l (fun (s : St) (x0 x1 x2 x3 x4 x5 : Int) => rec (s, x0, x1, x2, x3, x4, x5)) (fun (s : St) (x0 x1 x2 x3 x4 x5 : Int) => hrec (s, x0, x1, x2, x3, x4, x5)) a.1 a.2.1 a.2.2.1 a.2.2.2.1 a.2.2.2.2.1 a.2.2.2.2.2.1 a.2.2.2.2.2.2) n (s, x0, x1, x2, x3, x4, x5)
def X13_behind (s : St) (a0 a1 a2 : Int) : Rs :=
  X13_behind_b8 FU s a0 a1 a2 a1 1 0
set_option maxRecDepth 100000 in
set_option maxHeartbeats 4000000 in
theorem X13_behind_s (G : Gx) (l : Launch) (s : St) (a0 a1 a2 : Int) : Snd G l mX13_behind [(2, a0), (0, a1), (0, a2)] s (X13_behind s a0 a1 a2) := by
  refine Snd.of (by decide +kernel) rfl ?_
  show V G l mX13_behind 0 [(0, (2, a0)), (1, (0, a1)), (2, (0, a2))] [] s _
  unfold X13_behind
  refine V_iload_n dec_X13_behind.1.1.1.1.1 1 rfl ?_
  refine V_istore_n (lv' := [(3, (0, a1)), (0, (2, a0)), (1, (0, a1)), (2, (0, a2))]) dec_X13_behind.1.1.1.1.2 (by decide) rfl ?_
  refine V_iconst dec_X13_behind.1.1.1.2.1 rfl ?_
  refine V_istore (lv' := [(4, (0, 1)), (3, (0, a1)), (0, (2, a0)), (1, (0, a1)), (2, (0, a2))]) dec_X13_behind.1.1.1.2.2.1 (by decide) rfl ?_
  refine V_iconst dec_X13_behind.1.1.1.2.2.2 rfl ?_
  refine V_istore (lv' := [(5, (0, 0)), (4, (0, 1)), (3, (0, a1)), (0, (2, a0)), (1, (0, a1)), (2, (0, a2))]) dec_X13_behind.1.1.2.1.1 (by decide) rfl ?_
  exact V_pick [3, 4, 5, 2, 1, 0] rfl (X13_behind_b8_s G l FU s a0 a1 a2 a1 1 0)
theorem dec_X13_bits : ((((decode cX13_bits 0 = .ok (.iconst 0, 1) ∧ decode cX13_bits 1 = .ok (.istore_n 1, 1)) ∧ (decode cX13_bits 2 = .ok (.iload_n 0, 1) ∧ decode cX13_bits 3 = .ok (.istore_n 2, 1))) ∧ ((decode cX13_bits 4 = .ok (.iload_n 2, 1) ∧ decode cX13_bits 5 = .ok (.ifCond .eq 15, 3)) ∧ (decode cX13_bits 8 = .ok (.iinc 1 1, 3) ∧ decode cX13_bits 11 = .ok (.iload_n 2, 1)))) ∧ (((decode cX13_bits 12 = .ok (.iload_n 2, 1) ∧ decode cX13_bits 13 = .ok (.iconst 1, 1)) ∧ (decode cX13_bits 14 = .ok (.isub, 1) ∧ decode cX13_bits 15 = .ok (.iand, 1))) ∧ ((decode cX13_bits 16 = .ok (.istore_n 2, 1) ∧ decode cX13_bits 17 = .ok (.goto (-13), 3)) ∧ (decode cX13_bits 20 = .ok (.iload_n 1, 1) ∧ decode cX13_bits 21 = .ok (.ireturn, 1))))) := ⟨by decide +kernel, by decide +kernel⟩
def X13_bits_b4_body (rk4 : St → Int → Int → Rs) (s : St) (x1 x2 : Int) : Rs :=
  if x2 = 0 then (some (x1, s)) else (letv (and32 x2 (w32 (x2 - 1))) (fun y1 => rk4 s (w32 (x1 + 1)) y1))
def X13_bits_b4 (n : Nat) (s : St) (x1 x2 : Int) : Rs := iter (fun (rec : St × Int × Int → Rs) (a : St × Int × Int) => X13_bits_b4_body (fun (s : St) (x1 x2 : Int) => rec (s, x1, x2)) a.1 a.2.1 a.2.2) n (s, x1, x2)
theorem X13_bits_b4_0 (s : St) (x1 x2 : Int) : X13_bits_b4 0 s x1 x2 = none := rfl
theorem X13_bits_b4_1 (n : Nat) (s : St) (x1 x2 : Int) : X13_bits_b4 (n + 1) s x1 x2 = X13_bits_b4_body (X13_bits_b4 n) s x1 x2 := rfl
set_option maxRecDepth 100000 in
set_option maxHeartbeats 4000000 in
theorem X13_bits_b4_body_s (G : Gx) (l : Launch) (rk4 : St → Int → Int → Rs) (hk4 : ∀ (s : St) (x1 x2 : Int), V G l mX13_bits 4 [(1, (0, x1)), (2, (0, x2))] [] s (rk4 s x1 x2)) (s : St) (x1 x2 : Int) : V G l mX13_bits 4 [(1, (0, x1)), (2, (0, x2))] [] s (X13_bits_b4_body rk4 s x1 x2) := by
  unfold X13_bits_b4_body
  refine V_iload_n dec_X13_bits.1.2.1.1 1 rfl ?_
  refine V_if_eq (tgt := 20) dec_X13_bits.1.2.1.2 (by decide) ?_ ?_
  · refine V_iload_n dec_X13_bits.2.2.2.1 0 rfl ?_
    exact V_iret rfl dec_X13_bits.2.2.2.2
  · refine V_iinc (lv' := [(1, (0, (w32 (x1 + 1)))), (2, (0, x2))]) dec_X13_bits.1.2.2.1 0 rfl (by decide) rfl ?_
    refine V_iload_n dec_X13_bits.1.2.2.2 1 rfl ?_
    refine V_iload_n dec_X13_bits.2.1.1.1 1 rfl ?_
    refine V_iconst dec_X13_bits.2.1.1.2 rfl ?_
    refine V_isub dec_X13_bits.2.1.2.1 ?_
    refine V_iand dec_X13_bits.2.1.2.2 ?_
    refine V_letv fun y1 => ?_
    refine V_istore_n (lv' := [(2, (0, y1)), (1, (0, (w32 (x1 + 1))))]) dec_X13_bits.2.2.1.1 (by decide) rfl ?_
    refine V_goto (tgt := 4) dec_X13_bits.2.2.1.2 (by decide) ?_
    exact V_pick [1, 0] rfl (hk4 s (w32 (x1 + 1)) y1)
theorem X13_bits_b4_s (G : Gx) (l : Launch) (n : Nat) (s : St) (x1 x2 : Int) : V G l mX13_bits 4 [(1, (0, x1)), (2, (0, x2))] [] s (X13_bits_b4 n s x1 x2) :=
  V_iter (LV := fun a : St × Int × Int => [(1, (0, a.2.1)), (2, (0, a.2.2))]) (ST := fun a : St × Int × Int => []) (SS := fun a : St × Int × Int => a.1) (fun rec hrec a => X13_bits_b4_body_s G l (fun (s : St) (x1 x2 : Int) => rec (s, x1, x2)) (fun (s : St) (x1 x2 : Int) => hrec (s, x1, x2)) a.1 a.2.1 a.2.2) n (s, x1, x2)
def X13_bits (s : St) (a0 : Int) : Rs :=
  X13_bits_b4 FU s 0 a0
set_option maxRecDepth 100000 in
set_option maxHeartbeats 4000000 in
theorem X13_bits_s (G : Gx) (l : Launch) (s : St) (a0 : Int) : Snd G l mX13_bits [(0, a0)] s (X13_bits s a0) := by
  refine Snd.of (by decide +kernel) rfl ?_
  show V G l mX13_bits 0 [(0, (0, a0))] [] s _
  unfold X13_bits
  refine V_iconst dec_X13_bits.1.1.1.1 rfl ?_
  refine V_istore_n (lv' := [(1, (0, 0)), (0, (0, a0))]) dec_X13_bits.1.1.1.2 (by decide) rfl ?_
  refine V_iload_n dec_X13_bits.1.1.2.1 1 rfl ?_
  refine V_istore_n (lv' := [(2, (0, a0)), (1, (0, 0)), (0, (0, a0))]) dec_X13_bits.1.1.2.2 (by decide) rfl ?_
  exact V_pick [1, 0] rfl (X13_bits_b4_s G l FU s 0 a0)
theorem dec_X13_isRight : (((decode cX13_isRight 0 = .ok (.aload_n 0, 1) ∧ (decode cX13_isRight 1 = .ok (.iload_n 1, 1) ∧ decode cX13_isRight 2 = .ok (.iload_n 2, 1))) ∧ ((decode cX13_isRight 3 = .ok (.invokevirtual 333, 3) ∧ decode cX13_isRight 6 = .ok (.aload_n 0, 1)) ∧ (decode cX13_isRight 7 = .ok (.getfield 303, 3) ∧ decode cX13_isRight 10 = .ok (.getfield 263, 3)))) ∧ ((decode cX13_isRight 13 = .ok (.iload_n 1, 1) ∧ (decode cX13_isRight 14 = .ok (.iaload, 1) ∧ decode cX13_isRight 15 = .ok (.if_icmp .ne 7, 3))) ∧ ((decode cX13_isRight 18 = .ok (.iconst 1, 1) ∧ decode cX13_isRight 19 = .ok (.goto 4, 3)) ∧ (decode cX13_isRight 22 = .ok (.iconst 0, 1) ∧ decode cX13_isRight 23 = .ok (.ireturn, 1))))) := ⟨by decide +kernel, by decide +kernel⟩
def X13_isRight_b23 (s : St) (k0 : Int) : Rs :=
  grd (k0 = 0 ∨ k0 = 1) (some (k0, s))
set_option maxRecDepth 100000 in
set_option maxHeartbeats 4000000 in
theorem X13_isRight_b23_s (G : Gx) (l : Launch) (s : St) (k0 : Int) : V G l mX13_isRight 23 [] [(0, k0)] s (X13_isRight_b23 s k0) := by
  unfold X13_isRight_b23
  exact V_zret rfl dec_X13_isRight.2.2.2.2
def X13_isRight (s : St) (a0 a1 a2 : Int) : Rs :=
  grd (isK s 23 a0) (bnd (X13_whoHears s a0 a1 a2) (fun r1 s2 => grd (isK s2 23 a0) (grd (isK s2 22 (gR s2 a0 3)) (grd (isK s2 1 (gR s2 (gR s2 a0 3) 11) ∧ 0 ≤ a1 ∧ a1 < ln s2 (gR s2 (gR s2 a0 3) 11)) (if ¬ r1 = (gI s2 (gR s2 (gR s2 a0 3) 11) a1.toNat) then (X13_isRight_b23 s2 0) else (X13_isRight_b23 s2 1))))))
set_option maxRecDepth 100000 in
set_option maxHeartbeats 4000000 in
theorem X13_isRight_s (G : Gx) (l : Launch) (s : St) (a0 a1 a2 : Int) : Snd G l mX13_isRight [(2, a0), (0, a1), (0, a2)] s (X13_isRight s a0 a1 a2) := by
  refine Snd.of (by decide +kernel) rfl ?_
  show V G l mX13_isRight 0 [(0, (2, a0)), (1, (0, a1)), (2, (0, a2))] [] s _
  unfold X13_isRight
  refine V_aload_n dec_X13_isRight.1.1.1 0 rfl ?_
  refine V_iload_n dec_X13_isRight.1.1.2.1 1 rfl ?_
  refine V_iload_n dec_X13_isRight.1.1.2.2 2 rfl ?_
  refine V_callV0 (ci := 13) (a := a0) (As := [(0, a1), (0, a2)]) (st := []) rfl rfl (X13_whoHears_s G l s a0 a1 a2) cal_X13_whoHears rfl ml_X13_333 rfl rfl dec_X13_isRight.1.2.1.1 (k_tag (tag := 0) rfl fun r1 s2 => ?_)
  refine V_aload_n dec_X13_isRight.1.2.1.2 0 rfl ?_
  refine V_getR 13 3 nf_13_3 ft_13_3 fl_X13_303 dec_X13_isRight.1.2.2.1 ?_
  refine V_getRN RX13 12 11 nf_12_11 ft_12_11 fl_X13_263 dec_X13_isRight.1.2.2.2 ?_
  refine V_iload_n dec_X13_isRight.2.1.1 1 rfl ?_
  refine V_iald dec_X13_isRight.2.1.2.1 ?_
  refine V_icmp_ne (tgt := 22) dec_X13_isRight.2.1.2.2 (by decide) ?_ ?_
  · refine V_iconst dec_X13_isRight.2.2.2.1 rfl ?_
    exact V_pick [] rfl (X13_isRight_b23_s G l s2 0)
  · refine V_iconst dec_X13_isRight.2.2.1.1 rfl ?_
    refine V_goto (tgt := 23) dec_X13_isRight.2.2.1.2 (by decide) ?_
    exact V_pick [] rfl (X13_isRight_b23_s G l s2 1)
theorem dec_X13_rightOn : ((((decode cX13_rightOn 0 = .ok (.iconst 0, 1) ∧ (decode cX13_rightOn 1 = .ok (.istore_n 2, 1) ∧ decode cX13_rightOn 2 = .ok (.iconst 0, 1))) ∧ (decode cX13_rightOn 3 = .ok (.istore_n 3, 1) ∧ (decode cX13_rightOn 4 = .ok (.iload_n 3, 1) ∧ decode cX13_rightOn 5 = .ok (.aload_n 0, 1)))) ∧ ((decode cX13_rightOn 6 = .ok (.getfield 303, 3) ∧ (decode cX13_rightOn 9 = .ok (.getfield 241, 3) ∧ decode cX13_rightOn 12 = .ok (.if_icmp .ge 28, 3))) ∧ ((decode cX13_rightOn 15 = .ok (.iload_n 2, 1) ∧ decode cX13_rightOn 16 = .ok (.aload_n 0, 1)) ∧ (decode cX13_rightOn 17 = .ok (.iload_n 3, 1) ∧ decode cX13_rightOn 18 = .ok (.iload_n 1, 1))))) ∧ (((decode cX13_rightOn 19 = .ok (.invokevirtual 336, 3) ∧ (decode cX13_rightOn 22 = .ok (.ifCond .eq 9, 3) ∧ decode cX13_rightOn 25 = .ok (.iconst 1, 1))) ∧ (decode cX13_rightOn 26 = .ok (.iload_n 3, 1) ∧ (decode cX13_rightOn 27 = .ok (.ishl, 1) ∧ decode cX13_rightOn 28 = .ok (.goto 4, 3)))) ∧ ((decode cX13_rightOn 31 = .ok (.iconst 0, 1) ∧ (decode cX13_rightOn 32 = .ok (.ior, 1) ∧ decode cX13_rightOn 33 = .ok (.istore_n 2, 1))) ∧ ((decode cX13_rightOn 34 = .ok (.iinc 3 1, 3) ∧ decode cX13_rightOn 37 = .ok (.goto (-33), 3)) ∧ (decode cX13_rightOn 40 = .ok (.iload_n 2, 1) ∧ decode cX13_rightOn 41 = .ok (.ireturn, 1)))))) := ⟨⟨by decide +kernel, by decide +kernel⟩, ⟨by decide +kernel, by decide +kernel⟩⟩
def X13_rightOn_b32 (rk4 : St → Int → Int → Int → Int → Rs) (s : St) (x0 x1 x3 k0 k1 : Int) : Rs :=
  rk4 s x0 x1 (or32 k1 k0) (w32 (x3 + 1))
set_option maxRecDepth 100000 in
set_option maxHeartbeats 4000000 in
theorem X13_rightOn_b32_s (G : Gx) (l : Launch) (rk4 : St → Int → Int → Int → Int → Rs) (hk4 : ∀ (s : St) (x0 x1 x2 x3 : Int), V G l mX13_rightOn 4 [(0, (2, x0)), (1, (0, x1)), (2, (0, x2)), (3, (0, x3))] [] s (rk4 s x0 x1 x2 x3)) (s : St) (x0 x1 x3 k0 k1 : Int) : V G l mX13_rightOn 32 [(0, (2, x0)), (1, (0, x1)), (3, (0, x3))] [(0, k0), (0, k1)] s (X13_rightOn_b32 rk4 s x0 x1 x3 k0 k1) := by
  unfold X13_rightOn_b32
  refine V_ior dec_X13_rightOn.2.2.1.2.1 ?_
  refine V_istore_n (lv' := [(2, (0, (or32 k1 k0))), (0, (2, x0)), (1, (0, x1)), (3, (0, x3))]) dec_X13_rightOn.2.2.1.2.2 (by decide) rfl ?_
  refine V_iinc (lv' := [(3, (0, (w32 (x3 + 1)))), (2, (0, (or32 k1 k0))), (0, (2, x0)), (1, (0, x1))]) dec_X13_rightOn.2.2.2.1.1 3 rfl (by decide) rfl ?_
  refine V_goto (tgt := 4) dec_X13_rightOn.2.2.2.1.2 (by decide) ?_
  exact V_pick [2, 3, 1, 0] rfl (hk4 s x0 x1 (or32 k1 k0) (w32 (x3 + 1)))
def X13_rightOn_b4_body (rk4 : St → Int → Int → Int → Int → Rs) (s : St) (x0 x1 x2 x3 : Int) : Rs :=
  grd (isK s 23 x0) (grd (isK s 22 (gR s x0 3)) (if (gI s (gR s x0 3) 3) ≤ x3 then (some (x2, s)) else (grd (isK s 23 x0) (bnd (X13_isRight s x0 x3 x1) (fun r1 s2 => if r1 = 0 then (X13_rightOn_b32 rk4 s2 x0 x1 x3 0 x2) else (X13_rightOn_b32 rk4 s2 x0 x1 x3 (shl32 1 x3) x2))))))
def X13_rightOn_b4 (n : Nat) (s : St) (x0 x1 x2 x3 : Int) : Rs := iter (fun (rec : St × Int × Int × Int × Int → Rs) (a : St × Int × Int × Int × Int) => X13_rightOn_b4_body (fun (s : St) (x0 x1 x2 x3 : Int) => rec (s, x0, x1, x2, x3)) a.1 a.2.1 a.2.2.1 a.2.2.2.1 a.2.2.2.2) n (s, x0, x1, x2, x3)
theorem X13_rightOn_b4_0 (s : St) (x0 x1 x2 x3 : Int) : X13_rightOn_b4 0 s x0 x1 x2 x3 = none := rfl
theorem X13_rightOn_b4_1 (n : Nat) (s : St) (x0 x1 x2 x3 : Int) : X13_rightOn_b4 (n + 1) s x0 x1 x2 x3 = X13_rightOn_b4_body (X13_rightOn_b4 n) s x0 x1 x2 x3 := rfl
set_option maxRecDepth 100000 in
set_option maxHeartbeats 4000000 in
theorem X13_rightOn_b4_body_s (G : Gx) (l : Launch) (rk4 : St → Int → Int → Int → Int → Rs) (hk4 : ∀ (s : St) (x0 x1 x2 x3 : Int), V G l mX13_rightOn 4 [(0, (2, x0)), (1, (0, x1)), (2, (0, x2)), (3, (0, x3))] [] s (rk4 s x0 x1 x2 x3)) (s : St) (x0 x1 x2 x3 : Int) : V G l mX13_rightOn 4 [(0, (2, x0)), (1, (0, x1)), (2, (0, x2)), (3, (0, x3))] [] s (X13_rightOn_b4_body rk4 s x0 x1 x2 x3) := by
  unfold X13_rightOn_b4_body
  refine V_iload_n dec_X13_rightOn.1.1.2.2.1 3 rfl ?_
  refine V_aload_n dec_X13_rightOn.1.1.2.2.2 0 rfl ?_
  refine V_getR 13 3 nf_13_3 ft_13_3 fl_X13_303 dec_X13_rightOn.1.2.1.1 ?_
  refine V_getIN RX13 12 3 nf_12_3 ft_12_3 fl_X13_241 dec_X13_rightOn.1.2.1.2.1 ?_
  refine V_icmp_ge (tgt := 40) dec_X13_rightOn.1.2.1.2.2 (by decide) ?_ ?_
  · refine V_iload_n dec_X13_rightOn.2.2.2.2.1 2 rfl ?_
    exact V_iret rfl dec_X13_rightOn.2.2.2.2.2
  · refine V_iload_n dec_X13_rightOn.1.2.2.1.1 2 rfl ?_
    refine V_aload_n dec_X13_rightOn.1.2.2.1.2 0 rfl ?_
    refine V_iload_n dec_X13_rightOn.1.2.2.2.1 3 rfl ?_
    refine V_iload_n dec_X13_rightOn.1.2.2.2.2 1 rfl ?_
    refine V_callV0 (ci := 13) (a := x0) (As := [(0, x3), (0, x1)]) (st := [(0, x2)]) rfl rfl (X13_isRight_s G l s x0 x3 x1) cal_X13_isRight rfl ml_X13_336 rfl rfl dec_X13_rightOn.2.1.1.1 (k_tag (tag := 0) rfl fun r1 s2 => ?_)
    refine V_if_eq (tgt := 31) dec_X13_rightOn.2.1.1.2.1 (by decide) ?_ ?_
    · refine V_iconst dec_X13_rightOn.2.2.1.1 rfl ?_
      exact V_pick [0, 1, 3] rfl (X13_rightOn_b32_s G l rk4 hk4 s2 x0 x1 x3 0 x2)
    · refine V_iconst dec_X13_rightOn.2.1.1.2.2 rfl ?_
      refine V_iload_n dec_X13_rightOn.2.1.2.1 3 rfl ?_
      refine V_ishl dec_X13_rightOn.2.1.2.2.1 ?_
      refine V_goto (tgt := 32) dec_X13_rightOn.2.1.2.2.2 (by decide) ?_
      exact V_pick [0, 1, 3] rfl (X13_rightOn_b32_s G l rk4 hk4 s2 x0 x1 x3 (shl32 1 x3) x2)
theorem X13_rightOn_b4_s (G : Gx) (l : Launch) (n : Nat) (s : St) (x0 x1 x2 x3 : Int) : V G l mX13_rightOn 4 [(0, (2, x0)), (1, (0, x1)), (2, (0, x2)), (3, (0, x3))] [] s (X13_rightOn_b4 n s x0 x1 x2 x3) :=
  V_iter (LV := fun a : St × Int × Int × Int × Int => [(0, (2, a.2.1)), (1, (0, a.2.2.1)), (2, (0, a.2.2.2.1)), (3, (0, a.2.2.2.2))]) (ST := fun a : St × Int × Int × Int × Int => []) (SS := fun a : St × Int × Int × Int × Int => a.1) (fun rec hrec a => X13_rightOn_b4_body_s G l (fun (s : St) (x0 x1 x2 x3 : Int) => rec (s, x0, x1, x2, x3)) (fun (s : St) (x0 x1 x2 x3 : Int) => hrec (s, x0, x1, x2, x3)) a.1 a.2.1 a.2.2.1 a.2.2.2.1 a.2.2.2.2) n (s, x0, x1, x2, x3)
def X13_rightOn (s : St) (a0 a1 : Int) : Rs :=
  X13_rightOn_b4 FU s a0 a1 0 0
set_option maxRecDepth 100000 in
set_option maxHeartbeats 4000000 in
theorem X13_rightOn_s (G : Gx) (l : Launch) (s : St) (a0 a1 : Int) : Snd G l mX13_rightOn [(2, a0), (0, a1)] s (X13_rightOn s a0 a1) := by
  refine Snd.of (by decide +kernel) rfl ?_
  show V G l mX13_rightOn 0 [(0, (2, a0)), (1, (0, a1))] [] s _
  unfold X13_rightOn
  refine V_iconst dec_X13_rightOn.1.1.1.1 rfl ?_
  refine V_istore_n (lv' := [(2, (0, 0)), (0, (2, a0)), (1, (0, a1))]) dec_X13_rightOn.1.1.1.2.1 (by decide) rfl ?_
  refine V_iconst dec_X13_rightOn.1.1.1.2.2 rfl ?_
  refine V_istore_n (lv' := [(3, (0, 0)), (2, (0, 0)), (0, (2, a0)), (1, (0, a1))]) dec_X13_rightOn.1.1.2.1 (by decide) rfl ?_
  exact V_pick [2, 3, 1, 0] rfl (X13_rightOn_b4_s G l FU s a0 a1 0 0)
theorem dec_X13_bestNight : (((((decode cX13_bestNight 0 = .ok (.aload_n 0, 1) ∧ decode cX13_bestNight 1 = .ok (.iconst 0, 1)) ∧ (decode cX13_bestNight 2 = .ok (.putfield 49, 3) ∧ (decode cX13_bestNight 5 = .ok (.aload_n 0, 1) ∧ decode cX13_bestNight 6 = .ok (.getfield 303, 3)))) ∧ ((decode cX13_bestNight 9 = .ok (.ifnonnull 9, 3) ∧ decode cX13_bestNight 12 = .ok (.aload_n 0, 1)) ∧ (decode cX13_bestNight 13 = .ok (.iconst 1, 1) ∧ (decode cX13_bestNight 14 = .ok (.invokevirtual 55, 3) ∧ decode cX13_bestNight 17 = .ok (.ireturn, 1))))) ∧ (((decode cX13_bestNight 18 = .ok (.aload_n 0, 1) ∧ decode cX13_bestNight 19 = .ok (.invokevirtual 342, 3)) ∧ (decode cX13_bestNight 22 = .ok (.iconst 0, 1) ∧ (decode cX13_bestNight 23 = .ok (.istore_n 1, 1) ∧ decode cX13_bestNight 24 = .ok (.iconst (-1), 1)))) ∧ ((decode cX13_bestNight 25 = .ok (.istore_n 2, 1) ∧ decode cX13_bestNight 26 = .ok (.iconst 0, 1)) ∧ (decode cX13_bestNight 27 = .ok (.istore_n 3, 1) ∧ (decode cX13_bestNight 28 = .ok (.iload_n 3, 1) ∧ decode cX13_bestNight 29 = .ok (.bipush 100, 2)))))) ∧ ((((decode cX13_bestNight 31 = .ok (.if_icmp .ge 33, 3) ∧ decode cX13_bestNight 34 = .ok (.aload_n 0, 1)) ∧ (decode cX13_bestNight 35 = .ok (.iload_n 3, 1) ∧ (decode cX13_bestNight 36 = .ok (.invokevirtual 358, 3) ∧ decode cX13_bestNight 39 = .ok (.invokestatic 361, 3)))) ∧ ((decode cX13_bestNight 42 = .ok (.istore 4, 2) ∧ decode cX13_bestNight 44 = .ok (.iload 4, 2)) ∧ (decode cX13_bestNight 46 = .ok (.iload_n 2, 1) ∧ (decode cX13_bestNight 47 = .ok (.if_icmp .gt 6, 3) ∧ decode cX13_bestNight 50 = .ok (.goto 8, 3))))) ∧ (((decode cX13_bestNight 53 = .ok (.iload 4, 2) ∧ decode cX13_bestNight 55 = .ok (.istore_n 2, 1)) ∧ (decode cX13_bestNight 56 = .ok (.iload_n 3, 1) ∧ (decode cX13_bestNight 57 = .ok (.istore_n 1, 1) ∧ decode cX13_bestNight 58 = .ok (.iinc 3 1, 3)))) ∧ ((decode cX13_bestNight 61 = .ok (.goto (-33), 3) ∧ decode cX13_bestNight 64 = .ok (.aload_n 0, 1)) ∧ (decode cX13_bestNight 65 = .ok (.iload_n 1, 1) ∧ (decode cX13_bestNight 66 = .ok (.invokevirtual 59, 3) ∧ decode cX13_bestNight 69 = .ok (.ireturn, 1))))))) := ⟨⟨by decide +kernel, by decide +kernel⟩, ⟨by decide +kernel, by decide +kernel⟩⟩
def X13_bestNight_b58 (rk28 : St → Int → Int → Int → Int → Rs) (s : St) (x0 x1 x2 x3 : Int) : Rs :=
  rk28 s x0 x1 x2 (w32 (x3 + 1))
set_option maxRecDepth 100000 in
set_option maxHeartbeats 4000000 in
theorem X13_bestNight_b58_s (G : Gx) (l : Launch) (rk28 : St → Int → Int → Int → Int → Rs) (hk28 : ∀ (s : St) (x0 x1 x2 x3 : Int), V G l mX13_bestNight 28 [(0, (2, x0)), (1, (0, x1)), (2, (0, x2)), (3, (0, x3))] [] s (rk28 s x0 x1 x2 x3)) (s : St) (x0 x1 x2 x3 : Int) : V G l mX13_bestNight 58 [(0, (2, x0)), (1, (0, x1)), (2, (0, x2)), (3, (0, x3))] [] s (X13_bestNight_b58 rk28 s x0 x1 x2 x3) := by
  unfold X13_bestNight_b58
  refine V_iinc (lv' := [(3, (0, (w32 (x3 + 1)))), (0, (2, x0)), (1, (0, x1)), (2, (0, x2))]) dec_X13_bestNight.2.2.1.2.2.2 3 rfl (by decide) rfl ?_
  refine V_goto (tgt := 28) dec_X13_bestNight.2.2.2.1.1 (by decide) ?_
  exact V_pick [1, 2, 3, 0] rfl (hk28 s x0 x1 x2 (w32 (x3 + 1)))
def X13_bestNight_b28_body (rk28 : St → Int → Int → Int → Int → Rs) (s : St) (x0 x1 x2 x3 : Int) : Rs :=
  if (100 : Int) ≤ x3 then (grd (isK s 23 x0) (bnd (X13_good s x0 x1) (fun r4 s5 => some (r4, s5)))) else (grd (isK s 23 x0) (bnd (X13_rightOn s x0 x3) (fun r6 s7 => bnd (X13_bits s7 r6) (fun r8 s9 => if x2 < r8 then (X13_bestNight_b58 rk28 s9 x0 x3 r8 x3) else (X13_bestNight_b58 rk28 s9 x0 x1 x2 x3)))))
def X13_bestNight_b28 (n : Nat) (s : St) (x0 x1 x2 x3 : Int) : Rs := iter (fun (rec : St × Int × Int × Int × Int → Rs) (a : St × Int × Int × Int × Int) => X13_bestNight_b28_body (fun (s : St) (x0 x1 x2 x3 : Int) => rec (s, x0, x1, x2, x3)) a.1 a.2.1 a.2.2.1 a.2.2.2.1 a.2.2.2.2) n (s, x0, x1, x2, x3)
theorem X13_bestNight_b28_0 (s : St) (x0 x1 x2 x3 : Int) : X13_bestNight_b28 0 s x0 x1 x2 x3 = none := rfl
theorem X13_bestNight_b28_1 (n : Nat) (s : St) (x0 x1 x2 x3 : Int) : X13_bestNight_b28 (n + 1) s x0 x1 x2 x3 = X13_bestNight_b28_body (X13_bestNight_b28 n) s x0 x1 x2 x3 := rfl
set_option maxRecDepth 100000 in
set_option maxHeartbeats 4000000 in
theorem X13_bestNight_b28_body_s (G : Gx) (l : Launch) (rk28 : St → Int → Int → Int → Int → Rs) (hk28 : ∀ (s : St) (x0 x1 x2 x3 : Int), V G l mX13_bestNight 28 [(0, (2, x0)), (1, (0, x1)), (2, (0, x2)), (3, (0, x3))] [] s (rk28 s x0 x1 x2 x3)) (s : St) (x0 x1 x2 x3 : Int) : V G l mX13_bestNight 28 [(0, (2, x0)), (1, (0, x1)), (2, (0, x2)), (3, (0, x3))] [] s (X13_bestNight_b28_body rk28 s x0 x1 x2 x3) := by
  unfold X13_bestNight_b28_body
  refine V_iload_n dec_X13_bestNight.1.2.2.2.2.1 3 rfl ?_
  refine V_bipush dec_X13_bestNight.1.2.2.2.2.2 rfl ?_
  refine V_icmp_ge (tgt := 64) dec_X13_bestNight.2.1.1.1.1 (by decide) ?_ ?_
  · refine V_aload_n dec_X13_bestNight.2.2.2.1.2 0 rfl ?_
    refine V_iload_n dec_X13_bestNight.2.2.2.2.1 1 rfl ?_
    refine V_callV0 (ci := 13) (a := x0) (As := [(0, x1)]) (st := []) rfl rfl (X13_good_s G l s x0 x1) cal_X13_good rfl ml_X13_59 rfl rfl dec_X13_bestNight.2.2.2.2.2.1 (k_tag (tag := 0) rfl fun r4 s5 => ?_)
    exact V_iret rfl dec_X13_bestNight.2.2.2.2.2.2
  · refine V_aload_n dec_X13_bestNight.2.1.1.1.2 0 rfl ?_
    refine V_iload_n dec_X13_bestNight.2.1.1.2.1 3 rfl ?_
    refine V_callV0 (ci := 13) (a := x0) (As := [(0, x3)]) (st := []) rfl rfl (X13_rightOn_s G l s x0 x3) cal_X13_rightOn rfl ml_X13_358 rfl rfl dec_X13_bestNight.2.1.1.2.2.1 (k_tag (tag := 0) rfl fun r6 s7 => ?_)
    refine V_callS0 (As := [(0, r6)]) (st := []) (host := "") rfl (X13_bits_s G l s7 r6) cal_X13_bits rfl (Or.inl ml_X13_361) rfl rfl dec_X13_bestNight.2.1.1.2.2.2 (k_tag (tag := 0) rfl fun r8 s9 => ?_)
    refine V_istore (lv' := [(4, (0, r8)), (0, (2, x0)), (1, (0, x1)), (2, (0, x2)), (3, (0, x3))]) dec_X13_bestNight.2.1.2.1.1 (by decide) rfl ?_
    refine V_iload dec_X13_bestNight.2.1.2.1.2 0 rfl ?_
    refine V_iload_n dec_X13_bestNight.2.1.2.2.1 3 rfl ?_
    refine V_icmp_gt (tgt := 53) dec_X13_bestNight.2.1.2.2.2.1 (by decide) ?_ ?_
    · refine V_iload dec_X13_bestNight.2.2.1.1.1 0 rfl ?_
      refine V_istore_n (lv' := [(2, (0, r8)), (4, (0, r8)), (0, (2, x0)), (1, (0, x1)), (3, (0, x3))]) dec_X13_bestNight.2.2.1.1.2 (by decide) rfl ?_
      refine V_iload_n dec_X13_bestNight.2.2.1.2.1 4 rfl ?_
      refine V_istore_n (lv' := [(1, (0, x3)), (2, (0, r8)), (4, (0, r8)), (0, (2, x0)), (3, (0, x3))]) dec_X13_bestNight.2.2.1.2.2.1 (by decide) rfl ?_
      exact V_pick [3, 0, 1, 4] rfl (X13_bestNight_b58_s G l rk28 hk28 s9 x0 x3 r8 x3)
    · refine V_goto (tgt := 58) dec_X13_bestNight.2.1.2.2.2.2 (by decide) ?_
      exact V_pick [1, 2, 3, 4] rfl (X13_bestNight_b58_s G l rk28 hk28 s9 x0 x1 x2 x3)
theorem X13_bestNight_b28_s (G : Gx) (l : Launch) (n : Nat) (s : St) (x0 x1 x2 x3 : Int) : V G l mX13_bestNight 28 [(0, (2, x0)), (1, (0, x1)), (2, (0, x2)), (3, (0, x3))] [] s (X13_bestNight_b28 n s x0 x1 x2 x3) :=
  V_iter (LV := fun a : St × Int × Int × Int × Int => [(0, (2, a.2.1)), (1, (0, a.2.2.1)), (2, (0, a.2.2.2.1)), (3, (0, a.2.2.2.2))]) (ST := fun a : St × Int × Int × Int × Int => []) (SS := fun a : St × Int × Int × Int × Int => a.1) (fun rec hrec a => X13_bestNight_b28_body_s G l (fun (s : St) (x0 x1 x2 x3 : Int) => rec (s, x0, x1, x2, x3)) (fun (s : St) (x0 x1 x2 x3 : Int) => hrec (s, x0, x1, x2, x3)) a.1 a.2.1 a.2.2.1 a.2.2.2.1 a.2.2.2.2) n (s, x0, x1, x2, x3)
def X13_bestNight (s : St) (a0 : Int) : Rs :=
  grd (isK s 23 a0) (lets (pI s a0 0 0) (fun s1 => grd (isK s1 23 a0) (if (gR s1 a0 3) < 0 then (grd (isK s1 23 a0) (bnd (X13_refused s1 a0 1) (fun r10 s11 => some (r10, s11)))) else (grd (isK s1 23 a0) (bnd (X13_works s1 a0) (fun r2 s3 => X13_bestNight_b28 FU s3 a0 0 (-1) 0))))))
set_option maxRecDepth 100000 in
set_option maxHeartbeats 4000000 in
theorem X13_bestNight_s (G : Gx) (l : Launch) (s : St) (a0 : Int) : Snd G l mX13_bestNight [(2, a0)] s (X13_bestNight s a0) := by
  refine Snd.of (by decide +kernel) rfl ?_
  show V G l mX13_bestNight 0 [(0, (2, a0))] [] s _
  unfold X13_bestNight
  refine V_aload_n dec_X13_bestNight.1.1.1.1.1 0 rfl ?_
  refine V_iconst dec_X13_bestNight.1.1.1.1.2 rfl ?_
  refine V_putI (host := "") 13 0 nf_13_0 ty_13_0 (Or.inl ⟨fl_X13_49, Or.inl rfl⟩) dec_X13_bestNight.1.1.1.2.1 ?_
  refine V_lets fun s1 => ?_
  refine V_aload_n dec_X13_bestNight.1.1.1.2.2.1 0 rfl ?_
  refine V_getR 13 3 nf_13_3 ft_13_3 fl_X13_303 dec_X13_bestNight.1.1.1.2.2.2 ?_
  refine V_ifnonnull (tgt := 18) dec_X13_bestNight.1.1.2.1.1 (by decide) ?_ ?_
  · refine V_aload_n dec_X13_bestNight.1.1.2.1.2 0 rfl ?_
    refine V_iconst dec_X13_bestNight.1.1.2.2.1 rfl ?_
    refine V_callV0 (ci := 13) (a := a0) (As := [(0, 1)]) (st := []) rfl rfl (X13_refused_s G l s1 a0 1) cal_X13_refused rfl ml_X13_55 rfl rfl dec_X13_bestNight.1.1.2.2.2.1 (k_tag (tag := 0) rfl fun r10 s11 => ?_)
    exact V_iret rfl dec_X13_bestNight.1.1.2.2.2.2
  · refine V_aload_n dec_X13_bestNight.1.2.1.1.1 0 rfl ?_
    refine V_callV0 (ci := 13) (a := a0) (As := []) (st := []) rfl rfl (X13_works_s G l s1 a0) cal_X13_works rfl ml_X13_342 rfl rfl dec_X13_bestNight.1.2.1.1.2 (k_void rfl fun r2 s3 => ?_)
    refine V_iconst dec_X13_bestNight.1.2.1.2.1 rfl ?_
    refine V_istore_n (lv' := [(1, (0, 0)), (0, (2, a0))]) dec_X13_bestNight.1.2.1.2.2.1 (by decide) rfl ?_
    refine V_iconst dec_X13_bestNight.1.2.1.2.2.2 rfl ?_
    refine V_istore_n (lv' := [(2, (0, (-1))), (1, (0, 0)), (0, (2, a0))]) dec_X13_bestNight.1.2.2.1.1 (by decide) rfl ?_
    refine V_iconst dec_X13_bestNight.1.2.2.1.2 rfl ?_
    refine V_istore_n (lv' := [(3, (0, 0)), (2, (0, (-1))), (1, (0, 0)), (0, (2, a0))]) dec_X13_bestNight.1.2.2.2.1 (by decide) rfl ?_
    exact V_pick [3, 2, 1, 0] rfl (X13_bestNight_b28_s G l FU s3 a0 0 (-1) 0)
theorem dec_X13_spreads : (((((decode cX13_spreads 0 = .ok (.iconst 0, 1) ∧ (decode cX13_spreads 1 = .ok (.istore 4, 2) ∧ decode cX13_spreads 3 = .ok (.iload 4, 2))) ∧ (decode cX13_spreads 5 = .ok (.aload_n 0, 1) ∧ (decode cX13_spreads 6 = .ok (.getfield 303, 3) ∧ decode cX13_spreads 9 = .ok (.getfield 193, 3)))) ∧ ((decode cX13_spreads 12 = .ok (.if_icmp .ge 79, 3) ∧ (decode cX13_spreads 15 = .ok (.aload_n 0, 1) ∧ decode cX13_spreads 16 = .ok (.iload_n 1, 1))) ∧ (decode cX13_spreads 17 = .ok (.iload 4, 2) ∧ (decode cX13_spreads 19 = .ok (.invokevirtual 392, 3) ∧ decode cX13_spreads 22 = .ok (.istore 5, 2))))) ∧ (((decode cX13_spreads 24 = .ok (.iload 5, 2) ∧ (decode cX13_spreads 26 = .ok (.bipush 7, 2) ∧ decode cX13_spreads 28 = .ok (.imul, 1))) ∧ (decode cX13_spreads 29 = .ok (.iload 4, 2) ∧ (decode cX13_spreads 31 = .ok (.iadd, 1) ∧ decode cX13_spreads 32 = .ok (.istore 6, 2)))) ∧ ((decode cX13_spreads 34 = .ok (.iload 5, 2) ∧ (decode cX13_spreads 36 = .ok (.iload_n 1, 1) ∧ decode cX13_spreads 37 = .ok (.if_icmp .eq 48, 3))) ∧ ((decode cX13_spreads 40 = .ok (.iload_n 2, 1) ∧ decode cX13_spreads 41 = .ok (.aload_n 0, 1)) ∧ (decode cX13_spreads 42 = .ok (.iload_n 3, 1) ∧ decode cX13_spreads 43 = .ok (.aload_n 0, 1)))))) ∧ ((((decode cX13_spreads 44 = .ok (.getfield 21, 3) ∧ (decode cX13_spreads 47 = .ok (.iload 4, 2) ∧ decode cX13_spreads 49 = .ok (.iaload, 1))) ∧ (decode cX13_spreads 50 = .ok (.invokevirtual 395, 3) ∧ (decode cX13_spreads 53 = .ok (.iadd, 1) ∧ decode cX13_spreads 54 = .ok (.aload_n 0, 1)))) ∧ ((decode cX13_spreads 55 = .ok (.getfield 36, 3) ∧ (decode cX13_spreads 58 = .ok (.iload 6, 2) ∧ decode cX13_spreads 60 = .ok (.iaload, 1))) ∧ ((decode cX13_spreads 61 = .ok (.if_icmp .ge 24, 3) ∧ decode cX13_spreads 64 = .ok (.aload_n 0, 1)) ∧ (decode cX13_spreads 65 = .ok (.getfield 36, 3) ∧ decode cX13_spreads 68 = .ok (.iload 6, 2))))) ∧ (((decode cX13_spreads 70 = .ok (.iload_n 2, 1) ∧ (decode cX13_spreads 71 = .ok (.aload_n 0, 1) ∧ decode cX13_spreads 72 = .ok (.iload_n 3, 1))) ∧ (decode cX13_spreads 73 = .ok (.aload_n 0, 1) ∧ (decode cX13_spreads 74 = .ok (.getfield 21, 3) ∧ decode cX13_spreads 77 = .ok (.iload 4, 2)))) ∧ ((decode cX13_spreads 79 = .ok (.iaload, 1) ∧ (decode cX13_spreads 80 = .ok (.invokevirtual 395, 3) ∧ decode cX13_spreads 83 = .ok (.iadd, 1))) ∧ ((decode cX13_spreads 84 = .ok (.iastore, 1) ∧ decode cX13_spreads 85 = .ok (.iinc 4 1, 3)) ∧ (decode cX13_spreads 88 = .ok (.goto (-85), 3) ∧ decode cX13_spreads 91 = .ok (.return_, 1))))))) := ⟨⟨by decide +kernel, ⟨by decide +kernel, by decide +kernel⟩⟩, ⟨⟨by decide +kernel, by decide +kernel⟩, ⟨by decide +kernel, by decide +kernel⟩⟩⟩
def X13_spreads_b85 (rk3 : St → Int → Int → Int → Int → Int → Rs) (s : St) (x0 x1 x2 x3 x4 : Int) : Rs :=
  rk3 s x0 x1 x2 x3 (w32 (x4 + 1))
set_option maxRecDepth 100000 in
set_option maxHeartbeats 4000000 in
theorem X13_spreads_b85_s (G : Gx) (l : Launch) (rk3 : St → Int → Int → Int → Int → Int → Rs) (hk3 : ∀ (s : St) (x0 x1 x2 x3 x4 : Int), V G l mX13_spreads 3 [(0, (2, x0)), (1, (0, x1)), (2, (0, x2)), (3, (0, x3)), (4, (0, x4))] [] s (rk3 s x0 x1 x2 x3 x4)) (s : St) (x0 x1 x2 x3 x4 : Int) : V G l mX13_spreads 85 [(0, (2, x0)), (1, (0, x1)), (2, (0, x2)), (3, (0, x3)), (4, (0, x4))] [] s (X13_spreads_b85 rk3 s x0 x1 x2 x3 x4) := by
  unfold X13_spreads_b85
  refine V_iinc (lv' := [(4, (0, (w32 (x4 + 1)))), (0, (2, x0)), (1, (0, x1)), (2, (0, x2)), (3, (0, x3))]) dec_X13_spreads.2.2.2.2.1.2 4 rfl (by decide) rfl ?_
  refine V_goto (tgt := 3) dec_X13_spreads.2.2.2.2.2.1 (by decide) ?_
  exact V_pick [1, 2, 3, 4, 0] rfl (hk3 s x0 x1 x2 x3 (w32 (x4 + 1)))
def X13_spreads_b3_body (rk3 : St → Int → Int → Int → Int → Int → Rs) (s : St) (x0 x1 x2 x3 x4 : Int) : Rs :=
  grd (isK s 23 x0) (grd (isK s 22 (gR s x0 3)) (if (gI s (gR s x0 3) 2) ≤ x4 then (some (0, s)) else (grd (isK s 23 x0) (bnd (X13_behind s x0 x1 x4) (fun r1 s2 => letv (w32 ((w32 (r1 * 7)) + x4)) (fun y3 => if r1 = x1 then (X13_spreads_b85 rk3 s2 x0 x1 x2 x3 x4) else (grd (isK s2 23 x0) (grd (isK s2 1 (gR s2 x0 16) ∧ 0 ≤ x4 ∧ x4 < ln s2 (gR s2 x0 16)) (grd (isK s2 23 x0) (bnd (X13_apart s2 x0 x3 (gI s2 (gR s2 x0 16) x4.toNat)) (fun r4 s5 => grd (isK s5 23 x0) (grd (isK s5 1 (gR s5 x0 24) ∧ 0 ≤ y3 ∧ y3 < ln s5 (gR s5 x0 24)) (if (gI s5 (gR s5 x0 24) y3.toNat) ≤ (w32 (x2 + r4)) then (X13_spreads_b85 rk3 s5 x0 x1 x2 x3 x4) else (grd (isK s5 23 x0) (grd (isK s5 23 x0) (grd (isK s5 1 (gR s5 x0 16) ∧ 0 ≤ x4 ∧ x4 < ln s5 (gR s5 x0 16)) (grd (isK s5 23 x0) (bnd (X13_apart s5 x0 x3 (gI s5 (gR s5 x0 16) x4.toNat)) (fun r6 s7 => grd (isK s7 1 (gR s5 x0 24) ∧ 0 ≤ y3 ∧ y3 < ln s7 (gR s5 x0 24)) (lets (pI s7 (gR s5 x0 24) y3.toNat (w32 (x2 + r6))) (fun s8 => X13_spreads_b85 rk3 s8 x0 x1 x2 x3 x4)))))))))))))))))))))
def X13_spreads_b3 (n : Nat) (s : St) (x0 x1 x2 x3 x4 : Int) : Rs := iter (fun (rec : St × Int × Int × Int × Int × Int → Rs) (a : St × Int × Int × Int × Int × Int) => X13_spreads_b3_body (fun (s : St) (x0 x1 x2 x3 x4 : Int) => rec (s, x0, x1, x2, x3, x4)) a.1 a.2.1 a.2.2.1 a.2.2.2.1 a.2.2.2.2.1 a.2.2.2.2.2) n (s, x0, x1, x2, x3, x4)
theorem X13_spreads_b3_0 (s : St) (x0 x1 x2 x3 x4 : Int) : X13_spreads_b3 0 s x0 x1 x2 x3 x4 = none := rfl
theorem X13_spreads_b3_1 (n : Nat) (s : St) (x0 x1 x2 x3 x4 : Int) : X13_spreads_b3 (n + 1) s x0 x1 x2 x3 x4 = X13_spreads_b3_body (X13_spreads_b3 n) s x0 x1 x2 x3 x4 := rfl
set_option maxRecDepth 100000 in
set_option maxHeartbeats 4000000 in
theorem X13_spreads_b3_body_s (G : Gx) (l : Launch) (rk3 : St → Int → Int → Int → Int → Int → Rs) (hk3 : ∀ (s : St) (x0 x1 x2 x3 x4 : Int), V G l mX13_spreads 3 [(0, (2, x0)), (1, (0, x1)), (2, (0, x2)), (3, (0, x3)), (4, (0, x4))] [] s (rk3 s x0 x1 x2 x3 x4)) (s : St) (x0 x1 x2 x3 x4 : Int) : V G l mX13_spreads 3 [(0, (2, x0)), (1, (0, x1)), (2, (0, x2)), (3, (0, x3)), (4, (0, x4))] [] s (X13_spreads_b3_body rk3 s x0 x1 x2 x3 x4) := by
  unfold X13_spreads_b3_body
  refine V_iload dec_X13_spreads.1.1.1.1.2.2 4 rfl ?_
  refine V_aload_n dec_X13_spreads.1.1.1.2.1 0 rfl ?_
  refine V_getR 13 3 nf_13_3 ft_13_3 fl_X13_303 dec_X13_spreads.1.1.1.2.2.1 ?_
  refine V_getIN RX13 12 2 nf_12_2 ft_12_2 fl_X13_193 dec_X13_spreads.1.1.1.2.2.2 ?_
  refine V_icmp_ge (tgt := 91) dec_X13_spreads.1.1.2.1.1 (by decide) ?_ ?_
  · exact V_vret rfl dec_X13_spreads.2.2.2.2.2.2
  · refine V_aload_n dec_X13_spreads.1.1.2.1.2.1 0 rfl ?_
    refine V_iload_n dec_X13_spreads.1.1.2.1.2.2 1 rfl ?_
    refine V_iload dec_X13_spreads.1.1.2.2.1 4 rfl ?_
    refine V_callV0 (ci := 13) (a := x0) (As := [(0, x1), (0, x4)]) (st := []) rfl rfl (X13_behind_s G l s x0 x1 x4) cal_X13_behind rfl ml_X13_392 rfl rfl dec_X13_spreads.1.1.2.2.2.1 (k_tag (tag := 0) rfl fun r1 s2 => ?_)
    refine V_istore (lv' := [(5, (0, r1)), (0, (2, x0)), (1, (0, x1)), (2, (0, x2)), (3, (0, x3)), (4, (0, x4))]) dec_X13_spreads.1.1.2.2.2.2 (by decide) rfl ?_
    refine V_iload dec_X13_spreads.1.2.1.1.1 0 rfl ?_
    refine V_bipush dec_X13_spreads.1.2.1.1.2.1 rfl ?_
    refine V_imul dec_X13_spreads.1.2.1.1.2.2 ?_
    refine V_iload dec_X13_spreads.1.2.1.2.1 5 rfl ?_
    refine V_iadd dec_X13_spreads.1.2.1.2.2.1 ?_
    refine V_letv fun y3 => ?_
    refine V_istore (lv' := [(6, (0, y3)), (5, (0, r1)), (0, (2, x0)), (1, (0, x1)), (2, (0, x2)), (3, (0, x3)), (4, (0, x4))]) dec_X13_spreads.1.2.1.2.2.2 (by decide) rfl ?_
    refine V_iload dec_X13_spreads.1.2.2.1.1 1 rfl ?_
    refine V_iload_n dec_X13_spreads.1.2.2.1.2.1 3 rfl ?_
    refine V_icmp_eq (tgt := 85) dec_X13_spreads.1.2.2.1.2.2 (by decide) ?_ ?_
    · exact V_pick [2, 3, 4, 5, 6] rfl (X13_spreads_b85_s G l rk3 hk3 s2 x0 x1 x2 x3 x4)
    · refine V_iload_n dec_X13_spreads.1.2.2.2.1.1 4 rfl ?_
      refine V_aload_n dec_X13_spreads.1.2.2.2.1.2 2 rfl ?_
      refine V_iload_n dec_X13_spreads.1.2.2.2.2.1 5 rfl ?_
      refine V_aload_n dec_X13_spreads.1.2.2.2.2.2 2 rfl ?_
      refine V_getR 13 16 nf_13_16 ft_13_16 fl_X13_21 dec_X13_spreads.2.1.1.1.1 ?_
      refine V_iload dec_X13_spreads.2.1.1.1.2.1 6 rfl ?_
      refine V_iald dec_X13_spreads.2.1.1.1.2.2 ?_
      refine V_callV0 (ci := 13) (a := x0) (As := [(0, x3), (0, (gI s2 (gR s2 x0 16) x4.toNat))]) (st := [(0, x2)]) rfl rfl (X13_apart_s G l s2 x0 x3 (gI s2 (gR s2 x0 16) x4.toNat)) cal_X13_apart rfl ml_X13_395 rfl rfl dec_X13_spreads.2.1.1.2.1 (k_tag (tag := 0) rfl fun r4 s5 => ?_)
      refine V_iadd dec_X13_spreads.2.1.1.2.2.1 ?_
      refine V_aload_n dec_X13_spreads.2.1.1.2.2.2 2 rfl ?_
      refine V_getR 13 24 nf_13_24 ft_13_24 fl_X13_36 dec_X13_spreads.2.1.2.1.1 ?_
      refine V_iload dec_X13_spreads.2.1.2.1.2.1 0 rfl ?_
      refine V_iald dec_X13_spreads.2.1.2.1.2.2 ?_
      refine V_icmp_ge (tgt := 85) dec_X13_spreads.2.1.2.2.1.1 (by decide) ?_ ?_
      · exact V_pick [2, 3, 4, 5, 6] rfl (X13_spreads_b85_s G l rk3 hk3 s5 x0 x1 x2 x3 x4)
      · refine V_aload_n dec_X13_spreads.2.1.2.2.1.2 2 rfl ?_
        refine V_getR 13 24 nf_13_24 ft_13_24 fl_X13_36 dec_X13_spreads.2.1.2.2.2.1 ?_
        refine V_iload dec_X13_spreads.2.1.2.2.2.2 0 rfl ?_
        refine V_iload_n dec_X13_spreads.2.2.1.1.1 4 rfl ?_
        refine V_aload_n dec_X13_spreads.2.2.1.1.2.1 2 rfl ?_
        refine V_iload_n dec_X13_spreads.2.2.1.1.2.2 5 rfl ?_
        refine V_aload_n dec_X13_spreads.2.2.1.2.1 2 rfl ?_
        refine V_getR 13 16 nf_13_16 ft_13_16 fl_X13_21 dec_X13_spreads.2.2.1.2.2.1 ?_
        refine V_iload dec_X13_spreads.2.2.1.2.2.2 6 rfl ?_
        refine V_iald dec_X13_spreads.2.2.2.1.1 ?_
        refine V_callV0 (ci := 13) (a := x0) (As := [(0, x3), (0, (gI s5 (gR s5 x0 16) x4.toNat))]) (st := [(0, x2), (0, y3), (2, (gR s5 x0 24))]) rfl rfl (X13_apart_s G l s5 x0 x3 (gI s5 (gR s5 x0 16) x4.toNat)) cal_X13_apart rfl ml_X13_395 rfl rfl dec_X13_spreads.2.2.2.1.2.1 (k_tag (tag := 0) rfl fun r6 s7 => ?_)
        refine V_iadd dec_X13_spreads.2.2.2.1.2.2 ?_
        refine V_iast dec_X13_spreads.2.2.2.2.1.1 ?_
        refine V_lets fun s8 => ?_
        exact V_pick [2, 3, 4, 5, 6] rfl (X13_spreads_b85_s G l rk3 hk3 s8 x0 x1 x2 x3 x4)
theorem X13_spreads_b3_s (G : Gx) (l : Launch) (n : Nat) (s : St) (x0 x1 x2 x3 x4 : Int) : V G l mX13_spreads 3 [(0, (2, x0)), (1, (0, x1)), (2, (0, x2)), (3, (0, x3)), (4, (0, x4))] [] s (X13_spreads_b3 n s x0 x1 x2 x3 x4) :=
  V_iter (LV := fun a : St × Int × Int × Int × Int × Int => [(0, (2, a.2.1)), (1, (0, a.2.2.1)), (2, (0, a.2.2.2.1)), (3, (0, a.2.2.2.2.1)), (4, (0, a.2.2.2.2.2))]) (ST := fun a : St × Int × Int × Int × Int × Int => []) (SS := fun a : St × Int × Int × Int × Int × Int => a.1) (fun rec hrec a => X13_spreads_b3_body_s G l (fun (s : St) (x0 x1 x2 x3 x4 : Int) => rec (s, x0, x1, x2, x3, x4)) (fun (s : St) (x0 x1 x2 x3 x4 : Int) => hrec (s, x0, x1, x2, x3, x4)) a.1 a.2.1 a.2.2.1 a.2.2.2.1 a.2.2.2.2.1 a.2.2.2.2.2) n (s, x0, x1, x2, x3, x4)
def X13_spreads (s : St) (a0 a1 a2 a3 : Int) : Rs :=
  X13_spreads_b3 FU s a0 a1 a2 a3 0
set_option maxRecDepth 100000 in
set_option maxHeartbeats 4000000 in
theorem X13_spreads_s (G : Gx) (l : Launch) (s : St) (a0 a1 a2 a3 : Int) : Snd G l mX13_spreads [(2, a0), (0, a1), (0, a2), (0, a3)] s (X13_spreads s a0 a1 a2 a3) := by
  refine Snd.of (by decide +kernel) rfl ?_
  show V G l mX13_spreads 0 [(0, (2, a0)), (1, (0, a1)), (2, (0, a2)), (3, (0, a3))] [] s _
  unfold X13_spreads
  refine V_iconst dec_X13_spreads.1.1.1.1.1 rfl ?_
  refine V_istore (lv' := [(4, (0, 0)), (0, (2, a0)), (1, (0, a1)), (2, (0, a2)), (3, (0, a3))]) dec_X13_spreads.1.1.1.1.2.1 (by decide) rfl ?_
  exact V_pick [1, 2, 3, 4, 0] rfl (X13_spreads_b3_s G l FU s a0 a1 a2 a3 0)
theorem dec_X13_brings : ((((((decode cX13_brings 0 = .ok (.iconst 1, 1) ∧ (decode cX13_brings 1 = .ok (.istore_n 3, 1) ∧ decode cX13_brings 2 = .ok (.iconst 0, 1))) ∧ ((decode cX13_brings 3 = .ok (.istore 4, 2) ∧ decode cX13_brings 5 = .ok (.iconst 0, 1)) ∧ (decode cX13_brings 6 = .ok (.istore 5, 2) ∧ decode cX13_brings 8 = .ok (.iload 5, 2)))) ∧ (((decode cX13_brings 10 = .ok (.aload_n 0, 1) ∧ decode cX13_brings 11 = .ok (.getfield 303, 3)) ∧ (decode cX13_brings 14 = .ok (.getfield 241, 3) ∧ decode cX13_brings 17 = .ok (.if_icmp .ge 59, 3))) ∧ ((decode cX13_brings 20 = .ok (.aload_n 0, 1) ∧ decode cX13_brings 21 = .ok (.getfield 39, 3)) ∧ (decode cX13_brings 24 = .ok (.iload 5, 2) ∧ decode cX13_brings 26 = .ok (.aload_n 0, 1))))) ∧ (((decode cX13_brings 27 = .ok (.iload 5, 2) ∧ (decode cX13_brings 29 = .ok (.iload_n 2, 1) ∧ decode cX13_brings 30 = .ok (.invokevirtual 333, 3))) ∧ ((decode cX13_brings 33 = .ok (.iastore, 1) ∧ decode cX13_brings 34 = .ok (.iload 4, 2)) ∧ (decode cX13_brings 36 = .ok (.aload_n 0, 1) ∧ decode cX13_brings 37 = .ok (.getfield 39, 3)))) ∧ (((decode cX13_brings 40 = .ok (.iload 5, 2) ∧ decode cX13_brings 42 = .ok (.iaload, 1)) ∧ (decode cX13_brings 43 = .ok (.aload_n 0, 1) ∧ decode cX13_brings 44 = .ok (.getfield 303, 3))) ∧ ((decode cX13_brings 47 = .ok (.getfield 263, 3) ∧ decode cX13_brings 50 = .ok (.iload 5, 2)) ∧ (decode cX13_brings 52 = .ok (.iaload, 1) ∧ decode cX13_brings 53 = .ok (.if_icmp .ne 9, 3)))))) ∧ ((((decode cX13_brings 56 = .ok (.iconst 2, 1) ∧ (decode cX13_brings 57 = .ok (.iload_n 3, 1) ∧ decode cX13_brings 58 = .ok (.imul, 1))) ∧ ((decode cX13_brings 59 = .ok (.goto 4, 3) ∧ decode cX13_brings 62 = .ok (.iconst 0, 1)) ∧ (decode cX13_brings 63 = .ok (.iadd, 1) ∧ decode cX13_brings 64 = .ok (.istore 4, 2)))) ∧ (((decode cX13_brings 66 = .ok (.iload_n 3, 1) ∧ decode cX13_brings 67 = .ok (.iconst 3, 1)) ∧ (decode cX13_brings 68 = .ok (.imul, 1) ∧ decode cX13_brings 69 = .ok (.istore_n 3, 1))) ∧ ((decode cX13_brings 70 = .ok (.iinc 5 1, 3) ∧ decode cX13_brings 73 = .ok (.goto (-65), 3)) ∧ (decode cX13_brings 76 = .ok (.iconst 0, 1) ∧ decode cX13_brings 77 = .ok (.istore 5, 2))))) ∧ (((decode cX13_brings 79 = .ok (.iload 5, 2) ∧ (decode cX13_brings 81 = .ok (.iload_n 3, 1) ∧ decode cX13_brings 82 = .ok (.bipush 7, 2))) ∧ ((decode cX13_brings 84 = .ok (.imul, 1) ∧ decode cX13_brings 85 = .ok (.if_icmp .ge 19, 3)) ∧ (decode cX13_brings 88 = .ok (.aload_n 0, 1) ∧ decode cX13_brings 89 = .ok (.getfield 36, 3)))) ∧ (((decode cX13_brings 92 = .ok (.iload 5, 2) ∧ decode cX13_brings 94 = .ok (.sipush 9999, 3)) ∧ (decode cX13_brings 97 = .ok (.iastore, 1) ∧ decode cX13_brings 98 = .ok (.iinc 5 1, 3))) ∧ ((decode cX13_brings 101 = .ok (.goto (-22), 3) ∧ decode cX13_brings 104 = .ok (.aload_n 0, 1)) ∧ (decode cX13_brings 105 = .ok (.getfield 36, 3) ∧ decode cX13_brings 108 = .ok (.iload 4, 2))))))) ∧ (((((decode cX13_brings 110 = .ok (.bipush 7, 2) ∧ (decode cX13_brings 112 = .ok (.imul, 1) ∧ decode cX13_brings 113 = .ok (.bipush 6, 2))) ∧ ((decode cX13_brings 115 = .ok (.iadd, 1) ∧ decode cX13_brings 116 = .ok (.iconst 0, 1)) ∧ (decode cX13_brings 117 = .ok (.iastore, 1) ∧ decode cX13_brings 118 = .ok (.sipush 9999, 3)))) ∧ (((decode cX13_brings 121 = .ok (.istore 5, 2) ∧ decode cX13_brings 123 = .ok (.iload 4, 2)) ∧ (decode cX13_brings 125 = .ok (.istore 6, 2) ∧ decode cX13_brings 127 = .ok (.iload 6, 2))) ∧ ((decode cX13_brings 129 = .ok (.iload_n 3, 1) ∧ decode cX13_brings 130 = .ok (.if_icmp .ge 96, 3)) ∧ (decode cX13_brings 133 = .ok (.iconst 0, 1) ∧ decode cX13_brings 134 = .ok (.istore 7, 2))))) ∧ (((decode cX13_brings 136 = .ok (.iload 7, 2) ∧ (decode cX13_brings 138 = .ok (.bipush 6, 2) ∧ decode cX13_brings 140 = .ok (.if_icmp .gt 80, 3))) ∧ ((decode cX13_brings 143 = .ok (.aload_n 0, 1) ∧ decode cX13_brings 144 = .ok (.getfield 36, 3)) ∧ (decode cX13_brings 147 = .ok (.iload 6, 2) ∧ decode cX13_brings 149 = .ok (.bipush 7, 2)))) ∧ (((decode cX13_brings 151 = .ok (.imul, 1) ∧ decode cX13_brings 152 = .ok (.iload 7, 2)) ∧ (decode cX13_brings 154 = .ok (.iadd, 1) ∧ decode cX13_brings 155 = .ok (.iaload, 1))) ∧ ((decode cX13_brings 156 = .ok (.istore 8, 2) ∧ decode cX13_brings 158 = .ok (.iload 8, 2)) ∧ (decode cX13_brings 160 = .ok (.sipush 9999, 3) ∧ decode cX13_brings 163 = .ok (.if_icmp .ne 6, 3)))))) ∧ ((((decode cX13_brings 166 = .ok (.goto 48, 3) ∧ (decode cX13_brings 169 = .ok (.iload 6, 2) ∧ decode cX13_brings 171 = .ok (.iload_n 3, 1))) ∧ ((decode cX13_brings 172 = .ok (.iconst 1, 1) ∧ decode cX13_brings 173 = .ok (.isub, 1)) ∧ (decode cX13_brings 174 = .ok (.if_icmp .ne 14, 3) ∧ decode cX13_brings 177 = .ok (.iload 8, 2)))) ∧ (((decode cX13_brings 179 = .ok (.iload 5, 2) ∧ decode cX13_brings 181 = .ok (.if_icmp .ge 7, 3)) ∧ (decode cX13_brings 184 = .ok (.iload 8, 2) ∧ decode cX13_brings 186 = .ok (.istore 5, 2))) ∧ ((decode cX13_brings 188 = .ok (.aload_n 0, 1) ∧ decode cX13_brings 189 = .ok (.iload 6, 2)) ∧ (decode cX13_brings 191 = .ok (.iload 8, 2) ∧ decode cX13_brings 193 = .ok (.iload 7, 2))))) ∧ (((decode cX13_brings 195 = .ok (.bipush 6, 2) ∧ (decode cX13_brings 197 = .ok (.if_icmp .ne 7, 3) ∧ decode cX13_brings 200 = .ok (.iload_n 1, 1))) ∧ ((decode cX13_brings 201 = .ok (.goto 10, 3) ∧ decode cX13_brings 204 = .ok (.aload_n 0, 1)) ∧ (decode cX13_brings 205 = .ok (.getfield 21, 3) ∧ decode cX13_brings 208 = .ok (.iload 7, 2)))) ∧ (((decode cX13_brings 210 = .ok (.iaload, 1) ∧ decode cX13_brings 211 = .ok (.invokevirtual 388, 3)) ∧ (decode cX13_brings 214 = .ok (.iinc 7 1, 3) ∧ decode cX13_brings 217 = .ok (.goto (-81), 3))) ∧ ((decode cX13_brings 220 = .ok (.iinc 6 1, 3) ∧ decode cX13_brings 223 = .ok (.goto (-96), 3)) ∧ (decode cX13_brings 226 = .ok (.iload 5, 2) ∧ decode cX13_brings 228 = .ok (.ireturn, 1)))))))) := ⟨⟨⟨⟨by decide +kernel, by decide +kernel⟩, ⟨by decide +kernel, by decide +kernel⟩⟩, ⟨⟨by decide +kernel, by decide +kernel⟩, ⟨by decide +kernel, by decide +kernel⟩⟩⟩, ⟨⟨⟨by decide +kernel, by decide +kernel⟩, ⟨by decide +kernel, by decide +kernel⟩⟩, ⟨⟨by decide +kernel, by decide +kernel⟩, ⟨by decide +kernel, by decide +kernel⟩⟩⟩⟩
def X13_brings_b214 (rk127 : St → Int → Int → Int → Int → Int → Rs) (rk136 : St → Int → Int → Int → Int → Int → Int → Rs) (s : St) (x0 x1 x3 x5 x6 x7 : Int) : Rs :=
  rk136 s x0 x1 x3 x5 x6 (w32 (x7 + 1))
set_option maxRecDepth 100000 in
set_option maxHeartbeats 4000000 in
theorem X13_brings_b214_s (G : Gx) (l : Launch) (rk127 : St → Int → Int → Int → Int → Int → Rs) (rk136 : St → Int → Int → Int → Int → Int → Int → Rs) (hk127 : ∀ (s : St) (x0 x1 x3 x5 x6 : Int), V G l mX13_brings 127 [(0, (2, x0)), (1, (0, x1)), (3, (0, x3)), (5, (0, x5)), (6, (0, x6))] [] s (rk127 s x0 x1 x3 x5 x6)) (hk136 : ∀ (s : St) (x0 x1 x3 x5 x6 x7 : Int), V G l mX13_brings 136 [(0, (2, x0)), (1, (0, x1)), (3, (0, x3)), (5, (0, x5)), (6, (0, x6)), (7, (0, x7))] [] s (rk136 s x0 x1 x3 x5 x6 x7)) (s : St) (x0 x1 x3 x5 x6 x7 : Int) : V G l mX13_brings 214 [(0, (2, x0)), (1, (0, x1)), (3, (0, x3)), (5, (0, x5)), (6, (0, x6)), (7, (0, x7))] [] s (X13_brings_b214 rk127 rk136 s x0 x1 x3 x5 x6 x7) := by
  unfold X13_brings_b214
  refine V_iinc (lv' := [(7, (0, (w32 (x7 + 1)))), (0, (2, x0)), (1, (0, x1)), (3, (0, x3)), (5, (0, x5)), (6, (0, x6))]) dec_X13_brings.2.2.2.2.1.2.1 5 rfl (by decide) rfl ?_
  refine V_goto (tgt := 136) dec_X13_brings.2.2.2.2.1.2.2 (by decide) ?_
  exact V_pick [1, 2, 3, 4, 5, 0] rfl (hk136 s x0 x1 x3 x5 x6 (w32 (x7 + 1)))
def X13_brings_b211 (rk127 : St → Int → Int → Int → Int → Int → Rs) (rk136 : St → Int → Int → Int → Int → Int → Int → Rs) (s : St) (x0 x1 x3 x5 x6 x7 k0 k1 k2 k3 : Int) : Rs :=
  grd (isK s 23 k3) (bnd (X13_spreads s k3 k2 k1 k0) (fun r3 s4 => X13_brings_b214 rk127 rk136 s4 x0 x1 x3 x5 x6 x7))
set_option maxRecDepth 100000 in
set_option maxHeartbeats 4000000 in
theorem X13_brings_b211_s (G : Gx) (l : Launch) (rk127 : St → Int → Int → Int → Int → Int → Rs) (rk136 : St → Int → Int → Int → Int → Int → Int → Rs) (hk127 : ∀ (s : St) (x0 x1 x3 x5 x6 : Int), V G l mX13_brings 127 [(0, (2, x0)), (1, (0, x1)), (3, (0, x3)), (5, (0, x5)), (6, (0, x6))] [] s (rk127 s x0 x1 x3 x5 x6)) (hk136 : ∀ (s : St) (x0 x1 x3 x5 x6 x7 : Int), V G l mX13_brings 136 [(0, (2, x0)), (1, (0, x1)), (3, (0, x3)), (5, (0, x5)), (6, (0, x6)), (7, (0, x7))] [] s (rk136 s x0 x1 x3 x5 x6 x7)) (s : St) (x0 x1 x3 x5 x6 x7 k0 k1 k2 k3 : Int) : V G l mX13_brings 211 [(0, (2, x0)), (1, (0, x1)), (3, (0, x3)), (5, (0, x5)), (6, (0, x6)), (7, (0, x7))] [(0, k0), (0, k1), (0, k2), (2, k3)] s (X13_brings_b211 rk127 rk136 s x0 x1 x3 x5 x6 x7 k0 k1 k2 k3) := by
  unfold X13_brings_b211
  refine V_callV0 (ci := 13) (a := k3) (As := [(0, k2), (0, k1), (0, k0)]) (st := []) rfl rfl (X13_spreads_s G l s k3 k2 k1 k0) cal_X13_spreads rfl ml_X13_388 rfl rfl dec_X13_brings.2.2.2.2.1.1.2 (k_void rfl fun r3 s4 => ?_)
  exact V_pick [0, 1, 2, 3, 4, 5] rfl (X13_brings_b214_s G l rk127 rk136 hk127 hk136 s4 x0 x1 x3 x5 x6 x7)
def X13_brings_b188 (rk127 : St → Int → Int → Int → Int → Int → Rs) (rk136 : St → Int → Int → Int → Int → Int → Int → Rs) (s : St) (x0 x1 x3 x5 x6 x7 x8 : Int) : Rs :=
  if ¬ x7 = (6 : Int) then (grd (isK s 23 x0) (grd (isK s 1 (gR s x0 16) ∧ 0 ≤ x7 ∧ x7 < ln s (gR s x0 16)) (X13_brings_b211 rk127 rk136 s x0 x1 x3 x5 x6 x7 (gI s (gR s x0 16) x7.toNat) x8 x6 x0))) else (X13_brings_b211 rk127 rk136 s x0 x1 x3 x5 x6 x7 x1 x8 x6 x0)
set_option maxRecDepth 100000 in
set_option maxHeartbeats 4000000 in
theorem X13_brings_b188_s (G : Gx) (l : Launch) (rk127 : St → Int → Int → Int → Int → Int → Rs) (rk136 : St → Int → Int → Int → Int → Int → Int → Rs) (hk127 : ∀ (s : St) (x0 x1 x3 x5 x6 : Int), V G l mX13_brings 127 [(0, (2, x0)), (1, (0, x1)), (3, (0, x3)), (5, (0, x5)), (6, (0, x6))] [] s (rk127 s x0 x1 x3 x5 x6)) (hk136 : ∀ (s : St) (x0 x1 x3 x5 x6 x7 : Int), V G l mX13_brings 136 [(0, (2, x0)), (1, (0, x1)), (3, (0, x3)), (5, (0, x5)), (6, (0, x6)), (7, (0, x7))] [] s (rk136 s x0 x1 x3 x5 x6 x7)) (s : St) (x0 x1 x3 x5 x6 x7 x8 : Int) : V G l mX13_brings 188 [(0, (2, x0)), (1, (0, x1)), (3, (0, x3)), (5, (0, x5)), (6, (0, x6)), (7, (0, x7)), (8, (0, x8))] [] s (X13_brings_b188 rk127 rk136 s x0 x1 x3 x5 x6 x7 x8) := by
  unfold X13_brings_b188
  refine V_aload_n dec_X13_brings.2.2.1.2.2.1.1 0 rfl ?_
  refine V_iload dec_X13_brings.2.2.1.2.2.1.2 4 rfl ?_
  refine V_iload dec_X13_brings.2.2.1.2.2.2.1 6 rfl ?_
  refine V_iload dec_X13_brings.2.2.1.2.2.2.2 5 rfl ?_
  refine V_bipush dec_X13_brings.2.2.2.1.1.1 rfl ?_
  refine V_icmp_ne (tgt := 204) dec_X13_brings.2.2.2.1.1.2.1 (by decide) ?_ ?_
  · refine V_aload_n dec_X13_brings.2.2.2.1.2.1.2 0 rfl ?_
    refine V_getR 13 16 nf_13_16 ft_13_16 fl_X13_21 dec_X13_brings.2.2.2.1.2.2.1 ?_
    refine V_iload dec_X13_brings.2.2.2.1.2.2.2 5 rfl ?_
    refine V_iald dec_X13_brings.2.2.2.2.1.1.1 ?_
    exact V_pick [0, 1, 2, 3, 4, 5] rfl (X13_brings_b211_s G l rk127 rk136 hk127 hk136 s x0 x1 x3 x5 x6 x7 (gI s (gR s x0 16) x7.toNat) x8 x6 x0)
  · refine V_iload_n dec_X13_brings.2.2.2.1.1.2.2 1 rfl ?_
    refine V_goto (tgt := 211) dec_X13_brings.2.2.2.1.2.1.1 (by decide) ?_
    exact V_pick [0, 1, 2, 3, 4, 5] rfl (X13_brings_b211_s G l rk127 rk136 hk127 hk136 s x0 x1 x3 x5 x6 x7 x1 x8 x6 x0)
def X13_brings_b136_body (rk127 : St → Int → Int → Int → Int → Int → Rs) (rk136 : St → Int → Int → Int → Int → Int → Int → Rs) (s : St) (x0 x1 x3 x5 x6 x7 : Int) : Rs :=
  if (6 : Int) < x7 then (rk127 s x0 x1 x3 x5 (w32 (x6 + 1))) else (grd (isK s 23 x0) (grd (isK s 1 (gR s x0 24) ∧ 0 ≤ (w32 ((w32 (x6 * 7)) + x7)) ∧ (w32 ((w32 (x6 * 7)) + x7)) < ln s (gR s x0 24)) (letv (gI s (gR s x0 24) (w32 ((w32 (x6 * 7)) + x7)).toNat) (fun y2 => if ¬ y2 = (9999 : Int) then (if ¬ x6 = (w32 (x3 - 1)) then (X13_brings_b188 rk127 rk136 s x0 x1 x3 x5 x6 x7 y2) else (if x5 ≤ y2 then (X13_brings_b188 rk127 rk136 s x0 x1 x3 x5 x6 x7 y2) else (X13_brings_b188 rk127 rk136 s x0 x1 x3 y2 x6 x7 y2))) else (X13_brings_b214 rk127 rk136 s x0 x1 x3 x5 x6 x7)))))
def X13_brings_b136 (rk127 : St → Int → Int → Int → Int → Int → Rs) (n : Nat) (s : St) (x0 x1 x3 x5 x6 x7 : Int) : Rs := iter (fun (rec : St × Int × Int × Int × Int × Int × Int → Rs) (a : St × Int × Int × Int × Int × Int × Int) => X13_brings_b136_body rk127 (fun (s : St) (x0 x1 x3 x5 x6 x7 : Int) => rec (s, x0, x1, x3, x5, x6, x7)) a.1 a.2.1 a.2.2.1 a.2.2.2.1 a.2.2.2.2.1 a.2.2.2.2.2.1 a.2.2.2.2.2.2) n (s, x0, x1, x3, x5, x6, x7)
theorem X13_brings_b136_0 (rk127 : St → Int → Int → Int → Int → Int → Rs) (s : St) (x0 x1 x3 x5 x6 x7 : Int) : X13_brings_b136 rk127 0 s x0 x1 x3 x5 x6 x7 = none := rfl
theorem X13_brings_b136_1 (rk127 : St → Int → Int → Int → Int → Int → Rs) (n : Nat) (s : St) (x0 x1 x3 x5 x6 x7 : Int) : X13_brings_b136 rk127 (n + 1) s x0 x1 x3 x5 x6 x7 = X13_brings_b136_body rk127 (X13_brings_b136 rk127 n) s x0 x1 x3 x5 x6 x7 := rfl
set_option maxRecDepth 100000 in
set_option maxHeartbeats 4000000 in
theorem X13_brings_b136_body_s (G : Gx) (l : Launch) (rk127 : St → Int → Int → Int → Int → Int → Rs) (rk136 : St → Int → Int → Int → Int → Int → Int → Rs) (hk127 : ∀ (s : St) (x0 x1 x3 x5 x6 : Int), V G l mX13_brings 127 [(0, (2, x0)), (1, (0, x1)), (3, (0, x3)), (5, (0, x5)), (6, (0, x6))] [] s (rk127 s x0 x1 x3 x5 x6)) (hk136 : ∀ (s : St) (x0 x1 x3 x5 x6 x7 : Int), V G l mX13_brings 136 [(0, (2, x0)), (1, (0, x1)), (3, (0, x3)), (5, (0, x5)), (6, (0, x6)), (7, (0, x7))] [] s (rk136 s x0 x1 x3 x5 x6 x7)) (s : St) (x0 x1 x3 x5 x6 x7 : Int) : V G l mX13_brings 136 [(0, (2, x0)), (1, (0, x1)), (3, (0, x3)), (5, (0, x5)), (6, (0, x6)), (7, (0, x7))] [] s (X13_brings_b136_body rk127 rk136 s x0 x1 x3 x5 x6 x7) := by
  unfold X13_brings_b136_body
  refine V_iload dec_X13_brings.2.1.2.1.1.1 5 rfl ?_
  refine V_bipush dec_X13_brings.2.1.2.1.1.2.1 rfl ?_
  refine V_icmp_gt (tgt := 220) dec_X13_brings.2.1.2.1.1.2.2 (by decide) ?_ ?_
  · refine V_iinc (lv' := [(6, (0, (w32 (x6 + 1)))), (0, (2, x0)), (1, (0, x1)), (3, (0, x3)), (5, (0, x5)), (7, (0, x7))]) dec_X13_brings.2.2.2.2.2.1.1 4 rfl (by decide) rfl ?_
    refine V_goto (tgt := 127) dec_X13_brings.2.2.2.2.2.1.2 (by decide) ?_
    exact V_pick [1, 2, 3, 4, 0] rfl (hk127 s x0 x1 x3 x5 (w32 (x6 + 1)))
  · refine V_aload_n dec_X13_brings.2.1.2.1.2.1.1 0 rfl ?_
    refine V_getR 13 24 nf_13_24 ft_13_24 fl_X13_36 dec_X13_brings.2.1.2.1.2.1.2 ?_
    refine V_iload dec_X13_brings.2.1.2.1.2.2.1 4 rfl ?_
    refine V_bipush dec_X13_brings.2.1.2.1.2.2.2 rfl ?_
    refine V_imul dec_X13_brings.2.1.2.2.1.1.1 ?_
    refine V_iload dec_X13_brings.2.1.2.2.1.1.2 5 rfl ?_
    refine V_iadd dec_X13_brings.2.1.2.2.1.2.1 ?_
    refine V_iald dec_X13_brings.2.1.2.2.1.2.2 ?_
    refine V_letv fun y2 => ?_
    refine V_istore (lv' := [(8, (0, y2)), (0, (2, x0)), (1, (0, x1)), (3, (0, x3)), (5, (0, x5)), (6, (0, x6)), (7, (0, x7))]) dec_X13_brings.2.1.2.2.2.1.1 (by decide) rfl ?_
    refine V_iload dec_X13_brings.2.1.2.2.2.1.2 0 rfl ?_
    refine V_sipush dec_X13_brings.2.1.2.2.2.2.1 rfl ?_
    refine V_icmp_ne (tgt := 169) dec_X13_brings.2.1.2.2.2.2.2 (by decide) ?_ ?_
    · refine V_iload dec_X13_brings.2.2.1.1.1.2.1 5 rfl ?_
      refine V_iload_n dec_X13_brings.2.2.1.1.1.2.2 3 rfl ?_
      refine V_iconst dec_X13_brings.2.2.1.1.2.1.1 rfl ?_
      refine V_isub dec_X13_brings.2.2.1.1.2.1.2 ?_
      refine V_icmp_ne (tgt := 188) dec_X13_brings.2.2.1.1.2.2.1 (by decide) ?_ ?_
      · exact V_pick [1, 2, 3, 4, 5, 6, 0] rfl (X13_brings_b188_s G l rk127 rk136 hk127 hk136 s x0 x1 x3 x5 x6 x7 y2)
      · refine V_iload dec_X13_brings.2.2.1.1.2.2.2 0 rfl ?_
        refine V_iload dec_X13_brings.2.2.1.2.1.1.1 4 rfl ?_
        refine V_icmp_ge (tgt := 188) dec_X13_brings.2.2.1.2.1.1.2 (by decide) ?_ ?_
        · exact V_pick [1, 2, 3, 4, 5, 6, 0] rfl (X13_brings_b188_s G l rk127 rk136 hk127 hk136 s x0 x1 x3 x5 x6 x7 y2)
        · refine V_iload dec_X13_brings.2.2.1.2.1.2.1 0 rfl ?_
          refine V_istore (lv' := [(5, (0, y2)), (8, (0, y2)), (0, (2, x0)), (1, (0, x1)), (3, (0, x3)), (6, (0, x6)), (7, (0, x7))]) dec_X13_brings.2.2.1.2.1.2.2 (by decide) rfl ?_
          exact V_pick [2, 3, 4, 0, 5, 6, 1] rfl (X13_brings_b188_s G l rk127 rk136 hk127 hk136 s x0 x1 x3 y2 x6 x7 y2)
    · refine V_goto (tgt := 214) dec_X13_brings.2.2.1.1.1.1 (by decide) ?_
      exact V_pick [1, 2, 3, 4, 5, 6] rfl (X13_brings_b214_s G l rk127 rk136 hk127 hk136 s x0 x1 x3 x5 x6 x7)
theorem X13_brings_b136_s (G : Gx) (l : Launch) (rk127 : St → Int → Int → Int → Int → Int → Rs) (hk127 : ∀ (s : St) (x0 x1 x3 x5 x6 : Int), V G l mX13_brings 127 [(0, (2, x0)), (1, (0, x1)), (3, (0, x3)), (5, (0, x5)), (6, (0, x6))] [] s (rk127 s x0 x1 x3 x5 x6)) (n : Nat) (s : St) (x0 x1 x3 x5 x6 x7 : Int) : V G l mX13_brings 136 [(0, (2, x0)), (1, (0, x1)), (3, (0, x3)), (5, (0, x5)), (6, (0, x6)), (7, (0, x7))] [] s (X13_brings_b136 rk127 n s x0 x1 x3 x5 x6 x7) :=
  V_iter (LV := fun a : St × Int × Int × Int × Int × Int × Int => [(0, (2, a.2.1)), (1, (0, a.2.2.1)), (3, (0, a.2.2.2.1)), (5, (0, a.2.2.2.2.1)), (6, (0, a.2.2.2.2.2.1)), (7, (0, a.2.2.2.2.2.2))]) (ST := fun a : St × Int × Int × Int × Int × Int × Int => []) (SS := fun a : St × Int × Int × Int × Int × Int × Int => a.1) (fun rec hrec a => X13_brings_b136_body_s G l rk127 (fun (s : St) (x0 x1 x3 x5 x6 x7 : Int) => rec (s, x0, x1, x3, x5, x6, x7)) hk127 (fun (s : St) (x0 x1 x3 x5 x6 x7 : Int) => hrec (s, x0, x1, x3, x5, x6, x7)) a.1 a.2.1 a.2.2.1 a.2.2.2.1 a.2.2.2.2.1 a.2.2.2.2.2.1 a.2.2.2.2.2.2) n (s, x0, x1, x3, x5, x6, x7)
def X13_brings_b127_body (rk127 : St → Int → Int → Int → Int → Int → Rs) (s : St) (x0 x1 x3 x5 x6 : Int) : Rs :=
  if x3 ≤ x6 then (some (x5, s)) else (X13_brings_b136 rk127 FU s x0 x1 x3 x5 x6 0)
def X13_brings_b127 (n : Nat) (s : St) (x0 x1 x3 x5 x6 : Int) : Rs := iter (fun (rec : St × Int × Int × Int × Int × Int → Rs) (a : St × Int × Int × Int × Int × Int) => X13_brings_b127_body (fun (s : St) (x0 x1 x3 x5 x6 : Int) => rec (s, x0, x1, x3, x5, x6)) a.1 a.2.1 a.2.2.1 a.2.2.2.1 a.2.2.2.2.1 a.2.2.2.2.2) n (s, x0, x1, x3, x5, x6)
theorem X13_brings_b127_0 (s : St) (x0 x1 x3 x5 x6 : Int) : X13_brings_b127 0 s x0 x1 x3 x5 x6 = none := rfl
theorem X13_brings_b127_1 (n : Nat) (s : St) (x0 x1 x3 x5 x6 : Int) : X13_brings_b127 (n + 1) s x0 x1 x3 x5 x6 = X13_brings_b127_body (X13_brings_b127 n) s x0 x1 x3 x5 x6 := rfl
set_option maxRecDepth 100000 in
set_option maxHeartbeats 4000000 in
theorem X13_brings_b127_body_s (G : Gx) (l : Launch) (rk127 : St → Int → Int → Int → Int → Int → Rs) (hk127 : ∀ (s : St) (x0 x1 x3 x5 x6 : Int), V G l mX13_brings 127 [(0, (2, x0)), (1, (0, x1)), (3, (0, x3)), (5, (0, x5)), (6, (0, x6))] [] s (rk127 s x0 x1 x3 x5 x6)) (s : St) (x0 x1 x3 x5 x6 : Int) : V G l mX13_brings 127 [(0, (2, x0)), (1, (0, x1)), (3, (0, x3)), (5, (0, x5)), (6, (0, x6))] [] s (X13_brings_b127_body rk127 s x0 x1 x3 x5 x6) := by
  unfold X13_brings_b127_body
  refine V_iload dec_X13_brings.2.1.1.2.1.2.2 4 rfl ?_
  refine V_iload_n dec_X13_brings.2.1.1.2.2.1.1 2 rfl ?_
  refine V_icmp_ge (tgt := 226) dec_X13_brings.2.1.1.2.2.1.2 (by decide) ?_ ?_
  · refine V_iload dec_X13_brings.2.2.2.2.2.2.1 3 rfl ?_
    exact V_iret rfl dec_X13_brings.2.2.2.2.2.2.2
  · refine V_iconst dec_X13_brings.2.1.1.2.2.2.1 rfl ?_
    refine V_istore (lv' := [(7, (0, 0)), (0, (2, x0)), (1, (0, x1)), (3, (0, x3)), (5, (0, x5)), (6, (0, x6))]) dec_X13_brings.2.1.1.2.2.2.2 (by decide) rfl ?_
    exact V_pick [1, 2, 3, 4, 5, 0] rfl (X13_brings_b136_s G l rk127 hk127 FU s x0 x1 x3 x5 x6 0)
theorem X13_brings_b127_s (G : Gx) (l : Launch) (n : Nat) (s : St) (x0 x1 x3 x5 x6 : Int) : V G l mX13_brings 127 [(0, (2, x0)), (1, (0, x1)), (3, (0, x3)), (5, (0, x5)), (6, (0, x6))] [] s (X13_brings_b127 n s x0 x1 x3 x5 x6) :=
  V_iter (LV := fun a : St × Int × Int × Int × Int × Int => [(0, (2, a.2.1)), (1, (0, a.2.2.1)), (3, (0, a.2.2.2.1)), (5, (0, a.2.2.2.2.1)), (6, (0, a.2.2.2.2.2))]) (ST := fun a : St × Int × Int × Int × Int × Int => []) (SS := fun a : St × Int × Int × Int × Int × Int => a.1) (fun rec hrec a => X13_brings_b127_body_s G l (fun (s : St) (x0 x1 x3 x5 x6 : Int) => rec (s, x0, x1, x3, x5, x6)) (fun (s : St) (x0 x1 x3 x5 x6 : Int) => hrec (s, x0, x1, x3, x5, x6)) a.1 a.2.1 a.2.2.1 a.2.2.2.1 a.2.2.2.2.1 a.2.2.2.2.2) n (s, x0, x1, x3, x5, x6)
def X13_brings_b79_body (rk79 : St → Int → Int → Int → Int → Int → Rs) (s : St) (x0 x1 x3 x4 x5 : Int) : Rs :=
  if (w32 (x3 * 7)) ≤ x5 then (grd (isK s 23 x0) (grd (isK s 1 (gR s x0 24) ∧ 0 ≤ (w32 ((w32 (x4 * 7)) + 6)) ∧ (w32 ((w32 (x4 * 7)) + 6)) < ln s (gR s x0 24)) (lets (pI s (gR s x0 24) (w32 ((w32 (x4 * 7)) + 6)).toNat 0) (fun s1 => X13_brings_b127 FU s1 x0 x1 x3 9999 x4)))) else (grd (isK s 23 x0) (grd (isK s 1 (gR s x0 24) ∧ 0 ≤ x5 ∧ x5 < ln s (gR s x0 24)) (lets (pI s (gR s x0 24) x5.toNat 9999) (fun s5 => rk79 s5 x0 x1 x3 x4 (w32 (x5 + 1))))))
def X13_brings_b79 (n : Nat) (s : St) (x0 x1 x3 x4 x5 : Int) : Rs := iter (fun (rec : St × Int × Int × Int × Int × Int → Rs) (a : St × Int × Int × Int × Int × Int) => X13_brings_b79_body (fun (s : St) (x0 x1 x3 x4 x5 : Int) => rec (s, x0, x1, x3, x4, x5)) a.1 a.2.1 a.2.2.1 a.2.2.2.1 a.2.2.2.2.1 a.2.2.2.2.2) n (s, x0, x1, x3, x4, x5)
theorem X13_brings_b79_0 (s : St) (x0 x1 x3 x4 x5 : Int) : X13_brings_b79 0 s x0 x1 x3 x4 x5 = none := rfl
theorem X13_brings_b79_1 (n : Nat) (s : St) (x0 x1 x3 x4 x5 : Int) : X13_brings_b79 (n + 1) s x0 x1 x3 x4 x5 = X13_brings_b79_body (X13_brings_b79 n) s x0 x1 x3 x4 x5 := rfl
set_option maxRecDepth 100000 in
set_option maxHeartbeats 4000000 in
theorem X13_brings_b79_body_s (G : Gx) (l : Launch) (rk79 : St → Int → Int → Int → Int → Int → Rs) (hk79 : ∀ (s : St) (x0 x1 x3 x4 x5 : Int), V G l mX13_brings 79 [(0, (2, x0)), (1, (0, x1)), (3, (0, x3)), (4, (0, x4)), (5, (0, x5))] [] s (rk79 s x0 x1 x3 x4 x5)) (s : St) (x0 x1 x3 x4 x5 : Int) : V G l mX13_brings 79 [(0, (2, x0)), (1, (0, x1)), (3, (0, x3)), (4, (0, x4)), (5, (0, x5))] [] s (X13_brings_b79_body rk79 s x0 x1 x3 x4 x5) := by
  unfold X13_brings_b79_body
  refine V_iload dec_X13_brings.1.2.2.1.1.1 4 rfl ?_
  refine V_iload_n dec_X13_brings.1.2.2.1.1.2.1 2 rfl ?_
  refine V_bipush dec_X13_brings.1.2.2.1.1.2.2 rfl ?_
  refine V_imul dec_X13_brings.1.2.2.1.2.1.1 ?_
  refine V_icmp_ge (tgt := 104) dec_X13_brings.1.2.2.1.2.1.2 (by decide) ?_ ?_
  · refine V_aload_n dec_X13_brings.1.2.2.2.2.1.2 0 rfl ?_
    refine V_getR 13 24 nf_13_24 ft_13_24 fl_X13_36 dec_X13_brings.1.2.2.2.2.2.1 ?_
    refine V_iload dec_X13_brings.1.2.2.2.2.2.2 3 rfl ?_
    refine V_bipush dec_X13_brings.2.1.1.1.1.1 rfl ?_
    refine V_imul dec_X13_brings.2.1.1.1.1.2.1 ?_
    refine V_bipush dec_X13_brings.2.1.1.1.1.2.2 rfl ?_
    refine V_iadd dec_X13_brings.2.1.1.1.2.1.1 ?_
    refine V_iconst dec_X13_brings.2.1.1.1.2.1.2 rfl ?_
    refine V_iast dec_X13_brings.2.1.1.1.2.2.1 ?_
    refine V_lets fun s1 => ?_
    refine V_sipush dec_X13_brings.2.1.1.1.2.2.2 rfl ?_
    refine V_istore (lv' := [(5, (0, 9999)), (0, (2, x0)), (1, (0, x1)), (3, (0, x3)), (4, (0, x4))]) dec_X13_brings.2.1.1.2.1.1.1 (by decide) rfl ?_
    refine V_iload dec_X13_brings.2.1.1.2.1.1.2 4 rfl ?_
    refine V_istore (lv' := [(6, (0, x4)), (5, (0, 9999)), (0, (2, x0)), (1, (0, x1)), (3, (0, x3)), (4, (0, x4))]) dec_X13_brings.2.1.1.2.1.2.1 (by decide) rfl ?_
    exact V_pick [2, 3, 4, 1, 0] rfl (X13_brings_b127_s G l FU s1 x0 x1 x3 9999 x4)
  · refine V_aload_n dec_X13_brings.1.2.2.1.2.2.1 0 rfl ?_
    refine V_getR 13 24 nf_13_24 ft_13_24 fl_X13_36 dec_X13_brings.1.2.2.1.2.2.2 ?_
    refine V_iload dec_X13_brings.1.2.2.2.1.1.1 4 rfl ?_
    refine V_sipush dec_X13_brings.1.2.2.2.1.1.2 rfl ?_
    refine V_iast dec_X13_brings.1.2.2.2.1.2.1 ?_
    refine V_lets fun s5 => ?_
    refine V_iinc (lv' := [(5, (0, (w32 (x5 + 1)))), (0, (2, x0)), (1, (0, x1)), (3, (0, x3)), (4, (0, x4))]) dec_X13_brings.1.2.2.2.1.2.2 4 rfl (by decide) rfl ?_
    refine V_goto (tgt := 79) dec_X13_brings.1.2.2.2.2.1.1 (by decide) ?_
    exact V_pick [1, 2, 3, 4, 0] rfl (hk79 s5 x0 x1 x3 x4 (w32 (x5 + 1)))
theorem X13_brings_b79_s (G : Gx) (l : Launch) (n : Nat) (s : St) (x0 x1 x3 x4 x5 : Int) : V G l mX13_brings 79 [(0, (2, x0)), (1, (0, x1)), (3, (0, x3)), (4, (0, x4)), (5, (0, x5))] [] s (X13_brings_b79 n s x0 x1 x3 x4 x5) :=
  V_iter (LV := fun a : St × Int × Int × Int × Int × Int => [(0, (2, a.2.1)), (1, (0, a.2.2.1)), (3, (0, a.2.2.2.1)), (4, (0, a.2.2.2.2.1)), (5, (0, a.2.2.2.2.2))]) (ST := fun a : St × Int × Int × Int × Int × Int => []) (SS := fun a : St × Int × Int × Int × Int × Int => a.1) (fun rec hrec a => X13_brings_b79_body_s G l (fun (s : St) (x0 x1 x3 x4 x5 : Int) => rec (s, x0, x1, x3, x4, x5)) (fun (s : St) (x0 x1 x3 x4 x5 : Int) => hrec (s, x0, x1, x3, x4, x5)) a.1 a.2.1 a.2.2.1 a.2.2.2.1 a.2.2.2.2.1 a.2.2.2.2.2) n (s, x0, x1, x3, x4, x5)
def X13_brings_b63 (rk8 : St → Int → Int → Int → Int → Int → Int → Rs) (s : St) (x0 x1 x2 x3 x5 k0 k1 : Int) : Rs :=
  rk8 s x0 x1 x2 (w32 (x3 * 3)) (w32 (k1 + k0)) (w32 (x5 + 1))
set_option maxRecDepth 100000 in
set_option maxHeartbeats 4000000 in
theorem X13_brings_b63_s (G : Gx) (l : Launch) (rk8 : St → Int → Int → Int → Int → Int → Int → Rs) (hk8 : ∀ (s : St) (x0 x1 x2 x3 x4 x5 : Int), V G l mX13_brings 8 [(0, (2, x0)), (1, (0, x1)), (2, (0, x2)), (3, (0, x3)), (4, (0, x4)), (5, (0, x5))] [] s (rk8 s x0 x1 x2 x3 x4 x5)) (s : St) (x0 x1 x2 x3 x5 k0 k1 : Int) : V G l mX13_brings 63 [(0, (2, x0)), (1, (0, x1)), (2, (0, x2)), (3, (0, x3)), (5, (0, x5))] [(0, k0), (0, k1)] s (X13_brings_b63 rk8 s x0 x1 x2 x3 x5 k0 k1) := by
  unfold X13_brings_b63
  refine V_iadd dec_X13_brings.1.2.1.1.2.2.1 ?_
  refine V_istore (lv' := [(4, (0, (w32 (k1 + k0)))), (0, (2, x0)), (1, (0, x1)), (2, (0, x2)), (3, (0, x3)), (5, (0, x5))]) dec_X13_brings.1.2.1.1.2.2.2 (by decide) rfl ?_
  refine V_iload_n dec_X13_brings.1.2.1.2.1.1.1 4 rfl ?_
  refine V_iconst dec_X13_brings.1.2.1.2.1.1.2 rfl ?_
  refine V_imul dec_X13_brings.1.2.1.2.1.2.1 ?_
  refine V_istore_n (lv' := [(3, (0, (w32 (x3 * 3)))), (4, (0, (w32 (k1 + k0)))), (0, (2, x0)), (1, (0, x1)), (2, (0, x2)), (5, (0, x5))]) dec_X13_brings.1.2.1.2.1.2.2 (by decide) rfl ?_
  refine V_iinc (lv' := [(5, (0, (w32 (x5 + 1)))), (3, (0, (w32 (x3 * 3)))), (4, (0, (w32 (k1 + k0)))), (0, (2, x0)), (1, (0, x1)), (2, (0, x2))]) dec_X13_brings.1.2.1.2.2.1.1 5 rfl (by decide) rfl ?_
  refine V_goto (tgt := 8) dec_X13_brings.1.2.1.2.2.1.2 (by decide) ?_
  exact V_pick [3, 4, 5, 1, 2, 0] rfl (hk8 s x0 x1 x2 (w32 (x3 * 3)) (w32 (k1 + k0)) (w32 (x5 + 1)))
def X13_brings_b8_body (rk8 : St → Int → Int → Int → Int → Int → Int → Rs) (s : St) (x0 x1 x2 x3 x4 x5 : Int) : Rs :=
  grd (isK s 23 x0) (grd (isK s 22 (gR s x0 3)) (if (gI s (gR s x0 3) 3) ≤ x5 then (X13_brings_b79 FU s x0 x1 x3 x4 0) else (grd (isK s 23 x0) (grd (isK s 23 x0) (bnd (X13_whoHears s x0 x5 x2) (fun r6 s7 => grd (isK s7 1 (gR s x0 25) ∧ 0 ≤ x5 ∧ x5 < ln s7 (gR s x0 25)) (lets (pI s7 (gR s x0 25) x5.toNat r6) (fun s8 => grd (isK s8 23 x0) (grd (isK s8 1 (gR s8 x0 25) ∧ 0 ≤ x5 ∧ x5 < ln s8 (gR s8 x0 25)) (grd (isK s8 23 x0) (grd (isK s8 22 (gR s8 x0 3)) (grd (isK s8 1 (gR s8 (gR s8 x0 3) 11) ∧ 0 ≤ x5 ∧ x5 < ln s8 (gR s8 (gR s8 x0 3) 11)) (if ¬ (gI s8 (gR s8 x0 25) x5.toNat) = (gI s8 (gR s8 (gR s8 x0 3) 11) x5.toNat) then (X13_brings_b63 rk8 s8 x0 x1 x2 x3 x5 0 x4) else (X13_brings_b63 rk8 s8 x0 x1 x2 x3 x5 (w32 (2 * x3)) x4))))))))))))))
def X13_brings_b8 (n : Nat) (s : St) (x0 x1 x2 x3 x4 x5 : Int) : Rs := iter (fun (rec : St × Int × Int × Int × Int × Int × Int → Rs) (a : St × Int × Int × Int × Int × Int × Int) => X13_brings_b8_body (fun (s : St) (x0 x1 x2 x3 x4 x5 : Int) => rec (s, x0, x1, x2, x3, x4, x5)) a.1 a.2.1 a.2.2.1 a.2.2.2.1 a.2.2.2.2.1 a.2.2.2.2.2.1 a.2.2.2.2.2.2) n (s, x0, x1, x2, x3, x4, x5)
theorem X13_brings_b8_0 (s : St) (x0 x1 x2 x3 x4 x5 : Int) : X13_brings_b8 0 s x0 x1 x2 x3 x4 x5 = none := rfl
theorem X13_brings_b8_1 (n : Nat) (s : St) (x0 x1 x2 x3 x4 x5 : Int) : X13_brings_b8 (n + 1) s x0 x1 x2 x3 x4 x5 = X13_brings_b8_body (X13_brings_b8 n) s x0 x1 x2 x3 x4 x5 := rfl
set_option maxRecDepth 100000 in
set_option maxHeartbeats 4000000 in
theorem X13_brings_b8_body_s (G : Gx) (l : Launch) (rk8 : St → Int → Int → Int → Int → Int → Int → Rs) (hk8 : ∀ (s : St) (x0 x1 x2 x3 x4 x5 : Int), V G l mX13_brings 8 [(0, (2, x0)), (1, (0, x1)), (2, (0, x2)), (3, (0, x3)), (4, (0, x4)), (5, (0, x5))] [] s (rk8 s x0 x1 x2 x3 x4 x5)) (s : St) (x0 x1 x2 x3 x4 x5 : Int) : V G l mX13_brings 8 [(0, (2, x0)), (1, (0, x1)), (2, (0, x2)), (3, (0, x3)), (4, (0, x4)), (5, (0, x5))] [] s (X13_brings_b8_body rk8 s x0 x1 x2 x3 x4 x5) := by
  unfold X13_brings_b8_body
  refine V_iload dec_X13_brings.1.1.1.1.2.2.2 5 rfl ?_
  refine V_aload_n dec_X13_brings.1.1.1.2.1.1.1 0 rfl ?_
  refine V_getR 13 3 nf_13_3 ft_13_3 fl_X13_303 dec_X13_brings.1.1.1.2.1.1.2 ?_
  refine V_getIN RX13 12 3 nf_12_3 ft_12_3 fl_X13_241 dec_X13_brings.1.1.1.2.1.2.1 ?_
  refine V_icmp_ge (tgt := 76) dec_X13_brings.1.1.1.2.1.2.2 (by decide) ?_ ?_
  · refine V_iconst dec_X13_brings.1.2.1.2.2.2.1 rfl ?_
    refine V_istore (lv' := [(5, (0, 0)), (0, (2, x0)), (1, (0, x1)), (2, (0, x2)), (3, (0, x3)), (4, (0, x4))]) dec_X13_brings.1.2.1.2.2.2.2 (by decide) rfl ?_
    exact V_pick [1, 2, 4, 5, 0] rfl (X13_brings_b79_s G l FU s x0 x1 x3 x4 0)
  · refine V_aload_n dec_X13_brings.1.1.1.2.2.1.1 0 rfl ?_
    refine V_getR 13 25 nf_13_25 ft_13_25 fl_X13_39 dec_X13_brings.1.1.1.2.2.1.2 ?_
    refine V_iload dec_X13_brings.1.1.1.2.2.2.1 5 rfl ?_
    refine V_aload_n dec_X13_brings.1.1.1.2.2.2.2 0 rfl ?_
    refine V_iload dec_X13_brings.1.1.2.1.1.1 5 rfl ?_
    refine V_iload_n dec_X13_brings.1.1.2.1.1.2.1 2 rfl ?_
    refine V_callV0 (ci := 13) (a := x0) (As := [(0, x5), (0, x2)]) (st := [(0, x5), (2, (gR s x0 25))]) rfl rfl (X13_whoHears_s G l s x0 x5 x2) cal_X13_whoHears rfl ml_X13_333 rfl rfl dec_X13_brings.1.1.2.1.1.2.2 (k_tag (tag := 0) rfl fun r6 s7 => ?_)
    refine V_iast dec_X13_brings.1.1.2.1.2.1.1 ?_
    refine V_lets fun s8 => ?_
    refine V_iload dec_X13_brings.1.1.2.1.2.1.2 4 rfl ?_
    refine V_aload_n dec_X13_brings.1.1.2.1.2.2.1 0 rfl ?_
    refine V_getR 13 25 nf_13_25 ft_13_25 fl_X13_39 dec_X13_brings.1.1.2.1.2.2.2 ?_
    refine V_iload dec_X13_brings.1.1.2.2.1.1.1 5 rfl ?_
    refine V_iald dec_X13_brings.1.1.2.2.1.1.2 ?_
    refine V_aload_n dec_X13_brings.1.1.2.2.1.2.1 0 rfl ?_
    refine V_getR 13 3 nf_13_3 ft_13_3 fl_X13_303 dec_X13_brings.1.1.2.2.1.2.2 ?_
    refine V_getRN RX13 12 11 nf_12_11 ft_12_11 fl_X13_263 dec_X13_brings.1.1.2.2.2.1.1 ?_
    refine V_iload dec_X13_brings.1.1.2.2.2.1.2 5 rfl ?_
    refine V_iald dec_X13_brings.1.1.2.2.2.2.1 ?_
    refine V_icmp_ne (tgt := 62) dec_X13_brings.1.1.2.2.2.2.2 (by decide) ?_ ?_
    · refine V_iconst dec_X13_brings.1.2.1.1.2.1.2 rfl ?_
      exact V_pick [0, 1, 2, 3, 5] rfl (X13_brings_b63_s G l rk8 hk8 s8 x0 x1 x2 x3 x5 0 x4)
    · refine V_iconst dec_X13_brings.1.2.1.1.1.1 rfl ?_
      refine V_iload_n dec_X13_brings.1.2.1.1.1.2.1 3 rfl ?_
      refine V_imul dec_X13_brings.1.2.1.1.1.2.2 ?_
      refine V_goto (tgt := 63) dec_X13_brings.1.2.1.1.2.1.1 (by decide) ?_
      exact V_pick [0, 1, 2, 3, 5] rfl (X13_brings_b63_s G l rk8 hk8 s8 x0 x1 x2 x3 x5 (w32 (2 * x3)) x4)
theorem X13_brings_b8_s (G : Gx) (l : Launch) (n : Nat) (s : St) (x0 x1 x2 x3 x4 x5 : Int) : V G l mX13_brings 8 [(0, (2, x0)), (1, (0, x1)), (2, (0, x2)), (3, (0, x3)), (4, (0, x4)), (5, (0, x5))] [] s (X13_brings_b8 n s x0 x1 x2 x3 x4 x5) :=
  V_iter (LV := fun a : St × Int × Int × Int × Int × Int × Int => [(0, (2, a.2.1)), (1, (0, a.2.2.1)), (2, (0, a.2.2.2.1)), (3, (0, a.2.2.2.2.1)), (4, (0, a.2.2.2.2.2.1)), (5, (0, a.2.2.2.2.2.2))]) (ST := fun a : St × Int × Int × Int × Int × Int × Int => []) (SS := fun a : St × Int × Int × Int × Int × Int × Int => a.1) (fun rec hrec a => X13_brings_b8_body_s G l (fun (s : St) (x0 x1 x2 x3 x4 x5 : Int) => rec (s, x0, x1, x2, x3, x4, x5)) (fun (s : St) (x0 x1 x2 x3 x4 x5 : Int) => hrec (s, x0, x1, x2, x3, x4, x5)) a.1 a.2.1 a.2.2.1 a.2.2.2.1 a.2.2.2.2.1 a.2.2.2.2.2.1 a.2.2.2.2.2.2) n (s, x0, x1, x2, x3, x4, x5)
def X13_brings (s : St) (a0 a1 a2 : Int) : Rs :=
  X13_brings_b8 FU s a0 a1 a2 1 0 0
set_option maxRecDepth 100000 in
set_option maxHeartbeats 4000000 in
theorem X13_brings_s (G : Gx) (l : Launch) (s : St) (a0 a1 a2 : Int) : Snd G l mX13_brings [(2, a0), (0, a1), (0, a2)] s (X13_brings s a0 a1 a2) := by
  refine Snd.of (by decide +kernel) rfl ?_
  show V G l mX13_brings 0 [(0, (2, a0)), (1, (0, a1)), (2, (0, a2))] [] s _
  unfold X13_brings
  refine V_iconst dec_X13_brings.1.1.1.1.1.1 rfl ?_
  refine V_istore_n (lv' := [(3, (0, 1)), (0, (2, a0)), (1, (0, a1)), (2, (0, a2))]) dec_X13_brings.1.1.1.1.1.2.1 (by decide) rfl ?_
  refine V_iconst dec_X13_brings.1.1.1.1.1.2.2 rfl ?_
  refine V_istore (lv' := [(4, (0, 0)), (3, (0, 1)), (0, (2, a0)), (1, (0, a1)), (2, (0, a2))]) dec_X13_brings.1.1.1.1.2.1.1 (by decide) rfl ?_
  refine V_iconst dec_X13_brings.1.1.1.1.2.1.2 rfl ?_
  refine V_istore (lv' := [(5, (0, 0)), (4, (0, 0)), (3, (0, 1)), (0, (2, a0)), (1, (0, a1)), (2, (0, a2))]) dec_X13_brings.1.1.1.1.2.2.1 (by decide) rfl ?_
  exact V_pick [3, 4, 5, 2, 1, 0] rfl (X13_brings_b8_s G l FU s a0 a1 a2 1 0 0)
theorem dec_X13_isHouse : (((decode cX13_isHouse 0 = .ok (.aload_n 0, 1) ∧ (decode cX13_isHouse 1 = .ok (.getfield 303, 3) ∧ decode cX13_isHouse 4 = .ok (.ifnull 22, 3))) ∧ ((decode cX13_isHouse 7 = .ok (.iload_n 1, 1) ∧ decode cX13_isHouse 8 = .ok (.ifCond .lt 18, 3)) ∧ (decode cX13_isHouse 11 = .ok (.iload_n 1, 1) ∧ decode cX13_isHouse 12 = .ok (.aload_n 0, 1)))) ∧ ((decode cX13_isHouse 13 = .ok (.getfield 303, 3) ∧ (decode cX13_isHouse 16 = .ok (.getfield 159, 3) ∧ decode cX13_isHouse 19 = .ok (.if_icmp .ge 7, 3))) ∧ ((decode cX13_isHouse 22 = .ok (.iconst 1, 1) ∧ decode cX13_isHouse 23 = .ok (.goto 4, 3)) ∧ (decode cX13_isHouse 26 = .ok (.iconst 0, 1) ∧ decode cX13_isHouse 27 = .ok (.ireturn, 1))))) := ⟨by decide +kernel, by decide +kernel⟩
def X13_isHouse_b27 (s : St) (k0 : Int) : Rs :=
  grd (k0 = 0 ∨ k0 = 1) (some (k0, s))
set_option maxRecDepth 100000 in
set_option maxHeartbeats 4000000 in
theorem X13_isHouse_b27_s (G : Gx) (l : Launch) (s : St) (k0 : Int) : V G l mX13_isHouse 27 [] [(0, k0)] s (X13_isHouse_b27 s k0) := by
  unfold X13_isHouse_b27
  exact V_zret rfl dec_X13_isHouse.2.2.2.2
def X13_isHouse_b26 (s : St) : Rs :=
  X13_isHouse_b27 s 0
set_option maxRecDepth 100000 in
set_option maxHeartbeats 4000000 in
theorem X13_isHouse_b26_s (G : Gx) (l : Launch) (s : St) : V G l mX13_isHouse 26 [] [] s (X13_isHouse_b26 s) := by
  unfold X13_isHouse_b26
  refine V_iconst dec_X13_isHouse.2.2.2.1 rfl ?_
  exact V_pick [] rfl (X13_isHouse_b27_s G l s 0)
def X13_isHouse (s : St) (a0 a1 : Int) : Rs :=
  grd (isK s 23 a0) (if (gR s a0 3) < 0 then (X13_isHouse_b26 s) else (if a1 < 0 then (X13_isHouse_b26 s) else (grd (isK s 23 a0) (grd (isK s 22 (gR s a0 3)) (if (gI s (gR s a0 3) 0) ≤ a1 then (X13_isHouse_b26 s) else (X13_isHouse_b27 s 1))))))
set_option maxRecDepth 100000 in
set_option maxHeartbeats 4000000 in
theorem X13_isHouse_s (G : Gx) (l : Launch) (s : St) (a0 a1 : Int) : Snd G l mX13_isHouse [(2, a0), (0, a1)] s (X13_isHouse s a0 a1) := by
  refine Snd.of (by decide +kernel) rfl ?_
  show V G l mX13_isHouse 0 [(0, (2, a0)), (1, (0, a1))] [] s _
  unfold X13_isHouse
  refine V_aload_n dec_X13_isHouse.1.1.1 0 rfl ?_
  refine V_getR 13 3 nf_13_3 ft_13_3 fl_X13_303 dec_X13_isHouse.1.1.2.1 ?_
  refine V_ifnull (tgt := 26) dec_X13_isHouse.1.1.2.2 (by decide) ?_ ?_
  · exact V_pick [] rfl (X13_isHouse_b26_s G l s)
  · refine V_iload_n dec_X13_isHouse.1.2.1.1 1 rfl ?_
    refine V_if_lt (tgt := 26) dec_X13_isHouse.1.2.1.2 (by decide) ?_ ?_
    · exact V_pick [] rfl (X13_isHouse_b26_s G l s)
    · refine V_iload_n dec_X13_isHouse.1.2.2.1 1 rfl ?_
      refine V_aload_n dec_X13_isHouse.1.2.2.2 0 rfl ?_
      refine V_getR 13 3 nf_13_3 ft_13_3 fl_X13_303 dec_X13_isHouse.2.1.1 ?_
      refine V_getIN RX13 12 0 nf_12_0 ft_12_0 fl_X13_159 dec_X13_isHouse.2.1.2.1 ?_
      refine V_icmp_ge (tgt := 26) dec_X13_isHouse.2.1.2.2 (by decide) ?_ ?_
      · exact V_pick [] rfl (X13_isHouse_b26_s G l s)
      · refine V_iconst dec_X13_isHouse.2.2.1.1 rfl ?_
        refine V_goto (tgt := 27) dec_X13_isHouse.2.2.1.2 (by decide) ?_
        exact V_pick [] rfl (X13_isHouse_b27_s G l s 1)
theorem dec_X13_bring : ((((decode cX13_bring 0 = .ok (.aload_n 0, 1) ∧ (decode cX13_bring 1 = .ok (.iconst 0, 1) ∧ decode cX13_bring 2 = .ok (.putfield 49, 3))) ∧ (decode cX13_bring 5 = .ok (.aload_n 0, 1) ∧ (decode cX13_bring 6 = .ok (.aload_n 0, 1) ∧ decode cX13_bring 7 = .ok (.iload_n 1, 1)))) ∧ ((decode cX13_bring 8 = .ok (.invokevirtual 351, 3) ∧ (decode cX13_bring 11 = .ok (.iload_n 2, 1) ∧ decode cX13_bring 12 = .ok (.invokevirtual 354, 3))) ∧ (decode cX13_bring 15 = .ok (.istore_n 3, 1) ∧ (decode cX13_bring 16 = .ok (.iload_n 3, 1) ∧ decode cX13_bring 17 = .ok (.ifCond .le 9, 3))))) ∧ (((decode cX13_bring 20 = .ok (.aload_n 0, 1) ∧ (decode cX13_bring 21 = .ok (.iload_n 3, 1) ∧ decode cX13_bring 22 = .ok (.invokevirtual 55, 3))) ∧ (decode cX13_bring 25 = .ok (.ireturn, 1) ∧ (decode cX13_bring 26 = .ok (.aload_n 0, 1) ∧ decode cX13_bring 27 = .ok (.invokevirtual 342, 3)))) ∧ ((decode cX13_bring 30 = .ok (.aload_n 0, 1) ∧ (decode cX13_bring 31 = .ok (.aload_n 0, 1) ∧ decode cX13_bring 32 = .ok (.iload_n 1, 1))) ∧ ((decode cX13_bring 33 = .ok (.iload_n 2, 1) ∧ decode cX13_bring 34 = .ok (.invokevirtual 398, 3)) ∧ (decode cX13_bring 37 = .ok (.invokevirtual 59, 3) ∧ decode cX13_bring 40 = .ok (.ireturn, 1)))))) := ⟨by decide +kernel, ⟨by decide +kernel, by decide +kernel⟩⟩
def X13_bring (s : St) (a0 a1 a2 : Int) : Rs :=
  grd (isK s 23 a0) (lets (pI s a0 0 0) (fun s1 => grd (isK s1 23 a0) (bnd (X13_isHouse s1 a0 a1) (fun r2 s3 => grd (isK s3 23 a0) (bnd (X13_refusesNight s3 a0 r2 a2) (fun r4 s5 => if r4 ≤ 0 then (grd (isK s5 23 a0) (bnd (X13_works s5 a0) (fun r6 s7 => grd (isK s7 23 a0) (bnd (X13_brings s7 a0 a1 a2) (fun r8 s9 => grd (isK s9 23 a0) (bnd (X13_good s9 a0 r8) (fun r10 s11 => some (r10, s11)))))))) else (grd (isK s5 23 a0) (bnd (X13_refused s5 a0 r4) (fun r12 s13 => some (r12, s13))))))))))
set_option maxRecDepth 100000 in
set_option maxHeartbeats 4000000 in
theorem X13_bring_s (G : Gx) (l : Launch) (s : St) (a0 a1 a2 : Int) : Snd G l mX13_bring [(2, a0), (0, a1), (0, a2)] s (X13_bring s a0 a1 a2) := by
  refine Snd.of (by decide +kernel) rfl ?_
  show V G l mX13_bring 0 [(0, (2, a0)), (1, (0, a1)), (2, (0, a2))] [] s _
  unfold X13_bring
  refine V_aload_n dec_X13_bring.1.1.1.1 0 rfl ?_
  refine V_iconst dec_X13_bring.1.1.1.2.1 rfl ?_
  refine V_putI (host := "") 13 0 nf_13_0 ty_13_0 (Or.inl ⟨fl_X13_49, Or.inl rfl⟩) dec_X13_bring.1.1.1.2.2 ?_
  refine V_lets fun s1 => ?_
  refine V_aload_n dec_X13_bring.1.1.2.1 0 rfl ?_
  refine V_aload_n dec_X13_bring.1.1.2.2.1 0 rfl ?_
  refine V_iload_n dec_X13_bring.1.1.2.2.2 1 rfl ?_
  refine V_callV0 (ci := 13) (a := a0) (As := [(0, a1)]) (st := [(2, a0)]) rfl rfl (X13_isHouse_s G l s1 a0 a1) cal_X13_isHouse rfl ml_X13_351 rfl rfl dec_X13_bring.1.2.1.1 (k_tag (tag := 0) rfl fun r2 s3 => ?_)
  refine V_iload_n dec_X13_bring.1.2.1.2.1 2 rfl ?_
  refine V_callV0 (ci := 13) (a := a0) (As := [(0, r2), (0, a2)]) (st := []) rfl rfl (X13_refusesNight_s G l s3 a0 r2 a2) cal_X13_refusesNight rfl ml_X13_354 rfl rfl dec_X13_bring.1.2.1.2.2 (k_tag (tag := 0) rfl fun r4 s5 => ?_)
  refine V_istore_n (lv' := [(3, (0, r4)), (0, (2, a0)), (1, (0, a1)), (2, (0, a2))]) dec_X13_bring.1.2.2.1 (by decide) rfl ?_
  refine V_iload_n dec_X13_bring.1.2.2.2.1 0 rfl ?_
  refine V_if_le (tgt := 26) dec_X13_bring.1.2.2.2.2 (by decide) ?_ ?_
  · refine V_aload_n dec_X13_bring.2.1.2.2.1 1 rfl ?_
    refine V_callV0 (ci := 13) (a := a0) (As := []) (st := []) rfl rfl (X13_works_s G l s5 a0) cal_X13_works rfl ml_X13_342 rfl rfl dec_X13_bring.2.1.2.2.2 (k_void rfl fun r6 s7 => ?_)
    refine V_aload_n dec_X13_bring.2.2.1.1 1 rfl ?_
    refine V_aload_n dec_X13_bring.2.2.1.2.1 1 rfl ?_
    refine V_iload_n dec_X13_bring.2.2.1.2.2 2 rfl ?_
    refine V_iload_n dec_X13_bring.2.2.2.1.1 3 rfl ?_
    refine V_callV0 (ci := 13) (a := a0) (As := [(0, a1), (0, a2)]) (st := [(2, a0)]) rfl rfl (X13_brings_s G l s7 a0 a1 a2) cal_X13_brings rfl ml_X13_398 rfl rfl dec_X13_bring.2.2.2.1.2 (k_tag (tag := 0) rfl fun r8 s9 => ?_)
    refine V_callV0 (ci := 13) (a := a0) (As := [(0, r8)]) (st := []) rfl rfl (X13_good_s G l s9 a0 r8) cal_X13_good rfl ml_X13_59 rfl rfl dec_X13_bring.2.2.2.2.1 (k_tag (tag := 0) rfl fun r10 s11 => ?_)
    exact V_iret rfl dec_X13_bring.2.2.2.2.2
  · refine V_aload_n dec_X13_bring.2.1.1.1 1 rfl ?_
    refine V_iload_n dec_X13_bring.2.1.1.2.1 0 rfl ?_
    refine V_callV0 (ci := 13) (a := a0) (As := [(0, r4)]) (st := []) rfl rfl (X13_refused_s G l s5 a0 r4) cal_X13_refused rfl ml_X13_55 rfl rfl dec_X13_bring.2.1.1.2.2 (k_tag (tag := 0) rfl fun r12 s13 => ?_)
    exact V_iret rfl dec_X13_bring.2.1.2.1
theorem dec_X13_bringFrom : (((((decode cX13_bringFrom 0 = .ok (.aload_n 0, 1) ∧ (decode cX13_bringFrom 1 = .ok (.iconst 0, 1) ∧ decode cX13_bringFrom 2 = .ok (.putfield 49, 3))) ∧ (decode cX13_bringFrom 5 = .ok (.aload_n 0, 1) ∧ (decode cX13_bringFrom 6 = .ok (.aload_n 0, 1) ∧ decode cX13_bringFrom 7 = .ok (.getfield 303, 3)))) ∧ ((decode cX13_bringFrom 10 = .ok (.ifnull 7, 3) ∧ (decode cX13_bringFrom 13 = .ok (.iconst 1, 1) ∧ decode cX13_bringFrom 14 = .ok (.goto 4, 3))) ∧ (decode cX13_bringFrom 17 = .ok (.iconst 0, 1) ∧ (decode cX13_bringFrom 18 = .ok (.iload_n 1, 1) ∧ decode cX13_bringFrom 19 = .ok (.invokevirtual 354, 3))))) ∧ (((decode cX13_bringFrom 22 = .ok (.istore_n 2, 1) ∧ (decode cX13_bringFrom 23 = .ok (.iload_n 2, 1) ∧ decode cX13_bringFrom 24 = .ok (.ifCond .le 9, 3))) ∧ (decode cX13_bringFrom 27 = .ok (.aload_n 0, 1) ∧ (decode cX13_bringFrom 28 = .ok (.iload_n 2, 1) ∧ decode cX13_bringFrom 29 = .ok (.invokevirtual 55, 3)))) ∧ ((decode cX13_bringFrom 32 = .ok (.ireturn, 1) ∧ (decode cX13_bringFrom 33 = .ok (.aload_n 0, 1) ∧ decode cX13_bringFrom 34 = .ok (.invokevirtual 342, 3))) ∧ ((decode cX13_bringFrom 37 = .ok (.iconst 0, 1) ∧ decode cX13_bringFrom 38 = .ok (.istore_n 3, 1)) ∧ (decode cX13_bringFrom 39 = .ok (.sipush 9999, 3) ∧ decode cX13_bringFrom 42 = .ok (.istore 4, 2)))))) ∧ ((((decode cX13_bringFrom 44 = .ok (.iconst 0, 1) ∧ (decode cX13_bringFrom 45 = .ok (.istore 5, 2) ∧ decode cX13_bringFrom 47 = .ok (.iload 5, 2))) ∧ (decode cX13_bringFrom 49 = .ok (.aload_n 0, 1) ∧ (decode cX13_bringFrom 50 = .ok (.getfield 303, 3) ∧ decode cX13_bringFrom 53 = .ok (.getfield 159, 3)))) ∧ ((decode cX13_bringFrom 56 = .ok (.if_icmp .ge 35, 3) ∧ (decode cX13_bringFrom 59 = .ok (.aload_n 0, 1) ∧ decode cX13_bringFrom 60 = .ok (.iload 5, 2))) ∧ ((decode cX13_bringFrom 62 = .ok (.iload_n 1, 1) ∧ decode cX13_bringFrom 63 = .ok (.invokevirtual 398, 3)) ∧ (decode cX13_bringFrom 66 = .ok (.istore 6, 2) ∧ decode cX13_bringFrom 68 = .ok (.iload 6, 2))))) ∧ (((decode cX13_bringFrom 70 = .ok (.iload 4, 2) ∧ (decode cX13_bringFrom 72 = .ok (.if_icmp .lt 6, 3) ∧ decode cX13_bringFrom 75 = .ok (.goto 10, 3))) ∧ (decode cX13_bringFrom 78 = .ok (.iload 6, 2) ∧ (decode cX13_bringFrom 80 = .ok (.istore 4, 2) ∧ decode cX13_bringFrom 82 = .ok (.iload 5, 2)))) ∧ ((decode cX13_bringFrom 84 = .ok (.istore_n 3, 1) ∧ (decode cX13_bringFrom 85 = .ok (.iinc 5 1, 3) ∧ decode cX13_bringFrom 88 = .ok (.goto (-41), 3))) ∧ ((decode cX13_bringFrom 91 = .ok (.aload_n 0, 1) ∧ decode cX13_bringFrom 92 = .ok (.iload_n 3, 1)) ∧ (decode cX13_bringFrom 93 = .ok (.invokevirtual 59, 3) ∧ decode cX13_bringFrom 96 = .ok (.ireturn, 1))))))) := ⟨⟨by decide +kernel, ⟨by decide +kernel, by decide +kernel⟩⟩, ⟨⟨by decide +kernel, by decide +kernel⟩, ⟨by decide +kernel, by decide +kernel⟩⟩⟩
def X13_bringFrom_b85 (rk47 : St → Int → Int → Int → Int → Int → Rs) (s : St) (x0 x1 x3 x4 x5 : Int) : Rs :=
  rk47 s x0 x1 x3 x4 (w32 (x5 + 1))
set_option maxRecDepth 100000 in
set_option maxHeartbeats 4000000 in
theorem X13_bringFrom_b85_s (G : Gx) (l : Launch) (rk47 : St → Int → Int → Int → Int → Int → Rs) (hk47 : ∀ (s : St) (x0 x1 x3 x4 x5 : Int), V G l mX13_bringFrom 47 [(0, (2, x0)), (1, (0, x1)), (3, (0, x3)), (4, (0, x4)), (5, (0, x5))] [] s (rk47 s x0 x1 x3 x4 x5)) (s : St) (x0 x1 x3 x4 x5 : Int) : V G l mX13_bringFrom 85 [(0, (2, x0)), (1, (0, x1)), (3, (0, x3)), (4, (0, x4)), (5, (0, x5))] [] s (X13_bringFrom_b85 rk47 s x0 x1 x3 x4 x5) := by
  unfold X13_bringFrom_b85
  refine V_iinc (lv' := [(5, (0, (w32 (x5 + 1)))), (0, (2, x0)), (1, (0, x1)), (3, (0, x3)), (4, (0, x4))]) dec_X13_bringFrom.2.2.2.1.2.1 4 rfl (by decide) rfl ?_
  refine V_goto (tgt := 47) dec_X13_bringFrom.2.2.2.1.2.2 (by decide) ?_
  exact V_pick [1, 2, 3, 4, 0] rfl (hk47 s x0 x1 x3 x4 (w32 (x5 + 1)))
def X13_bringFrom_b47_body (rk47 : St → Int → Int → Int → Int → Int → Rs) (s : St) (x0 x1 x3 x4 x5 : Int) : Rs :=
  grd (isK s 23 x0) (grd (isK s 22 (gR s x0 3)) (if (gI s (gR s x0 3) 0) ≤ x5 then (grd (isK s 23 x0) (bnd (X13_good s x0 x3) (fun r6 s7 => some (r6, s7)))) else (grd (isK s 23 x0) (bnd (X13_brings s x0 x5 x1) (fun r8 s9 => if r8 < x4 then (X13_bringFrom_b85 rk47 s9 x0 x1 x5 r8 x5) else (X13_bringFrom_b85 rk47 s9 x0 x1 x3 x4 x5))))))
def X13_bringFrom_b47 (n : Nat) (s : St) (x0 x1 x3 x4 x5 : Int) : Rs := iter (fun (rec : St × Int × Int × Int × Int × Int → Rs) (a : St × Int × Int × Int × Int × Int) => X13_bringFrom_b47_body (fun (s : St) (x0 x1 x3 x4 x5 : Int) => rec (s, x0, x1, x3, x4, x5)) a.1 a.2.1 a.2.2.1 a.2.2.2.1 a.2.2.2.2.1 a.2.2.2.2.2) n (s, x0, x1, x3, x4, x5)
theorem X13_bringFrom_b47_0 (s : St) (x0 x1 x3 x4 x5 : Int) : X13_bringFrom_b47 0 s x0 x1 x3 x4 x5 = none := rfl
theorem X13_bringFrom_b47_1 (n : Nat) (s : St) (x0 x1 x3 x4 x5 : Int) : X13_bringFrom_b47 (n + 1) s x0 x1 x3 x4 x5 = X13_bringFrom_b47_body (X13_bringFrom_b47 n) s x0 x1 x3 x4 x5 := rfl
set_option maxRecDepth 100000 in
set_option maxHeartbeats 4000000 in
theorem X13_bringFrom_b47_body_s (G : Gx) (l : Launch) (rk47 : St → Int → Int → Int → Int → Int → Rs) (hk47 : ∀ (s : St) (x0 x1 x3 x4 x5 : Int), V G l mX13_bringFrom 47 [(0, (2, x0)), (1, (0, x1)), (3, (0, x3)), (4, (0, x4)), (5, (0, x5))] [] s (rk47 s x0 x1 x3 x4 x5)) (s : St) (x0 x1 x3 x4 x5 : Int) : V G l mX13_bringFrom 47 [(0, (2, x0)), (1, (0, x1)), (3, (0, x3)), (4, (0, x4)), (5, (0, x5))] [] s (X13_bringFrom_b47_body rk47 s x0 x1 x3 x4 x5) := by
  unfold X13_bringFrom_b47_body
  refine V_iload dec_X13_bringFrom.2.1.1.1.2.2 4 rfl ?_
  refine V_aload_n dec_X13_bringFrom.2.1.1.2.1 0 rfl ?_
  refine V_getR 13 3 nf_13_3 ft_13_3 fl_X13_303 dec_X13_bringFrom.2.1.1.2.2.1 ?_
  refine V_getIN RX13 12 0 nf_12_0 ft_12_0 fl_X13_159 dec_X13_bringFrom.2.1.1.2.2.2 ?_
  refine V_icmp_ge (tgt := 91) dec_X13_bringFrom.2.1.2.1.1 (by decide) ?_ ?_
  · refine V_aload_n dec_X13_bringFrom.2.2.2.2.1.1 0 rfl ?_
    refine V_iload_n dec_X13_bringFrom.2.2.2.2.1.2 2 rfl ?_
    refine V_callV0 (ci := 13) (a := x0) (As := [(0, x3)]) (st := []) rfl rfl (X13_good_s G l s x0 x3) cal_X13_good rfl ml_X13_59 rfl rfl dec_X13_bringFrom.2.2.2.2.2.1 (k_tag (tag := 0) rfl fun r6 s7 => ?_)
    exact V_iret rfl dec_X13_bringFrom.2.2.2.2.2.2
  · refine V_aload_n dec_X13_bringFrom.2.1.2.1.2.1 0 rfl ?_
    refine V_iload dec_X13_bringFrom.2.1.2.1.2.2 4 rfl ?_
    refine V_iload_n dec_X13_bringFrom.2.1.2.2.1.1 1 rfl ?_
    refine V_callV0 (ci := 13) (a := x0) (As := [(0, x5), (0, x1)]) (st := []) rfl rfl (X13_brings_s G l s x0 x5 x1) cal_X13_brings rfl ml_X13_398 rfl rfl dec_X13_bringFrom.2.1.2.2.1.2 (k_tag (tag := 0) rfl fun r8 s9 => ?_)
    refine V_istore (lv' := [(6, (0, r8)), (0, (2, x0)), (1, (0, x1)), (3, (0, x3)), (4, (0, x4)), (5, (0, x5))]) dec_X13_bringFrom.2.1.2.2.2.1 (by decide) rfl ?_
    refine V_iload dec_X13_bringFrom.2.1.2.2.2.2 0 rfl ?_
    refine V_iload dec_X13_bringFrom.2.2.1.1.1 4 rfl ?_
    refine V_icmp_lt (tgt := 78) dec_X13_bringFrom.2.2.1.1.2.1 (by decide) ?_ ?_
    · refine V_iload dec_X13_bringFrom.2.2.1.2.1 0 rfl ?_
      refine V_istore (lv' := [(4, (0, r8)), (6, (0, r8)), (0, (2, x0)), (1, (0, x1)), (3, (0, x3)), (5, (0, x5))]) dec_X13_bringFrom.2.2.1.2.2.1 (by decide) rfl ?_
      refine V_iload dec_X13_bringFrom.2.2.1.2.2.2 5 rfl ?_
      refine V_istore_n (lv' := [(3, (0, x5)), (4, (0, r8)), (6, (0, r8)), (0, (2, x0)), (1, (0, x1)), (5, (0, x5))]) dec_X13_bringFrom.2.2.2.1.1 (by decide) rfl ?_
      exact V_pick [3, 4, 0, 1, 5] rfl (X13_bringFrom_b85_s G l rk47 hk47 s9 x0 x1 x5 r8 x5)
    · refine V_goto (tgt := 85) dec_X13_bringFrom.2.2.1.1.2.2 (by decide) ?_
      exact V_pick [1, 2, 3, 4, 5] rfl (X13_bringFrom_b85_s G l rk47 hk47 s9 x0 x1 x3 x4 x5)
theorem X13_bringFrom_b47_s (G : Gx) (l : Launch) (n : Nat) (s : St) (x0 x1 x3 x4 x5 : Int) : V G l mX13_bringFrom 47 [(0, (2, x0)), (1, (0, x1)), (3, (0, x3)), (4, (0, x4)), (5, (0, x5))] [] s (X13_bringFrom_b47 n s x0 x1 x3 x4 x5) :=
  V_iter (LV := fun a : St × Int × Int × Int × Int × Int => [(0, (2, a.2.1)), (1, (0, a.2.2.1)), (3, (0, a.2.2.2.1)), (4, (0, a.2.2.2.2.1)), (5, (0, a.2.2.2.2.2))]) (ST := fun a : St × Int × Int × Int × Int × Int => []) (SS := fun a : St × Int × Int × Int × Int × Int => a.1) (fun rec hrec a => X13_bringFrom_b47_body_s G l (fun (s : St) (x0 x1 x3 x4 x5 : Int) => rec (s, x0, x1, x3, x4, x5)) (fun (s : St) (x0 x1 x3 x4 x5 : Int) => hrec (s, x0, x1, x3, x4, x5)) a.1 a.2.1 a.2.2.1 a.2.2.2.1 a.2.2.2.2.1 a.2.2.2.2.2) n (s, x0, x1, x3, x4, x5)
def X13_bringFrom_b18 (s : St) (x0 x1 k0 k1 : Int) : Rs :=
  grd (isK s 23 k1) (bnd (X13_refusesNight s k1 k0 x1) (fun r2 s3 => if r2 ≤ 0 then (grd (isK s3 23 x0) (bnd (X13_works s3 x0) (fun r4 s5 => X13_bringFrom_b47 FU s5 x0 x1 0 9999 0))) else (grd (isK s3 23 x0) (bnd (X13_refused s3 x0 r2) (fun r10 s11 => some (r10, s11))))))
set_option maxRecDepth 100000 in
set_option maxHeartbeats 4000000 in
theorem X13_bringFrom_b18_s (G : Gx) (l : Launch) (s : St) (x0 x1 k0 k1 : Int) : V G l mX13_bringFrom 18 [(0, (2, x0)), (1, (0, x1))] [(0, k0), (2, k1)] s (X13_bringFrom_b18 s x0 x1 k0 k1) := by
  unfold X13_bringFrom_b18
  refine V_iload_n dec_X13_bringFrom.1.1.2.2.2.1 1 rfl ?_
  refine V_callV0 (ci := 13) (a := k1) (As := [(0, k0), (0, x1)]) (st := []) rfl rfl (X13_refusesNight_s G l s k1 k0 x1) cal_X13_refusesNight rfl ml_X13_354 rfl rfl dec_X13_bringFrom.1.1.2.2.2.2 (k_tag (tag := 0) rfl fun r2 s3 => ?_)
  refine V_istore_n (lv' := [(2, (0, r2)), (0, (2, x0)), (1, (0, x1))]) dec_X13_bringFrom.1.2.1.1.1 (by decide) rfl ?_
  refine V_iload_n dec_X13_bringFrom.1.2.1.1.2.1 0 rfl ?_
  refine V_if_le (tgt := 33) dec_X13_bringFrom.1.2.1.1.2.2 (by decide) ?_ ?_
  · refine V_aload_n dec_X13_bringFrom.1.2.2.1.2.1 1 rfl ?_
    refine V_callV0 (ci := 13) (a := x0) (As := []) (st := []) rfl rfl (X13_works_s G l s3 x0) cal_X13_works rfl ml_X13_342 rfl rfl dec_X13_bringFrom.1.2.2.1.2.2 (k_void rfl fun r4 s5 => ?_)
    refine V_iconst dec_X13_bringFrom.1.2.2.2.1.1 rfl ?_
    refine V_istore_n (lv' := [(3, (0, 0)), (2, (0, r2)), (0, (2, x0)), (1, (0, x1))]) dec_X13_bringFrom.1.2.2.2.1.2 (by decide) rfl ?_
    refine V_sipush dec_X13_bringFrom.1.2.2.2.2.1 rfl ?_
    refine V_istore (lv' := [(4, (0, 9999)), (3, (0, 0)), (2, (0, r2)), (0, (2, x0)), (1, (0, x1))]) dec_X13_bringFrom.1.2.2.2.2.2 (by decide) rfl ?_
    refine V_iconst dec_X13_bringFrom.2.1.1.1.1 rfl ?_
    refine V_istore (lv' := [(5, (0, 0)), (4, (0, 9999)), (3, (0, 0)), (2, (0, r2)), (0, (2, x0)), (1, (0, x1))]) dec_X13_bringFrom.2.1.1.1.2.1 (by decide) rfl ?_
    exact V_pick [4, 5, 2, 1, 0] rfl (X13_bringFrom_b47_s G l FU s5 x0 x1 0 9999 0)
  · refine V_aload_n dec_X13_bringFrom.1.2.1.2.1 1 rfl ?_
    refine V_iload_n dec_X13_bringFrom.1.2.1.2.2.1 0 rfl ?_
    refine V_callV0 (ci := 13) (a := x0) (As := [(0, r2)]) (st := []) rfl rfl (X13_refused_s G l s3 x0 r2) cal_X13_refused rfl ml_X13_55 rfl rfl dec_X13_bringFrom.1.2.1.2.2.2 (k_tag (tag := 0) rfl fun r10 s11 => ?_)
    exact V_iret rfl dec_X13_bringFrom.1.2.2.1.1
def X13_bringFrom (s : St) (a0 a1 : Int) : Rs :=
  grd (isK s 23 a0) (lets (pI s a0 0 0) (fun s1 => grd (isK s1 23 a0) (if (gR s1 a0 3) < 0 then (X13_bringFrom_b18 s1 a0 a1 0 a0) else (X13_bringFrom_b18 s1 a0 a1 1 a0))))
set_option maxRecDepth 100000 in
set_option maxHeartbeats 4000000 in
theorem X13_bringFrom_s (G : Gx) (l : Launch) (s : St) (a0 a1 : Int) : Snd G l mX13_bringFrom [(2, a0), (0, a1)] s (X13_bringFrom s a0 a1) := by
  refine Snd.of (by decide +kernel) rfl ?_
  show V G l mX13_bringFrom 0 [(0, (2, a0)), (1, (0, a1))] [] s _
  unfold X13_bringFrom
  refine V_aload_n dec_X13_bringFrom.1.1.1.1.1 0 rfl ?_
  refine V_iconst dec_X13_bringFrom.1.1.1.1.2.1 rfl ?_
  refine V_putI (host := "") 13 0 nf_13_0 ty_13_0 (Or.inl ⟨fl_X13_49, Or.inl rfl⟩) dec_X13_bringFrom.1.1.1.1.2.2 ?_
  refine V_lets fun s1 => ?_
  refine V_aload_n dec_X13_bringFrom.1.1.1.2.1 0 rfl ?_
  refine V_aload_n dec_X13_bringFrom.1.1.1.2.2.1 0 rfl ?_
  refine V_getR 13 3 nf_13_3 ft_13_3 fl_X13_303 dec_X13_bringFrom.1.1.1.2.2.2 ?_
  refine V_ifnull (tgt := 17) dec_X13_bringFrom.1.1.2.1.1 (by decide) ?_ ?_
  · refine V_iconst dec_X13_bringFrom.1.1.2.2.1 rfl ?_
    exact V_pick [0, 1] rfl (X13_bringFrom_b18_s G l s1 a0 a1 0 a0)
  · refine V_iconst dec_X13_bringFrom.1.1.2.1.2.1 rfl ?_
    refine V_goto (tgt := 18) dec_X13_bringFrom.1.1.2.1.2.2 (by decide) ?_
    exact V_pick [0, 1] rfl (X13_bringFrom_b18_s G l s1 a0 a1 1 a0)
theorem dec_X13_byteAt : (((decode cX13_byteAt 0 = .ok (.iload_n 1, 1) ∧ (decode cX13_byteAt 1 = .ok (.aload_n 0, 1) ∧ decode cX13_byteAt 2 = .ok (.getfield 66, 3))) ∧ (decode cX13_byteAt 5 = .ok (.if_icmp .ge 16, 3) ∧ (decode cX13_byteAt 8 = .ok (.aload_n 0, 1) ∧ decode cX13_byteAt 9 = .ok (.getfield 13, 3)))) ∧ ((decode cX13_byteAt 12 = .ok (.iload_n 1, 1) ∧ (decode cX13_byteAt 13 = .ok (.baload, 1) ∧ decode cX13_byteAt 14 = .ok (.sipush 255, 3))) ∧ ((decode cX13_byteAt 17 = .ok (.iand, 1) ∧ decode cX13_byteAt 18 = .ok (.goto 4, 3)) ∧ (decode cX13_byteAt 21 = .ok (.iconst (-1), 1) ∧ decode cX13_byteAt 22 = .ok (.ireturn, 1))))) := ⟨by decide +kernel, by decide +kernel⟩
def X13_byteAt_b22 (s : St) (k0 : Int) : Rs :=
  some (k0, s)
set_option maxRecDepth 100000 in
set_option maxHeartbeats 4000000 in
theorem X13_byteAt_b22_s (G : Gx) (l : Launch) (s : St) (k0 : Int) : V G l mX13_byteAt 22 [] [(0, k0)] s (X13_byteAt_b22 s k0) := by
  unfold X13_byteAt_b22
  exact V_iret rfl dec_X13_byteAt.2.2.2.2
def X13_byteAt (s : St) (a0 a1 : Int) : Rs :=
  grd (isK s 23 a0) (if (gI s a0 7) ≤ a1 then (X13_byteAt_b22 s (-1)) else (grd (isK s 23 a0) (grd (isK s 2 (gR s a0 5) ∧ 0 ≤ a1 ∧ a1 < ln s (gR s a0 5)) (X13_byteAt_b22 s (and32 (gI s (gR s a0 5) a1.toNat) 255)))))
set_option maxRecDepth 100000 in
set_option maxHeartbeats 4000000 in
theorem X13_byteAt_s (G : Gx) (l : Launch) (s : St) (a0 a1 : Int) : Snd G l mX13_byteAt [(2, a0), (0, a1)] s (X13_byteAt s a0 a1) := by
  refine Snd.of (by decide +kernel) rfl ?_
  show V G l mX13_byteAt 0 [(0, (2, a0)), (1, (0, a1))] [] s _
  unfold X13_byteAt
  refine V_iload_n dec_X13_byteAt.1.1.1 1 rfl ?_
  refine V_aload_n dec_X13_byteAt.1.1.2.1 0 rfl ?_
  refine V_getI 13 7 nf_13_7 ft_13_7 fl_X13_66 dec_X13_byteAt.1.1.2.2 ?_
  refine V_icmp_ge (tgt := 21) dec_X13_byteAt.1.2.1 (by decide) ?_ ?_
  · refine V_iconst dec_X13_byteAt.2.2.2.1 rfl ?_
    exact V_pick [] rfl (X13_byteAt_b22_s G l s (-1))
  · refine V_aload_n dec_X13_byteAt.1.2.2.1 0 rfl ?_
    refine V_getR 13 5 nf_13_5 ft_13_5 fl_X13_13 dec_X13_byteAt.1.2.2.2 ?_
    refine V_iload_n dec_X13_byteAt.2.1.1 1 rfl ?_
    refine V_bald dec_X13_byteAt.2.1.2.1 ?_
    refine V_sipush dec_X13_byteAt.2.1.2.2 rfl ?_
    refine V_iand dec_X13_byteAt.2.2.1.1 ?_
    refine V_goto (tgt := 22) dec_X13_byteAt.2.2.1.2 (by decide) ?_
    exact V_pick [] rfl (X13_byteAt_b22_s G l s (and32 (gI s (gR s a0 5) a1.toNat) 255))
theorem dec_X13_hearerBy : (((decode cX13_hearerBy 0 = .ok (.aload_n 0, 1) ∧ (decode cX13_hearerBy 1 = .ok (.aload_n 0, 1) ∧ decode cX13_hearerBy 2 = .ok (.aload_n 0, 1))) ∧ ((decode cX13_hearerBy 3 = .ok (.iload_n 1, 1) ∧ decode cX13_hearerBy 4 = .ok (.aload_n 0, 1)) ∧ (decode cX13_hearerBy 5 = .ok (.iload_n 1, 1) ∧ decode cX13_hearerBy 6 = .ok (.invokevirtual 323, 3)))) ∧ (((decode cX13_hearerBy 9 = .ok (.iload_n 2, 1) ∧ decode cX13_hearerBy 10 = .ok (.invokevirtual 326, 3)) ∧ (decode cX13_hearerBy 13 = .ok (.iload_n 3, 1) ∧ decode cX13_hearerBy 14 = .ok (.iadd, 1))) ∧ ((decode cX13_hearerBy 15 = .ok (.i2l, 1) ∧ decode cX13_hearerBy 16 = .ok (.invokevirtual 317, 3)) ∧ (decode cX13_hearerBy 19 = .ok (.invokevirtual 330, 3) ∧ decode cX13_hearerBy 22 = .ok (.ireturn, 1))))) := ⟨by decide +kernel, by decide +kernel⟩
def X13_hearerBy (s : St) (a0 a1 a2 a3 : Int) : Rs :=
  grd (isK s 23 a0) (bnd (X13_aimOf s a0 a1) (fun r1 s2 => grd (isK s2 23 a0) (bnd (X13_outOf s2 a0 a1 r1 a2) (fun r3 s4 => grd (isK s4 23 a0) (bnd (X13_around s4 a0 (w32 (r3 + a3))) (fun r5 s6 => grd (isK s6 23 a0) (bnd (X13_heardFrom s6 a0 r5) (fun r7 s8 => some (r7, s8)))))))))
set_option maxRecDepth 100000 in
set_option maxHeartbeats 4000000 in
theorem X13_hearerBy_s (G : Gx) (l : Launch) (s : St) (a0 a1 a2 a3 : Int) : Snd G l mX13_hearerBy [(2, a0), (0, a1), (0, a2), (0, a3)] s (X13_hearerBy s a0 a1 a2 a3) := by
  refine Snd.of (by decide +kernel) rfl ?_
  show V G l mX13_hearerBy 0 [(0, (2, a0)), (1, (0, a1)), (2, (0, a2)), (3, (0, a3))] [] s _
  unfold X13_hearerBy
  refine V_aload_n dec_X13_hearerBy.1.1.1 0 rfl ?_
  refine V_aload_n dec_X13_hearerBy.1.1.2.1 0 rfl ?_
  refine V_aload_n dec_X13_hearerBy.1.1.2.2 0 rfl ?_
  refine V_iload_n dec_X13_hearerBy.1.2.1.1 1 rfl ?_
  refine V_aload_n dec_X13_hearerBy.1.2.1.2 0 rfl ?_
  refine V_iload_n dec_X13_hearerBy.1.2.2.1 1 rfl ?_
  refine V_callV0 (ci := 13) (a := a0) (As := [(0, a1)]) (st := [(0, a1), (2, a0), (2, a0), (2, a0)]) rfl rfl (X13_aimOf_s G l s a0 a1) cal_X13_aimOf rfl ml_X13_323 rfl rfl dec_X13_hearerBy.1.2.2.2 (k_tag (tag := 0) rfl fun r1 s2 => ?_)
  refine V_iload_n dec_X13_hearerBy.2.1.1.1 2 rfl ?_
  refine V_callV0 (ci := 13) (a := a0) (As := [(0, a1), (0, r1), (0, a2)]) (st := [(2, a0), (2, a0)]) rfl rfl (X13_outOf_s G l s2 a0 a1 r1 a2) cal_X13_outOf rfl ml_X13_326 rfl rfl dec_X13_hearerBy.2.1.1.2 (k_tag (tag := 0) rfl fun r3 s4 => ?_)
  refine V_iload_n dec_X13_hearerBy.2.1.2.1 3 rfl ?_
  refine V_iadd dec_X13_hearerBy.2.1.2.2 ?_
  refine V_i2l dec_X13_hearerBy.2.2.1.1 ?_
  refine V_callV0 (ci := 13) (a := a0) (As := [(1, (w32 (r3 + a3)))]) (st := [(2, a0)]) rfl rfl (X13_around_s G l s4 a0 (w32 (r3 + a3))) cal_X13_around rfl ml_X13_317 rfl rfl dec_X13_hearerBy.2.2.1.2 (k_tag (tag := 0) rfl fun r5 s6 => ?_)
  refine V_callV0 (ci := 13) (a := a0) (As := [(0, r5)]) (st := []) rfl rfl (X13_heardFrom_s G l s6 a0 r5) cal_X13_heardFrom rfl ml_X13_330 rfl rfl dec_X13_hearerBy.2.2.2.1 (k_tag (tag := 0) rfl fun r7 s8 => ?_)
  exact V_iret rfl dec_X13_hearerBy.2.2.2.2
theorem dec_X13_chance : ((((decode cX13_chance 0 = .ok (.aload_n 0, 1) ∧ (decode cX13_chance 1 = .ok (.iload_n 2, 1) ∧ decode cX13_chance 2 = .ok (.iload_n 3, 1))) ∧ ((decode cX13_chance 3 = .ok (.iconst 0, 1) ∧ decode cX13_chance 4 = .ok (.invokevirtual 444, 3)) ∧ (decode cX13_chance 7 = .ok (.iload_n 1, 1) ∧ decode cX13_chance 8 = .ok (.if_icmp .ne 16, 3)))) ∧ ((decode cX13_chance 11 = .ok (.bipush 100, 2) ∧ (decode cX13_chance 13 = .ok (.aload_n 0, 1) ∧ decode cX13_chance 14 = .ok (.getfield 303, 3))) ∧ ((decode cX13_chance 17 = .ok (.getfield 221, 3) ∧ decode cX13_chance 20 = .ok (.isub, 1)) ∧ (decode cX13_chance 21 = .ok (.goto 4, 3) ∧ decode cX13_chance 24 = .ok (.iconst 0, 1))))) ∧ (((decode cX13_chance 25 = .ok (.aload_n 0, 1) ∧ (decode cX13_chance 26 = .ok (.iload_n 2, 1) ∧ decode cX13_chance 27 = .ok (.iload_n 3, 1))) ∧ ((decode cX13_chance 28 = .ok (.iconst 1, 1) ∧ decode cX13_chance 29 = .ok (.invokevirtual 444, 3)) ∧ (decode cX13_chance 32 = .ok (.iload_n 1, 1) ∧ decode cX13_chance 33 = .ok (.if_icmp .ne 13, 3)))) ∧ ((decode cX13_chance 36 = .ok (.aload_n 0, 1) ∧ (decode cX13_chance 37 = .ok (.getfield 303, 3) ∧ decode cX13_chance 40 = .ok (.getfield 221, 3))) ∧ ((decode cX13_chance 43 = .ok (.goto 4, 3) ∧ decode cX13_chance 46 = .ok (.iconst 0, 1)) ∧ (decode cX13_chance 47 = .ok (.iadd, 1) ∧ decode cX13_chance 48 = .ok (.ireturn, 1)))))) := ⟨⟨by decide +kernel, by decide +kernel⟩, ⟨by decide +kernel, by decide +kernel⟩⟩
def X13_chance_b47 (s : St) (k0 k1 : Int) : Rs :=
  some ((w32 (k1 + k0)), s)
set_option maxRecDepth 100000 in
set_option maxHeartbeats 4000000 in
theorem X13_chance_b47_s (G : Gx) (l : Launch) (s : St) (k0 k1 : Int) : V G l mX13_chance 47 [] [(0, k0), (0, k1)] s (X13_chance_b47 s k0 k1) := by
  unfold X13_chance_b47
  refine V_iadd dec_X13_chance.2.2.2.2.1 ?_
  exact V_iret rfl dec_X13_chance.2.2.2.2.2
def X13_chance_b25 (s : St) (x0 x1 x2 x3 k0 : Int) : Rs :=
  grd (isK s 23 x0) (bnd (X13_hearerBy s x0 x2 x3 1) (fun r3 s4 => if ¬ r3 = x1 then (X13_chance_b47 s4 0 k0) else (grd (isK s4 23 x0) (grd (isK s4 22 (gR s4 x0 3)) (X13_chance_b47 s4 (gI s4 (gR s4 x0 3) 1) k0)))))
set_option maxRecDepth 100000 in
set_option maxHeartbeats 4000000 in
theorem X13_chance_b25_s (G : Gx) (l : Launch) (s : St) (x0 x1 x2 x3 k0 : Int) : V G l mX13_chance 25 [(0, (2, x0)), (1, (0, x1)), (2, (0, x2)), (3, (0, x3))] [(0, k0)] s (X13_chance_b25 s x0 x1 x2 x3 k0) := by
  unfold X13_chance_b25
  refine V_aload_n dec_X13_chance.2.1.1.1 0 rfl ?_
  refine V_iload_n dec_X13_chance.2.1.1.2.1 2 rfl ?_
  refine V_iload_n dec_X13_chance.2.1.1.2.2 3 rfl ?_
  refine V_iconst dec_X13_chance.2.1.2.1.1 rfl ?_
  refine V_callV0 (ci := 13) (a := x0) (As := [(0, x2), (0, x3), (0, 1)]) (st := [(0, k0)]) rfl rfl (X13_hearerBy_s G l s x0 x2 x3 1) cal_X13_hearerBy rfl ml_X13_444 rfl rfl dec_X13_chance.2.1.2.1.2 (k_tag (tag := 0) rfl fun r3 s4 => ?_)
  refine V_iload_n dec_X13_chance.2.1.2.2.1 1 rfl ?_
  refine V_icmp_ne (tgt := 46) dec_X13_chance.2.1.2.2.2 (by decide) ?_ ?_
  · refine V_iconst dec_X13_chance.2.2.2.1.2 rfl ?_
    exact V_pick [] rfl (X13_chance_b47_s G l s4 0 k0)
  · refine V_aload_n dec_X13_chance.2.2.1.1 0 rfl ?_
    refine V_getR 13 3 nf_13_3 ft_13_3 fl_X13_303 dec_X13_chance.2.2.1.2.1 ?_
    refine V_getIN RX13 12 1 nf_12_1 ft_12_1 fl_X13_221 dec_X13_chance.2.2.1.2.2 ?_
    refine V_goto (tgt := 47) dec_X13_chance.2.2.2.1.1 (by decide) ?_
    exact V_pick [] rfl (X13_chance_b47_s G l s4 (gI s4 (gR s4 x0 3) 1) k0)
def X13_chance (s : St) (a0 a1 a2 a3 : Int) : Rs :=
  grd (isK s 23 a0) (bnd (X13_hearerBy s a0 a2 a3 0) (fun r1 s2 => if ¬ r1 = a1 then (X13_chance_b25 s2 a0 a1 a2 a3 0) else (grd (isK s2 23 a0) (grd (isK s2 22 (gR s2 a0 3)) (X13_chance_b25 s2 a0 a1 a2 a3 (w32 (100 - (gI s2 (gR s2 a0 3) 1))))))))
set_option maxRecDepth 100000 in
set_option maxHeartbeats 4000000 in
theorem X13_chance_s (G : Gx) (l : Launch) (s : St) (a0 a1 a2 a3 : Int) : Snd G l mX13_chance [(2, a0), (0, a1), (0, a2), (0, a3)] s (X13_chance s a0 a1 a2 a3) := by
  refine Snd.of (by decide +kernel) rfl ?_
  show V G l mX13_chance 0 [(0, (2, a0)), (1, (0, a1)), (2, (0, a2)), (3, (0, a3))] [] s _
  unfold X13_chance
  refine V_aload_n dec_X13_chance.1.1.1.1 0 rfl ?_
  refine V_iload_n dec_X13_chance.1.1.1.2.1 2 rfl ?_
  refine V_iload_n dec_X13_chance.1.1.1.2.2 3 rfl ?_
  refine V_iconst dec_X13_chance.1.1.2.1.1 rfl ?_
  refine V_callV0 (ci := 13) (a := a0) (As := [(0, a2), (0, a3), (0, 0)]) (st := []) rfl rfl (X13_hearerBy_s G l s a0 a2 a3 0) cal_X13_hearerBy rfl ml_X13_444 rfl rfl dec_X13_chance.1.1.2.1.2 (k_tag (tag := 0) rfl fun r1 s2 => ?_)
  refine V_iload_n dec_X13_chance.1.1.2.2.1 1 rfl ?_
  refine V_icmp_ne (tgt := 24) dec_X13_chance.1.1.2.2.2 (by decide) ?_ ?_
  · refine V_iconst dec_X13_chance.1.2.2.2.2 rfl ?_
    exact V_pick [0, 1, 2, 3] rfl (X13_chance_b25_s G l s2 a0 a1 a2 a3 0)
  · refine V_bipush dec_X13_chance.1.2.1.1 rfl ?_
    refine V_aload_n dec_X13_chance.1.2.1.2.1 0 rfl ?_
    refine V_getR 13 3 nf_13_3 ft_13_3 fl_X13_303 dec_X13_chance.1.2.1.2.2 ?_
    refine V_getIN RX13 12 1 nf_12_1 ft_12_1 fl_X13_221 dec_X13_chance.1.2.2.1.1 ?_
    refine V_isub dec_X13_chance.1.2.2.1.2 ?_
    refine V_goto (tgt := 25) dec_X13_chance.1.2.2.2.1 (by decide) ?_
    exact V_pick [0, 1, 2, 3] rfl (X13_chance_b25_s G l s2 a0 a1 a2 a3 (w32 (100 - (gI s2 (gR s2 a0 3) 1))))
theorem dec_X13_chatted : ((((decode cX13_chatted 0 = .ok (.iload_n 1, 1) ∧ decode cX13_chatted 1 = .ok (.ifCond .eq 15, 3)) ∧ (decode cX13_chatted 4 = .ok (.iload_n 2, 1) ∧ decode cX13_chatted 5 = .ok (.ifCond .eq 7, 3))) ∧ ((decode cX13_chatted 8 = .ok (.iconst 0, 1) ∧ decode cX13_chatted 9 = .ok (.goto 18, 3)) ∧ (decode cX13_chatted 12 = .ok (.iconst 3, 1) ∧ decode cX13_chatted 13 = .ok (.goto 14, 3)))) ∧ (((decode cX13_chatted 16 = .ok (.iload_n 2, 1) ∧ decode cX13_chatted 17 = .ok (.ifCond .eq 9, 3)) ∧ (decode cX13_chatted 20 = .ok (.iconst 2, 1) ∧ decode cX13_chatted 21 = .ok (.iload_n 0, 1))) ∧ ((decode cX13_chatted 22 = .ok (.isub, 1) ∧ decode cX13_chatted 23 = .ok (.goto 4, 3)) ∧ (decode cX13_chatted 26 = .ok (.iconst 1, 1) ∧ decode cX13_chatted 27 = .ok (.ireturn, 1))))) := ⟨by decide +kernel, by decide +kernel⟩
def X13_chatted_b27 (s : St) (k0 : Int) : Rs :=
  some (k0, s)
set_option maxRecDepth 100000 in
set_option maxHeartbeats 4000000 in
theorem X13_chatted_b27_s (G : Gx) (l : Launch) (s : St) (k0 : Int) : V G l mX13_chatted 27 [] [(0, k0)] s (X13_chatted_b27 s k0) := by
  unfold X13_chatted_b27
  exact V_iret rfl dec_X13_chatted.2.2.2.2
def X13_chatted (s : St) (a0 a1 a2 : Int) : Rs :=
  if a1 = 0 then (if a2 = 0 then (X13_chatted_b27 s 1) else (X13_chatted_b27 s (w32 (2 - a0)))) else (if a2 = 0 then (X13_chatted_b27 s 3) else (X13_chatted_b27 s 0))
set_option maxRecDepth 100000 in
set_option maxHeartbeats 4000000 in
theorem X13_chatted_s (G : Gx) (l : Launch) (s : St) (a0 a1 a2 : Int) : Snd G l mX13_chatted [(0, a0), (0, a1), (0, a2)] s (X13_chatted s a0 a1 a2) := by
  refine Snd.of (by decide +kernel) rfl ?_
  show V G l mX13_chatted 0 [(0, (0, a0)), (1, (0, a1)), (2, (0, a2))] [] s _
  unfold X13_chatted
  refine V_iload_n dec_X13_chatted.1.1.1.1 1 rfl ?_
  refine V_if_eq (tgt := 16) dec_X13_chatted.1.1.1.2 (by decide) ?_ ?_
  · refine V_iload_n dec_X13_chatted.2.1.1.1 2 rfl ?_
    refine V_if_eq (tgt := 26) dec_X13_chatted.2.1.1.2 (by decide) ?_ ?_
    · refine V_iconst dec_X13_chatted.2.2.2.1 rfl ?_
      exact V_pick [] rfl (X13_chatted_b27_s G l s 1)
    · refine V_iconst dec_X13_chatted.2.1.2.1 rfl ?_
      refine V_iload_n dec_X13_chatted.2.1.2.2 0 rfl ?_
      refine V_isub dec_X13_chatted.2.2.1.1 ?_
      refine V_goto (tgt := 27) dec_X13_chatted.2.2.1.2 (by decide) ?_
      exact V_pick [] rfl (X13_chatted_b27_s G l s (w32 (2 - a0)))
  · refine V_iload_n dec_X13_chatted.1.1.2.1 2 rfl ?_
    refine V_if_eq (tgt := 12) dec_X13_chatted.1.1.2.2 (by decide) ?_ ?_
    · refine V_iconst dec_X13_chatted.1.2.2.1 rfl ?_
      refine V_goto (tgt := 27) dec_X13_chatted.1.2.2.2 (by decide) ?_
      exact V_pick [] rfl (X13_chatted_b27_s G l s 3)
    · refine V_iconst dec_X13_chatted.1.2.1.1 rfl ?_
      refine V_goto (tgt := 27) dec_X13_chatted.1.2.1.2 (by decide) ?_
      exact V_pick [] rfl (X13_chatted_b27_s G l s 0)
theorem dec_X13_lost : ((decode cX13_lost 0 = .ok (.aload_n 0, 1) ∧ (decode cX13_lost 1 = .ok (.iload_n 1, 1) ∧ decode cX13_lost 2 = .ok (.invokevirtual 55, 3))) ∧ (decode cX13_lost 5 = .ok (.pop, 1) ∧ (decode cX13_lost 6 = .ok (.bipush (-100), 2) ∧ decode cX13_lost 8 = .ok (.ireturn, 1)))) := by decide +kernel
def X13_lost (s : St) (a0 a1 : Int) : Rs :=
  grd (isK s 23 a0) (bnd (X13_refused s a0 a1) (fun r1 s2 => some ((-100), s2)))
set_option maxRecDepth 100000 in
set_option maxHeartbeats 4000000 in
theorem X13_lost_s (G : Gx) (l : Launch) (s : St) (a0 a1 : Int) : Snd G l mX13_lost [(2, a0), (0, a1)] s (X13_lost s a0 a1) := by
  refine Snd.of (by decide +kernel) rfl ?_
  show V G l mX13_lost 0 [(0, (2, a0)), (1, (0, a1))] [] s _
  unfold X13_lost
  refine V_aload_n dec_X13_lost.1.1 0 rfl ?_
  refine V_iload_n dec_X13_lost.1.2.1 1 rfl ?_
  refine V_callV0 (ci := 13) (a := a0) (As := [(0, a1)]) (st := []) rfl rfl (X13_refused_s G l s a0 a1) cal_X13_refused rfl ml_X13_55 rfl rfl dec_X13_lost.1.2.2 (k_tag (tag := 0) rfl fun r1 s2 => ?_)
  refine V_pop (nl0 _) dec_X13_lost.2.1 ?_
  refine V_bipush dec_X13_lost.2.2.1 rfl ?_
  exact V_iret rfl dec_X13_lost.2.2.2
theorem dec_X13_refusesSoot : (((decode cX13_refusesSoot 0 = .ok (.aload_n 0, 1) ∧ (decode cX13_refusesSoot 1 = .ok (.getfield 303, 3) ∧ decode cX13_refusesSoot 4 = .ok (.ifnonnull 7, 3))) ∧ ((decode cX13_refusesSoot 7 = .ok (.iconst 1, 1) ∧ decode cX13_refusesSoot 8 = .ok (.goto 18, 3)) ∧ (decode cX13_refusesSoot 11 = .ok (.iload_n 1, 1) ∧ decode cX13_refusesSoot 12 = .ok (.iconst 0, 1)))) ∧ ((decode cX13_refusesSoot 13 = .ok (.bipush 9, 2) ∧ (decode cX13_refusesSoot 15 = .ok (.invokestatic 128, 3) ∧ decode cX13_refusesSoot 18 = .ok (.ifCond .eq 7, 3))) ∧ ((decode cX13_refusesSoot 21 = .ok (.iconst 0, 1) ∧ decode cX13_refusesSoot 22 = .ok (.goto 4, 3)) ∧ (decode cX13_refusesSoot 25 = .ok (.iconst 2, 1) ∧ decode cX13_refusesSoot 26 = .ok (.ireturn, 1))))) := ⟨by decide +kernel, by decide +kernel⟩
def X13_refusesSoot_b26 (s : St) (k0 : Int) : Rs :=
  some (k0, s)
set_option maxRecDepth 100000 in
set_option maxHeartbeats 4000000 in
theorem X13_refusesSoot_b26_s (G : Gx) (l : Launch) (s : St) (k0 : Int) : V G l mX13_refusesSoot 26 [] [(0, k0)] s (X13_refusesSoot_b26 s k0) := by
  unfold X13_refusesSoot_b26
  exact V_iret rfl dec_X13_refusesSoot.2.2.2.2
def X13_refusesSoot (s : St) (a0 a1 : Int) : Rs :=
  grd (isK s 23 a0) (if (gR s a0 3) < 0 then (X13_refusesSoot_b26 s 1) else (bnd (X13_in s a1 0 9) (fun r1 s2 => if r1 = 0 then (X13_refusesSoot_b26 s2 2) else (X13_refusesSoot_b26 s2 0))))
set_option maxRecDepth 100000 in
set_option maxHeartbeats 4000000 in
theorem X13_refusesSoot_s (G : Gx) (l : Launch) (s : St) (a0 a1 : Int) : Snd G l mX13_refusesSoot [(2, a0), (0, a1)] s (X13_refusesSoot s a0 a1) := by
  refine Snd.of (by decide +kernel) rfl ?_
  show V G l mX13_refusesSoot 0 [(0, (2, a0)), (1, (0, a1))] [] s _
  unfold X13_refusesSoot
  refine V_aload_n dec_X13_refusesSoot.1.1.1 0 rfl ?_
  refine V_getR 13 3 nf_13_3 ft_13_3 fl_X13_303 dec_X13_refusesSoot.1.1.2.1 ?_
  refine V_ifnonnull (tgt := 11) dec_X13_refusesSoot.1.1.2.2 (by decide) ?_ ?_
  · refine V_iconst dec_X13_refusesSoot.1.2.1.1 rfl ?_
    refine V_goto (tgt := 26) dec_X13_refusesSoot.1.2.1.2 (by decide) ?_
    exact V_pick [] rfl (X13_refusesSoot_b26_s G l s 1)
  · refine V_iload_n dec_X13_refusesSoot.1.2.2.1 1 rfl ?_
    refine V_iconst dec_X13_refusesSoot.1.2.2.2 rfl ?_
    refine V_bipush dec_X13_refusesSoot.2.1.1 rfl ?_
    refine V_callS0 (As := [(0, a1), (0, 0), (0, 9)]) (st := []) (host := "") rfl (X13_in_s G l s a1 0 9) cal_X13_in rfl (Or.inl ml_X13_128) rfl rfl dec_X13_refusesSoot.2.1.2.1 (k_tag (tag := 0) rfl fun r1 s2 => ?_)
    refine V_if_eq (tgt := 25) dec_X13_refusesSoot.2.1.2.2 (by decide) ?_ ?_
    · refine V_iconst dec_X13_refusesSoot.2.2.2.1 rfl ?_
      exact V_pick [] rfl (X13_refusesSoot_b26_s G l s2 2)
    · refine V_iconst dec_X13_refusesSoot.2.2.1.1 rfl ?_
      refine V_goto (tgt := 26) dec_X13_refusesSoot.2.2.1.2 (by decide) ?_
      exact V_pick [] rfl (X13_refusesSoot_b26_s G l s2 0)
theorem dec_X13_chat : ((((decode cX13_chat 0 = .ok (.aload_n 0, 1) ∧ (decode cX13_chat 1 = .ok (.iconst 0, 1) ∧ decode cX13_chat 2 = .ok (.putfield 49, 3))) ∧ (decode cX13_chat 5 = .ok (.aload_n 0, 1) ∧ (decode cX13_chat 6 = .ok (.iload_n 1, 1) ∧ decode cX13_chat 7 = .ok (.invokevirtual 431, 3)))) ∧ ((decode cX13_chat 10 = .ok (.istore 5, 2) ∧ (decode cX13_chat 12 = .ok (.iload 5, 2) ∧ decode cX13_chat 14 = .ok (.ifCond .le 12, 3))) ∧ ((decode cX13_chat 17 = .ok (.aload_n 0, 1) ∧ decode cX13_chat 18 = .ok (.iload 5, 2)) ∧ (decode cX13_chat 20 = .ok (.invokevirtual 434, 3) ∧ decode cX13_chat 23 = .ok (.goto 27, 3))))) ∧ (((decode cX13_chat 26 = .ok (.aload_n 0, 1) ∧ (decode cX13_chat 27 = .ok (.iload 4, 2) ∧ decode cX13_chat 29 = .ok (.ifCond .eq 12, 3))) ∧ ((decode cX13_chat 32 = .ok (.iload_n 1, 1) ∧ decode cX13_chat 33 = .ok (.iload_n 3, 1)) ∧ (decode cX13_chat 34 = .ok (.iload_n 2, 1) ∧ decode cX13_chat 35 = .ok (.invokestatic 437, 3)))) ∧ ((decode cX13_chat 38 = .ok (.goto 9, 3) ∧ (decode cX13_chat 41 = .ok (.iload_n 1, 1) ∧ decode cX13_chat 42 = .ok (.iload_n 2, 1))) ∧ ((decode cX13_chat 43 = .ok (.iload_n 3, 1) ∧ decode cX13_chat 44 = .ok (.invokestatic 437, 3)) ∧ (decode cX13_chat 47 = .ok (.invokevirtual 59, 3) ∧ decode cX13_chat 50 = .ok (.ireturn, 1)))))) := ⟨⟨by decide +kernel, by decide +kernel⟩, ⟨by decide +kernel, by decide +kernel⟩⟩
def X13_chat_b50 (s : St) (k0 : Int) : Rs :=
  some (k0, s)
set_option maxRecDepth 100000 in
set_option maxHeartbeats 4000000 in
theorem X13_chat_b50_s (G : Gx) (l : Launch) (s : St) (k0 : Int) : V G l mX13_chat 50 [] [(0, k0)] s (X13_chat_b50 s k0) := by
  unfold X13_chat_b50
  exact V_iret rfl dec_X13_chat.2.2.2.2.2
def X13_chat_b47 (s : St) (k0 k1 : Int) : Rs :=
  grd (isK s 23 k1) (bnd (X13_good s k1 k0) (fun r6 s7 => X13_chat_b50 s7 r6))
set_option maxRecDepth 100000 in
set_option maxHeartbeats 4000000 in
theorem X13_chat_b47_s (G : Gx) (l : Launch) (s : St) (k0 k1 : Int) : V G l mX13_chat 47 [] [(0, k0), (2, k1)] s (X13_chat_b47 s k0 k1) := by
  unfold X13_chat_b47
  refine V_callV0 (ci := 13) (a := k1) (As := [(0, k0)]) (st := []) rfl rfl (X13_good_s G l s k1 k0) cal_X13_good rfl ml_X13_59 rfl rfl dec_X13_chat.2.2.2.2.1 (k_tag (tag := 0) rfl fun r6 s7 => ?_)
  exact V_pick [] rfl (X13_chat_b50_s G l s7 r6)
def X13_chat (s : St) (a0 a1 a2 a3 a4 : Int) : Rs :=
  grd (isK s 23 a0) (lets (pI s a0 0 0) (fun s1 => grd (isK s1 23 a0) (bnd (X13_refusesSoot s1 a0 a1) (fun r2 s3 => if r2 ≤ 0 then (if a4 = 0 then (bnd (X13_chatted s3 a1 a2 a3) (fun r4 s5 => X13_chat_b47 s5 r4 a0)) else (bnd (X13_chatted s3 a1 a3 a2) (fun r8 s9 => X13_chat_b47 s9 r8 a0))) else (grd (isK s3 23 a0) (bnd (X13_lost s3 a0 r2) (fun r10 s11 => X13_chat_b50 s11 r10)))))))
set_option maxRecDepth 100000 in
set_option maxHeartbeats 4000000 in
theorem X13_chat_s (G : Gx) (l : Launch) (s : St) (a0 a1 a2 a3 a4 : Int) : Snd G l mX13_chat [(2, a0), (0, a1), (0, a2), (0, a3), (0, a4)] s (X13_chat s a0 a1 a2 a3 a4) := by
  refine Snd.of (by decide +kernel) rfl ?_
  show V G l mX13_chat 0 [(0, (2, a0)), (1, (0, a1)), (2, (0, a2)), (3, (0, a3)), (4, (0, a4))] [] s _
  unfold X13_chat
  refine V_aload_n dec_X13_chat.1.1.1.1 0 rfl ?_
  refine V_iconst dec_X13_chat.1.1.1.2.1 rfl ?_
  refine V_putI (host := "") 13 0 nf_13_0 ty_13_0 (Or.inl ⟨fl_X13_49, Or.inl rfl⟩) dec_X13_chat.1.1.1.2.2 ?_
  refine V_lets fun s1 => ?_
  refine V_aload_n dec_X13_chat.1.1.2.1 0 rfl ?_
  refine V_iload_n dec_X13_chat.1.1.2.2.1 1 rfl ?_
  refine V_callV0 (ci := 13) (a := a0) (As := [(0, a1)]) (st := []) rfl rfl (X13_refusesSoot_s G l s1 a0 a1) cal_X13_refusesSoot rfl ml_X13_431 rfl rfl dec_X13_chat.1.1.2.2.2 (k_tag (tag := 0) rfl fun r2 s3 => ?_)
  refine V_istore (lv' := [(5, (0, r2)), (0, (2, a0)), (1, (0, a1)), (2, (0, a2)), (3, (0, a3)), (4, (0, a4))]) dec_X13_chat.1.2.1.1 (by decide) rfl ?_
  refine V_iload dec_X13_chat.1.2.1.2.1 0 rfl ?_
  refine V_if_le (tgt := 26) dec_X13_chat.1.2.1.2.2 (by decide) ?_ ?_
  · refine V_aload_n dec_X13_chat.2.1.1.1 1 rfl ?_
    refine V_iload dec_X13_chat.2.1.1.2.1 5 rfl ?_
    refine V_if_eq (tgt := 41) dec_X13_chat.2.1.1.2.2 (by decide) ?_ ?_
    · refine V_iload_n dec_X13_chat.2.2.1.2.1 2 rfl ?_
      refine V_iload_n dec_X13_chat.2.2.1.2.2 3 rfl ?_
      refine V_iload_n dec_X13_chat.2.2.2.1.1 4 rfl ?_
      refine V_callS0 (As := [(0, a1), (0, a2), (0, a3)]) (st := [(2, a0)]) (host := "") rfl (X13_chatted_s G l s3 a1 a2 a3) cal_X13_chatted rfl (Or.inl ml_X13_437) rfl rfl dec_X13_chat.2.2.2.1.2 (k_tag (tag := 0) rfl fun r4 s5 => ?_)
      exact V_pick [] rfl (X13_chat_b47_s G l s5 r4 a0)
    · refine V_iload_n dec_X13_chat.2.1.2.1.1 2 rfl ?_
      refine V_iload_n dec_X13_chat.2.1.2.1.2 4 rfl ?_
      refine V_iload_n dec_X13_chat.2.1.2.2.1 3 rfl ?_
      refine V_callS0 (As := [(0, a1), (0, a3), (0, a2)]) (st := [(2, a0)]) (host := "") rfl (X13_chatted_s G l s3 a1 a3 a2) cal_X13_chatted rfl (Or.inl ml_X13_437) rfl rfl dec_X13_chat.2.1.2.2.2 (k_tag (tag := 0) rfl fun r8 s9 => ?_)
      refine V_goto (tgt := 47) dec_X13_chat.2.2.1.1 (by decide) ?_
      exact V_pick [] rfl (X13_chat_b47_s G l s9 r8 a0)
  · refine V_aload_n dec_X13_chat.1.2.2.1.1 1 rfl ?_
    refine V_iload dec_X13_chat.1.2.2.1.2 0 rfl ?_
    refine V_callV0 (ci := 13) (a := a0) (As := [(0, r2)]) (st := []) rfl rfl (X13_lost_s G l s3 a0 r2) cal_X13_lost rfl ml_X13_434 rfl rfl dec_X13_chat.1.2.2.2.1 (k_tag (tag := 0) rfl fun r10 s11 => ?_)
    refine V_goto (tgt := 50) dec_X13_chat.1.2.2.2.2 (by decide) ?_
    exact V_pick [] rfl (X13_chat_b50_s G l s11 r10)
theorem dec_X13_comesOut : ((((decode cX13_comesOut 0 = .ok (.aload_n 0, 1) ∧ (decode cX13_comesOut 1 = .ok (.iconst 0, 1) ∧ decode cX13_comesOut 2 = .ok (.putfield 49, 3))) ∧ ((decode cX13_comesOut 5 = .ok (.aload_n 0, 1) ∧ decode cX13_comesOut 6 = .ok (.aload_n 0, 1)) ∧ (decode cX13_comesOut 7 = .ok (.iload_n 1, 1) ∧ decode cX13_comesOut 8 = .ok (.invokevirtual 348, 3)))) ∧ ((decode cX13_comesOut 11 = .ok (.iload_n 2, 1) ∧ (decode cX13_comesOut 12 = .ok (.invokevirtual 354, 3) ∧ decode cX13_comesOut 15 = .ok (.istore_n 3, 1))) ∧ ((decode cX13_comesOut 16 = .ok (.iload_n 3, 1) ∧ decode cX13_comesOut 17 = .ok (.ifCond .le 9, 3)) ∧ (decode cX13_comesOut 20 = .ok (.aload_n 0, 1) ∧ decode cX13_comesOut 21 = .ok (.iload_n 3, 1))))) ∧ (((decode cX13_comesOut 22 = .ok (.invokevirtual 55, 3) ∧ (decode cX13_comesOut 25 = .ok (.ireturn, 1) ∧ decode cX13_comesOut 26 = .ok (.aload_n 0, 1))) ∧ ((decode cX13_comesOut 27 = .ok (.invokevirtual 342, 3) ∧ decode cX13_comesOut 30 = .ok (.aload_n 0, 1)) ∧ (decode cX13_comesOut 31 = .ok (.aload_n 0, 1) ∧ decode cX13_comesOut 32 = .ok (.iload_n 1, 1)))) ∧ ((decode cX13_comesOut 33 = .ok (.aload_n 0, 1) ∧ (decode cX13_comesOut 34 = .ok (.iload_n 1, 1) ∧ decode cX13_comesOut 35 = .ok (.invokevirtual 323, 3))) ∧ ((decode cX13_comesOut 38 = .ok (.iload_n 2, 1) ∧ decode cX13_comesOut 39 = .ok (.invokevirtual 326, 3)) ∧ (decode cX13_comesOut 42 = .ok (.invokevirtual 59, 3) ∧ decode cX13_comesOut 45 = .ok (.ireturn, 1)))))) := ⟨⟨by decide +kernel, by decide +kernel⟩, ⟨by decide +kernel, by decide +kernel⟩⟩
def X13_comesOut (s : St) (a0 a1 a2 : Int) : Rs :=
  grd (isK s 23 a0) (lets (pI s a0 0 0) (fun s1 => grd (isK s1 23 a0) (bnd (X13_isDead s1 a0 a1) (fun r2 s3 => grd (isK s3 23 a0) (bnd (X13_refusesNight s3 a0 r2 a2) (fun r4 s5 => if r4 ≤ 0 then (grd (isK s5 23 a0) (bnd (X13_works s5 a0) (fun r6 s7 => grd (isK s7 23 a0) (bnd (X13_aimOf s7 a0 a1) (fun r8 s9 => grd (isK s9 23 a0) (bnd (X13_outOf s9 a0 a1 r8 a2) (fun r10 s11 => grd (isK s11 23 a0) (bnd (X13_good s11 a0 r10) (fun r12 s13 => some (r12, s13)))))))))) else (grd (isK s5 23 a0) (bnd (X13_refused s5 a0 r4) (fun r14 s15 => some (r14, s15))))))))))
set_option maxRecDepth 100000 in
set_option maxHeartbeats 4000000 in
theorem X13_comesOut_s (G : Gx) (l : Launch) (s : St) (a0 a1 a2 : Int) : Snd G l mX13_comesOut [(2, a0), (0, a1), (0, a2)] s (X13_comesOut s a0 a1 a2) := by
  refine Snd.of (by decide +kernel) rfl ?_
  show V G l mX13_comesOut 0 [(0, (2, a0)), (1, (0, a1)), (2, (0, a2))] [] s _
  unfold X13_comesOut
  refine V_aload_n dec_X13_comesOut.1.1.1.1 0 rfl ?_
  refine V_iconst dec_X13_comesOut.1.1.1.2.1 rfl ?_
  refine V_putI (host := "") 13 0 nf_13_0 ty_13_0 (Or.inl ⟨fl_X13_49, Or.inl rfl⟩) dec_X13_comesOut.1.1.1.2.2 ?_
  refine V_lets fun s1 => ?_
  refine V_aload_n dec_X13_comesOut.1.1.2.1.1 0 rfl ?_
  refine V_aload_n dec_X13_comesOut.1.1.2.1.2 0 rfl ?_
  refine V_iload_n dec_X13_comesOut.1.1.2.2.1 1 rfl ?_
  refine V_callV0 (ci := 13) (a := a0) (As := [(0, a1)]) (st := [(2, a0)]) rfl rfl (X13_isDead_s G l s1 a0 a1) cal_X13_isDead rfl ml_X13_348 rfl rfl dec_X13_comesOut.1.1.2.2.2 (k_tag (tag := 0) rfl fun r2 s3 => ?_)
  refine V_iload_n dec_X13_comesOut.1.2.1.1 2 rfl ?_
  refine V_callV0 (ci := 13) (a := a0) (As := [(0, r2), (0, a2)]) (st := []) rfl rfl (X13_refusesNight_s G l s3 a0 r2 a2) cal_X13_refusesNight rfl ml_X13_354 rfl rfl dec_X13_comesOut.1.2.1.2.1 (k_tag (tag := 0) rfl fun r4 s5 => ?_)
  refine V_istore_n (lv' := [(3, (0, r4)), (0, (2, a0)), (1, (0, a1)), (2, (0, a2))]) dec_X13_comesOut.1.2.1.2.2 (by decide) rfl ?_
  refine V_iload_n dec_X13_comesOut.1.2.2.1.1 0 rfl ?_
  refine V_if_le (tgt := 26) dec_X13_comesOut.1.2.2.1.2 (by decide) ?_ ?_
  · refine V_aload_n dec_X13_comesOut.2.1.1.2.2 1 rfl ?_
    refine V_callV0 (ci := 13) (a := a0) (As := []) (st := []) rfl rfl (X13_works_s G l s5 a0) cal_X13_works rfl ml_X13_342 rfl rfl dec_X13_comesOut.2.1.2.1.1 (k_void rfl fun r6 s7 => ?_)
    refine V_aload_n dec_X13_comesOut.2.1.2.1.2 1 rfl ?_
    refine V_aload_n dec_X13_comesOut.2.1.2.2.1 1 rfl ?_
    refine V_iload_n dec_X13_comesOut.2.1.2.2.2 2 rfl ?_
    refine V_aload_n dec_X13_comesOut.2.2.1.1 1 rfl ?_
    refine V_iload_n dec_X13_comesOut.2.2.1.2.1 2 rfl ?_
    refine V_callV0 (ci := 13) (a := a0) (As := [(0, a1)]) (st := [(0, a1), (2, a0), (2, a0)]) rfl rfl (X13_aimOf_s G l s7 a0 a1) cal_X13_aimOf rfl ml_X13_323 rfl rfl dec_X13_comesOut.2.2.1.2.2 (k_tag (tag := 0) rfl fun r8 s9 => ?_)
    refine V_iload_n dec_X13_comesOut.2.2.2.1.1 3 rfl ?_
    refine V_callV0 (ci := 13) (a := a0) (As := [(0, a1), (0, r8), (0, a2)]) (st := [(2, a0)]) rfl rfl (X13_outOf_s G l s9 a0 a1 r8 a2) cal_X13_outOf rfl ml_X13_326 rfl rfl dec_X13_comesOut.2.2.2.1.2 (k_tag (tag := 0) rfl fun r10 s11 => ?_)
    refine V_callV0 (ci := 13) (a := a0) (As := [(0, r10)]) (st := []) rfl rfl (X13_good_s G l s11 a0 r10) cal_X13_good rfl ml_X13_59 rfl rfl dec_X13_comesOut.2.2.2.2.1 (k_tag (tag := 0) rfl fun r12 s13 => ?_)
    exact V_iret rfl dec_X13_comesOut.2.2.2.2.2
  · refine V_aload_n dec_X13_comesOut.1.2.2.2.1 1 rfl ?_
    refine V_iload_n dec_X13_comesOut.1.2.2.2.2 0 rfl ?_
    refine V_callV0 (ci := 13) (a := a0) (As := [(0, r4)]) (st := []) rfl rfl (X13_refused_s G l s5 a0 r4) cal_X13_refused rfl ml_X13_55 rfl rfl dec_X13_comesOut.2.1.1.1 (k_tag (tag := 0) rfl fun r14 s15 => ?_)
    exact V_iret rfl dec_X13_comesOut.2.1.1.2.1
theorem dec_X13_comesRound : ((((decode cX13_comesRound 0 = .ok (.iconst 0, 1) ∧ (decode cX13_comesRound 1 = .ok (.istore_n 3, 1) ∧ decode cX13_comesRound 2 = .ok (.iload_n 3, 1))) ∧ ((decode cX13_comesRound 3 = .ok (.iconst 2, 1) ∧ decode cX13_comesRound 4 = .ok (.if_icmp .ge 38, 3)) ∧ (decode cX13_comesRound 7 = .ok (.aload_n 0, 1) ∧ decode cX13_comesRound 8 = .ok (.iload_n 1, 1)))) ∧ ((decode cX13_comesRound 9 = .ok (.aload_n 0, 1) ∧ (decode cX13_comesRound 10 = .ok (.iload_n 1, 1) ∧ decode cX13_comesRound 11 = .ok (.invokevirtual 323, 3))) ∧ ((decode cX13_comesRound 14 = .ok (.iload_n 3, 1) ∧ decode cX13_comesRound 15 = .ok (.invokevirtual 326, 3)) ∧ (decode cX13_comesRound 18 = .ok (.aload_n 0, 1) ∧ decode cX13_comesRound 19 = .ok (.iload_n 1, 1))))) ∧ (((decode cX13_comesRound 20 = .ok (.aload_n 0, 1) ∧ (decode cX13_comesRound 21 = .ok (.iload_n 1, 1) ∧ decode cX13_comesRound 22 = .ok (.invokevirtual 323, 3))) ∧ ((decode cX13_comesRound 25 = .ok (.iload_n 3, 1) ∧ decode cX13_comesRound 26 = .ok (.iload_n 2, 1)) ∧ (decode cX13_comesRound 27 = .ok (.iadd, 1) ∧ decode cX13_comesRound 28 = .ok (.invokevirtual 326, 3)))) ∧ ((decode cX13_comesRound 31 = .ok (.if_icmp .eq 5, 3) ∧ (decode cX13_comesRound 34 = .ok (.iconst 0, 1) ∧ decode cX13_comesRound 35 = .ok (.ireturn, 1))) ∧ ((decode cX13_comesRound 36 = .ok (.iinc 3 1, 3) ∧ decode cX13_comesRound 39 = .ok (.goto (-37), 3)) ∧ (decode cX13_comesRound 42 = .ok (.iconst 1, 1) ∧ decode cX13_comesRound 43 = .ok (.ireturn, 1)))))) := ⟨⟨by decide +kernel, by decide +kernel⟩, ⟨by decide +kernel, by decide +kernel⟩⟩
def X13_comesRound_b2_body (rk2 : St → Int → Int → Int → Int → Rs) (s : St) (x0 x1 x2 x3 : Int) : Rs :=
  if (2 : Int) ≤ x3 then (grd ((1 : Int) = 0 ∨ (1 : Int) = 1) (some (1, s))) else (grd (isK s 23 x0) (bnd (X13_aimOf s x0 x1) (fun r1 s2 => grd (isK s2 23 x0) (bnd (X13_outOf s2 x0 x1 r1 x3) (fun r3 s4 => grd (isK s4 23 x0) (bnd (X13_aimOf s4 x0 x1) (fun r5 s6 => grd (isK s6 23 x0) (bnd (X13_outOf s6 x0 x1 r5 (w32 (x3 + x2))) (fun r7 s8 => if r3 = r7 then (rk2 s8 x0 x1 x2 (w32 (x3 + 1))) else (grd ((0 : Int) = 0 ∨ (0 : Int) = 1) (some (0, s8))))))))))))
def X13_comesRound_b2 (n : Nat) (s : St) (x0 x1 x2 x3 : Int) : Rs := iter (fun (rec : St × Int × Int × Int × Int → Rs) (a : St × Int × Int × Int × Int) => X13_comesRound_b2_body (fun (s : St) (x0 x1 x2 x3 : Int) => rec (s, x0, x1, x2, x3)) a.1 a.2.1 a.2.2.1 a.2.2.2.1 a.2.2.2.2) n (s, x0, x1, x2, x3)
theorem X13_comesRound_b2_0 (s : St) (x0 x1 x2 x3 : Int) : X13_comesRound_b2 0 s x0 x1 x2 x3 = none := rfl
theorem X13_comesRound_b2_1 (n : Nat) (s : St) (x0 x1 x2 x3 : Int) : X13_comesRound_b2 (n + 1) s x0 x1 x2 x3 = X13_comesRound_b2_body (X13_comesRound_b2 n) s x0 x1 x2 x3 := rfl
set_option maxRecDepth 100000 in
set_option maxHeartbeats 4000000 in
theorem X13_comesRound_b2_body_s (G : Gx) (l : Launch) (rk2 : St → Int → Int → Int → Int → Rs) (hk2 : ∀ (s : St) (x0 x1 x2 x3 : Int), V G l mX13_comesRound 2 [(0, (2, x0)), (1, (0, x1)), (2, (0, x2)), (3, (0, x3))] [] s (rk2 s x0 x1 x2 x3)) (s : St) (x0 x1 x2 x3 : Int) : V G l mX13_comesRound 2 [(0, (2, x0)), (1, (0, x1)), (2, (0, x2)), (3, (0, x3))] [] s (X13_comesRound_b2_body rk2 s x0 x1 x2 x3) := by
  unfold X13_comesRound_b2_body
  refine V_iload_n dec_X13_comesRound.1.1.1.2.2 3 rfl ?_
  refine V_iconst dec_X13_comesRound.1.1.2.1.1 rfl ?_
  refine V_icmp_ge (tgt := 42) dec_X13_comesRound.1.1.2.1.2 (by decide) ?_ ?_
  · refine V_iconst dec_X13_comesRound.2.2.2.2.1 rfl ?_
    exact V_zret rfl dec_X13_comesRound.2.2.2.2.2
  · refine V_aload_n dec_X13_comesRound.1.1.2.2.1 0 rfl ?_
    refine V_iload_n dec_X13_comesRound.1.1.2.2.2 1 rfl ?_
    refine V_aload_n dec_X13_comesRound.1.2.1.1 0 rfl ?_
    refine V_iload_n dec_X13_comesRound.1.2.1.2.1 1 rfl ?_
    refine V_callV0 (ci := 13) (a := x0) (As := [(0, x1)]) (st := [(0, x1), (2, x0)]) rfl rfl (X13_aimOf_s G l s x0 x1) cal_X13_aimOf rfl ml_X13_323 rfl rfl dec_X13_comesRound.1.2.1.2.2 (k_tag (tag := 0) rfl fun r1 s2 => ?_)
    refine V_iload_n dec_X13_comesRound.1.2.2.1.1 3 rfl ?_
    refine V_callV0 (ci := 13) (a := x0) (As := [(0, x1), (0, r1), (0, x3)]) (st := []) rfl rfl (X13_outOf_s G l s2 x0 x1 r1 x3) cal_X13_outOf rfl ml_X13_326 rfl rfl dec_X13_comesRound.1.2.2.1.2 (k_tag (tag := 0) rfl fun r3 s4 => ?_)
    refine V_aload_n dec_X13_comesRound.1.2.2.2.1 0 rfl ?_
    refine V_iload_n dec_X13_comesRound.1.2.2.2.2 1 rfl ?_
    refine V_aload_n dec_X13_comesRound.2.1.1.1 0 rfl ?_
    refine V_iload_n dec_X13_comesRound.2.1.1.2.1 1 rfl ?_
    refine V_callV0 (ci := 13) (a := x0) (As := [(0, x1)]) (st := [(0, x1), (2, x0), (0, r3)]) rfl rfl (X13_aimOf_s G l s4 x0 x1) cal_X13_aimOf rfl ml_X13_323 rfl rfl dec_X13_comesRound.2.1.1.2.2 (k_tag (tag := 0) rfl fun r5 s6 => ?_)
    refine V_iload_n dec_X13_comesRound.2.1.2.1.1 3 rfl ?_
    refine V_iload_n dec_X13_comesRound.2.1.2.1.2 2 rfl ?_
    refine V_iadd dec_X13_comesRound.2.1.2.2.1 ?_
    refine V_callV0 (ci := 13) (a := x0) (As := [(0, x1), (0, r5), (0, (w32 (x3 + x2)))]) (st := [(0, r3)]) rfl rfl (X13_outOf_s G l s6 x0 x1 r5 (w32 (x3 + x2))) cal_X13_outOf rfl ml_X13_326 rfl rfl dec_X13_comesRound.2.1.2.2.2 (k_tag (tag := 0) rfl fun r7 s8 => ?_)
    refine V_icmp_eq (tgt := 36) dec_X13_comesRound.2.2.1.1 (by decide) ?_ ?_
    · refine V_iinc (lv' := [(3, (0, (w32 (x3 + 1)))), (0, (2, x0)), (1, (0, x1)), (2, (0, x2))]) dec_X13_comesRound.2.2.2.1.1 3 rfl (by decide) rfl ?_
      refine V_goto (tgt := 2) dec_X13_comesRound.2.2.2.1.2 (by decide) ?_
      exact V_pick [1, 2, 3, 0] rfl (hk2 s8 x0 x1 x2 (w32 (x3 + 1)))
    · refine V_iconst dec_X13_comesRound.2.2.1.2.1 rfl ?_
      exact V_zret rfl dec_X13_comesRound.2.2.1.2.2
theorem X13_comesRound_b2_s (G : Gx) (l : Launch) (n : Nat) (s : St) (x0 x1 x2 x3 : Int) : V G l mX13_comesRound 2 [(0, (2, x0)), (1, (0, x1)), (2, (0, x2)), (3, (0, x3))] [] s (X13_comesRound_b2 n s x0 x1 x2 x3) :=
  V_iter (LV := fun a : St × Int × Int × Int × Int => [(0, (2, a.2.1)), (1, (0, a.2.2.1)), (2, (0, a.2.2.2.1)), (3, (0, a.2.2.2.2))]) (ST := fun a : St × Int × Int × Int × Int => []) (SS := fun a : St × Int × Int × Int × Int => a.1) (fun rec hrec a => X13_comesRound_b2_body_s G l (fun (s : St) (x0 x1 x2 x3 : Int) => rec (s, x0, x1, x2, x3)) (fun (s : St) (x0 x1 x2 x3 : Int) => hrec (s, x0, x1, x2, x3)) a.1 a.2.1 a.2.2.1 a.2.2.2.1 a.2.2.2.2) n (s, x0, x1, x2, x3)
def X13_comesRound (s : St) (a0 a1 a2 : Int) : Rs :=
  X13_comesRound_b2 FU s a0 a1 a2 0
set_option maxRecDepth 100000 in
set_option maxHeartbeats 4000000 in
theorem X13_comesRound_s (G : Gx) (l : Launch) (s : St) (a0 a1 a2 : Int) : Snd G l mX13_comesRound [(2, a0), (0, a1), (0, a2)] s (X13_comesRound s a0 a1 a2) := by
  refine Snd.of (by decide +kernel) rfl ?_
  show V G l mX13_comesRound 0 [(0, (2, a0)), (1, (0, a1)), (2, (0, a2))] [] s _
  unfold X13_comesRound
  refine V_iconst dec_X13_comesRound.1.1.1.1 rfl ?_
  refine V_istore_n (lv' := [(3, (0, 0)), (0, (2, a0)), (1, (0, a1)), (2, (0, a2))]) dec_X13_comesRound.1.1.1.2.1 (by decide) rfl ?_
  exact V_pick [1, 2, 3, 0] rfl (X13_comesRound_b2_s G l FU s a0 a1 a2 0)
theorem dec_X13_common : ((((decode cX13_common 0 = .ok (.lload_n 0, 1) ∧ decode cX13_common 1 = .ok (.lstore 4, 2)) ∧ (decode cX13_common 3 = .ok (.lload_n 2, 1) ∧ decode cX13_common 4 = .ok (.lstore 6, 2))) ∧ ((decode cX13_common 6 = .ok (.lload 6, 2) ∧ decode cX13_common 8 = .ok (.lconst 0, 1)) ∧ (decode cX13_common 9 = .ok (.lcmp, 1) ∧ (decode cX13_common 10 = .ok (.ifCond .eq 21, 3) ∧ decode cX13_common 13 = .ok (.lload 4, 2))))) ∧ (((decode cX13_common 15 = .ok (.lload 6, 2) ∧ decode cX13_common 17 = .ok (.lrem, 1)) ∧ (decode cX13_common 18 = .ok (.lstore 8, 2) ∧ (decode cX13_common 20 = .ok (.lload 6, 2) ∧ decode cX13_common 22 = .ok (.lstore 4, 2)))) ∧ ((decode cX13_common 24 = .ok (.lload 8, 2) ∧ decode cX13_common 26 = .ok (.lstore 6, 2)) ∧ (decode cX13_common 28 = .ok (.goto (-22), 3) ∧ (decode cX13_common 31 = .ok (.lload 4, 2) ∧ decode cX13_common 33 = .ok (.lreturn, 1)))))) := ⟨by decide +kernel, by decide +kernel⟩
def X13_common_b6_body (rk6 : St → Int → Int → Rs) (s : St) (x4 x6 : Int) : Rs :=
  if (cmp3 x6 0) = 0 then (some (x4, s)) else (grd (x6 ≠ 0) (rk6 s x6 (Int.tmod x4 x6)))
def X13_common_b6 (n : Nat) (s : St) (x4 x6 : Int) : Rs := iter (fun (rec : St × Int × Int → Rs) (a : St × Int × Int) => X13_common_b6_body (fun (s : St) (x4 x6 : Int) => rec (s, x4, x6)) a.1 a.2.1 a.2.2) n (s, x4, x6)
theorem X13_common_b6_0 (s : St) (x4 x6 : Int) : X13_common_b6 0 s x4 x6 = none := rfl
theorem X13_common_b6_1 (n : Nat) (s : St) (x4 x6 : Int) : X13_common_b6 (n + 1) s x4 x6 = X13_common_b6_body (X13_common_b6 n) s x4 x6 := rfl
set_option maxRecDepth 100000 in
set_option maxHeartbeats 4000000 in
theorem X13_common_b6_body_s (G : Gx) (l : Launch) (rk6 : St → Int → Int → Rs) (hk6 : ∀ (s : St) (x4 x6 : Int), V G l mX13_common 6 [(4, (1, x4)), (6, (1, x6))] [] s (rk6 s x4 x6)) (s : St) (x4 x6 : Int) : V G l mX13_common 6 [(4, (1, x4)), (6, (1, x6))] [] s (X13_common_b6_body rk6 s x4 x6) := by
  unfold X13_common_b6_body
  refine V_lload dec_X13_common.1.2.1.1 1 rfl ?_
  refine V_lconst (n := 0) dec_X13_common.1.2.1.2 (by decide) ?_
  refine V_lcmp dec_X13_common.1.2.2.1 ?_
  refine V_if_eq (tgt := 31) dec_X13_common.1.2.2.2.1 (by decide) ?_ ?_
  · refine V_lload dec_X13_common.2.2.2.2.1 0 rfl ?_
    exact V_lret rfl dec_X13_common.2.2.2.2.2
  · refine V_lload dec_X13_common.1.2.2.2.2 0 rfl ?_
    refine V_lload dec_X13_common.2.1.1.1 1 rfl ?_
    refine V_lrem dec_X13_common.2.1.1.2 ?_
    refine V_lstore (lv' := [(8, (1, (Int.tmod x4 x6))), (4, (1, x4)), (6, (1, x6))]) dec_X13_common.2.1.2.1 (by decide) rfl ?_
    refine V_lload dec_X13_common.2.1.2.2.1 2 rfl ?_
    refine V_lstore (lv' := [(4, (1, x6)), (8, (1, (Int.tmod x4 x6))), (6, (1, x6))]) dec_X13_common.2.1.2.2.2 (by decide) rfl ?_
    refine V_lload dec_X13_common.2.2.1.1 1 rfl ?_
    refine V_lstore (lv' := [(6, (1, (Int.tmod x4 x6))), (4, (1, x6)), (8, (1, (Int.tmod x4 x6)))]) dec_X13_common.2.2.1.2 (by decide) rfl ?_
    refine V_goto (tgt := 6) dec_X13_common.2.2.2.1 (by decide) ?_
    exact V_pick [1, 0] rfl (hk6 s x6 (Int.tmod x4 x6))
theorem X13_common_b6_s (G : Gx) (l : Launch) (n : Nat) (s : St) (x4 x6 : Int) : V G l mX13_common 6 [(4, (1, x4)), (6, (1, x6))] [] s (X13_common_b6 n s x4 x6) :=
  V_iter (LV := fun a : St × Int × Int => [(4, (1, a.2.1)), (6, (1, a.2.2))]) (ST := fun a : St × Int × Int => []) (SS := fun a : St × Int × Int => a.1) (fun rec hrec a => X13_common_b6_body_s G l (fun (s : St) (x4 x6 : Int) => rec (s, x4, x6)) (fun (s : St) (x4 x6 : Int) => hrec (s, x4, x6)) a.1 a.2.1 a.2.2) n (s, x4, x6)
def X13_common (s : St) (a0 a1 : Int) : Rs :=
  X13_common_b6 FU s a0 a1
set_option maxRecDepth 100000 in
set_option maxHeartbeats 4000000 in
theorem X13_common_s (G : Gx) (l : Launch) (s : St) (a0 a1 : Int) : Snd G l mX13_common [(1, a0), (1, a1)] s (X13_common s a0 a1) := by
  refine Snd.of (by decide +kernel) rfl ?_
  show V G l mX13_common 0 [(0, (1, a0)), (2, (1, a1))] [] s _
  unfold X13_common
  refine V_lload_n dec_X13_common.1.1.1.1 0 rfl ?_
  refine V_lstore (lv' := [(4, (1, a0)), (0, (1, a0)), (2, (1, a1))]) dec_X13_common.1.1.1.2 (by decide) rfl ?_
  refine V_lload_n dec_X13_common.1.1.2.1 2 rfl ?_
  refine V_lstore (lv' := [(6, (1, a1)), (4, (1, a0)), (0, (1, a0)), (2, (1, a1))]) dec_X13_common.1.1.2.2 (by decide) rfl ?_
  exact V_pick [1, 0] rfl (X13_common_b6_s G l FU s a0 a1)
theorem dec_X13_could : ((((decode cX13_could 0 = .ok (.aload_n 0, 1) ∧ decode cX13_could 1 = .ok (.iconst 0, 1)) ∧ (decode cX13_could 2 = .ok (.putfield 49, 3) ∧ decode cX13_could 5 = .ok (.aload_n 0, 1))) ∧ ((decode cX13_could 6 = .ok (.getfield 303, 3) ∧ decode cX13_could 9 = .ok (.ifnonnull 9, 3)) ∧ (decode cX13_could 12 = .ok (.aload_n 0, 1) ∧ (decode cX13_could 13 = .ok (.iconst 1, 1) ∧ decode cX13_could 14 = .ok (.invokevirtual 55, 3))))) ∧ (((decode cX13_could 17 = .ok (.ireturn, 1) ∧ decode cX13_could 18 = .ok (.aload_n 0, 1)) ∧ (decode cX13_could 19 = .ok (.iconst (-1), 1) ∧ (decode cX13_could 20 = .ok (.invokevirtual 422, 3) ∧ decode cX13_could 23 = .ok (.pop, 1)))) ∧ ((decode cX13_could 24 = .ok (.aload_n 0, 1) ∧ decode cX13_could 25 = .ok (.aload_n 0, 1)) ∧ (decode cX13_could 26 = .ok (.getfield 413, 3) ∧ (decode cX13_could 29 = .ok (.invokevirtual 59, 3) ∧ decode cX13_could 32 = .ok (.ireturn, 1)))))) := ⟨by decide +kernel, by decide +kernel⟩
def X13_could (s : St) (a0 : Int) : Rs :=
  grd (isK s 23 a0) (lets (pI s a0 0 0) (fun s1 => grd (isK s1 23 a0) (if (gR s1 a0 3) < 0 then (grd (isK s1 23 a0) (bnd (X13_refused s1 a0 1) (fun r6 s7 => some (r6, s7)))) else (grd (isK s1 23 a0) (bnd (X13_fitting s1 a0 (-1)) (fun r2 s3 => grd (isK s3 23 a0) (grd (isK s3 23 a0) (bnd (X13_good s3 a0 (gI s3 a0 27)) (fun r4 s5 => some (r4, s5))))))))))
set_option maxRecDepth 100000 in
set_option maxHeartbeats 4000000 in
theorem X13_could_s (G : Gx) (l : Launch) (s : St) (a0 : Int) : Snd G l mX13_could [(2, a0)] s (X13_could s a0) := by
  refine Snd.of (by decide +kernel) rfl ?_
  show V G l mX13_could 0 [(0, (2, a0))] [] s _
  unfold X13_could
  refine V_aload_n dec_X13_could.1.1.1.1 0 rfl ?_
  refine V_iconst dec_X13_could.1.1.1.2 rfl ?_
  refine V_putI (host := "") 13 0 nf_13_0 ty_13_0 (Or.inl ⟨fl_X13_49, Or.inl rfl⟩) dec_X13_could.1.1.2.1 ?_
  refine V_lets fun s1 => ?_
  refine V_aload_n dec_X13_could.1.1.2.2 0 rfl ?_
  refine V_getR 13 3 nf_13_3 ft_13_3 fl_X13_303 dec_X13_could.1.2.1.1 ?_
  refine V_ifnonnull (tgt := 18) dec_X13_could.1.2.1.2 (by decide) ?_ ?_
  · refine V_aload_n dec_X13_could.1.2.2.1 0 rfl ?_
    refine V_iconst dec_X13_could.1.2.2.2.1 rfl ?_
    refine V_callV0 (ci := 13) (a := a0) (As := [(0, 1)]) (st := []) rfl rfl (X13_refused_s G l s1 a0 1) cal_X13_refused rfl ml_X13_55 rfl rfl dec_X13_could.1.2.2.2.2 (k_tag (tag := 0) rfl fun r6 s7 => ?_)
    exact V_iret rfl dec_X13_could.2.1.1.1
  · refine V_aload_n dec_X13_could.2.1.1.2 0 rfl ?_
    refine V_iconst dec_X13_could.2.1.2.1 rfl ?_
    refine V_callV0 (ci := 13) (a := a0) (As := [(0, (-1))]) (st := []) rfl rfl (X13_fitting_s G l s1 a0 (-1)) cal_X13_fitting rfl ml_X13_422 rfl rfl dec_X13_could.2.1.2.2.1 (k_tag (tag := 0) rfl fun r2 s3 => ?_)
    refine V_pop (nl0 _) dec_X13_could.2.1.2.2.2 ?_
    refine V_aload_n dec_X13_could.2.2.1.1 0 rfl ?_
    refine V_aload_n dec_X13_could.2.2.1.2 0 rfl ?_
    refine V_getI 13 27 nf_13_27 ft_13_27 fl_X13_413 dec_X13_could.2.2.2.1 ?_
    refine V_callV0 (ci := 13) (a := a0) (As := [(0, (gI s3 a0 27))]) (st := []) rfl rfl (X13_good_s G l s3 a0 (gI s3 a0 27)) cal_X13_good rfl ml_X13_59 rfl rfl dec_X13_could.2.2.2.2.1 (k_tag (tag := 0) rfl fun r4 s5 => ?_)
    exact V_iret rfl dec_X13_could.2.2.2.2.2
theorem dec_X13_dead : (((((decode cX13_dead 0 = .ok (.aload_n 0, 1) ∧ (decode cX13_dead 1 = .ok (.iconst 0, 1) ∧ decode cX13_dead 2 = .ok (.putfield 49, 3))) ∧ (decode cX13_dead 5 = .ok (.aload_n 0, 1) ∧ (decode cX13_dead 6 = .ok (.iload_n 1, 1) ∧ decode cX13_dead 7 = .ok (.invokevirtual 348, 3)))) ∧ ((decode cX13_dead 10 = .ok (.ifCond .eq 12, 3) ∧ (decode cX13_dead 13 = .ok (.iload_n 2, 1) ∧ decode cX13_dead 14 = .ok (.iconst 0, 1))) ∧ ((decode cX13_dead 15 = .ok (.iconst 3, 1) ∧ decode cX13_dead 16 = .ok (.invokestatic 128, 3)) ∧ (decode cX13_dead 19 = .ok (.ifCond .ne 9, 3) ∧ decode cX13_dead 22 = .ok (.aload_n 0, 1))))) ∧ (((decode cX13_dead 23 = .ok (.iconst 1, 1) ∧ (decode cX13_dead 24 = .ok (.invokevirtual 55, 3) ∧ decode cX13_dead 27 = .ok (.ireturn, 1))) ∧ (decode cX13_dead 28 = .ok (.aload_n 0, 1) ∧ (decode cX13_dead 29 = .ok (.iload_n 2, 1) ∧ decode cX13_dead 30 = .ok (.ifCond .ne 15, 3)))) ∧ ((decode cX13_dead 33 = .ok (.aload_n 0, 1) ∧ (decode cX13_dead 34 = .ok (.getfield 303, 3) ∧ decode cX13_dead 37 = .ok (.getfield 258, 3))) ∧ ((decode cX13_dead 40 = .ok (.iload_n 1, 1) ∧ decode cX13_dead 41 = .ok (.iaload, 1)) ∧ (decode cX13_dead 42 = .ok (.goto 46, 3) ∧ decode cX13_dead 45 = .ok (.iload_n 2, 1)))))) ∧ ((((decode cX13_dead 46 = .ok (.iconst 1, 1) ∧ (decode cX13_dead 47 = .ok (.if_icmp .ne 15, 3) ∧ decode cX13_dead 50 = .ok (.aload_n 0, 1))) ∧ (decode cX13_dead 51 = .ok (.getfield 17, 3) ∧ (decode cX13_dead 54 = .ok (.bipush 6, 2) ∧ decode cX13_dead 56 = .ok (.iload_n 1, 1)))) ∧ ((decode cX13_dead 57 = .ok (.iadd, 1) ∧ (decode cX13_dead 58 = .ok (.iaload, 1) ∧ decode cX13_dead 59 = .ok (.goto 29, 3))) ∧ ((decode cX13_dead 62 = .ok (.iload_n 2, 1) ∧ decode cX13_dead 63 = .ok (.iconst 2, 1)) ∧ (decode cX13_dead 64 = .ok (.if_icmp .ne 15, 3) ∧ decode cX13_dead 67 = .ok (.aload_n 0, 1))))) ∧ (((decode cX13_dead 68 = .ok (.getfield 303, 3) ∧ (decode cX13_dead 71 = .ok (.getfield 263, 3) ∧ decode cX13_dead 74 = .ok (.iload_n 1, 1))) ∧ (decode cX13_dead 75 = .ok (.iaload, 1) ∧ (decode cX13_dead 76 = .ok (.goto 12, 3) ∧ decode cX13_dead 79 = .ok (.aload_n 0, 1)))) ∧ ((decode cX13_dead 80 = .ok (.getfield 17, 3) ∧ (decode cX13_dead 83 = .ok (.bipush 12, 2) ∧ decode cX13_dead 85 = .ok (.iload_n 1, 1))) ∧ ((decode cX13_dead 86 = .ok (.iadd, 1) ∧ decode cX13_dead 87 = .ok (.iaload, 1)) ∧ (decode cX13_dead 88 = .ok (.invokevirtual 59, 3) ∧ decode cX13_dead 91 = .ok (.ireturn, 1))))))) := ⟨⟨⟨by decide +kernel, by decide +kernel⟩, ⟨by decide +kernel, by decide +kernel⟩⟩, ⟨⟨by decide +kernel, by decide +kernel⟩, ⟨by decide +kernel, by decide +kernel⟩⟩⟩
def X13_dead_b22 (s : St) (x0 : Int) : Rs :=
  grd (isK s 23 x0) (bnd (X13_refused s x0 1) (fun r4 s5 => some (r4, s5)))
set_option maxRecDepth 100000 in
set_option maxHeartbeats 4000000 in
theorem X13_dead_b22_s (G : Gx) (l : Launch) (s : St) (x0 : Int) : V G l mX13_dead 22 [(0, (2, x0))] [] s (X13_dead_b22 s x0) := by
  unfold X13_dead_b22
  refine V_aload_n dec_X13_dead.1.1.2.2.2.2 0 rfl ?_
  refine V_iconst dec_X13_dead.1.2.1.1.1 rfl ?_
  refine V_callV0 (ci := 13) (a := x0) (As := [(0, 1)]) (st := []) rfl rfl (X13_refused_s G l s x0 1) cal_X13_refused rfl ml_X13_55 rfl rfl dec_X13_dead.1.2.1.1.2.1 (k_tag (tag := 0) rfl fun r4 s5 => ?_)
  exact V_iret rfl dec_X13_dead.1.2.1.1.2.2
def X13_dead_b88 (s : St) (k0 k1 : Int) : Rs :=
  grd (isK s 23 k1) (bnd (X13_good s k1 k0) (fun r8 s9 => some (r8, s9)))
set_option maxRecDepth 100000 in
set_option maxHeartbeats 4000000 in
theorem X13_dead_b88_s (G : Gx) (l : Launch) (s : St) (k0 k1 : Int) : V G l mX13_dead 88 [] [(0, k0), (2, k1)] s (X13_dead_b88 s k0 k1) := by
  unfold X13_dead_b88
  refine V_callV0 (ci := 13) (a := k1) (As := [(0, k0)]) (st := []) rfl rfl (X13_good_s G l s k1 k0) cal_X13_good rfl ml_X13_59 rfl rfl dec_X13_dead.2.2.2.2.2.1 (k_tag (tag := 0) rfl fun r8 s9 => ?_)
  exact V_iret rfl dec_X13_dead.2.2.2.2.2.2
def X13_dead (s : St) (a0 a1 a2 : Int) : Rs :=
  grd (isK s 23 a0) (lets (pI s a0 0 0) (fun s1 => grd (isK s1 23 a0) (bnd (X13_isDead s1 a0 a1) (fun r2 s3 => if r2 = 0 then (X13_dead_b22 s3 a0) else (bnd (X13_in s3 a2 0 3) (fun r6 s7 => if ¬ r6 = 0 then (if ¬ a2 = 0 then (if ¬ a2 = (1 : Int) then (if ¬ a2 = (2 : Int) then (grd (isK s7 23 a0) (grd (isK s7 1 (gR s7 a0 15) ∧ 0 ≤ (w32 (12 + a1)) ∧ (w32 (12 + a1)) < ln s7 (gR s7 a0 15)) (X13_dead_b88 s7 (gI s7 (gR s7 a0 15) (w32 (12 + a1)).toNat) a0))) else (grd (isK s7 23 a0) (grd (isK s7 22 (gR s7 a0 3)) (grd (isK s7 1 (gR s7 (gR s7 a0 3) 11) ∧ 0 ≤ a1 ∧ a1 < ln s7 (gR s7 (gR s7 a0 3) 11)) (X13_dead_b88 s7 (gI s7 (gR s7 (gR s7 a0 3) 11) a1.toNat) a0))))) else (grd (isK s7 23 a0) (grd (isK s7 1 (gR s7 a0 15) ∧ 0 ≤ (w32 (6 + a1)) ∧ (w32 (6 + a1)) < ln s7 (gR s7 a0 15)) (X13_dead_b88 s7 (gI s7 (gR s7 a0 15) (w32 (6 + a1)).toNat) a0)))) else (grd (isK s7 23 a0) (grd (isK s7 22 (gR s7 a0 3)) (grd (isK s7 1 (gR s7 (gR s7 a0 3) 9) ∧ 0 ≤ a1 ∧ a1 < ln s7 (gR s7 (gR s7 a0 3) 9)) (X13_dead_b88 s7 (gI s7 (gR s7 (gR s7 a0 3) 9) a1.toNat) a0))))) else (X13_dead_b22 s7 a0)))))))
set_option maxRecDepth 100000 in
set_option maxHeartbeats 4000000 in
theorem X13_dead_s (G : Gx) (l : Launch) (s : St) (a0 a1 a2 : Int) : Snd G l mX13_dead [(2, a0), (0, a1), (0, a2)] s (X13_dead s a0 a1 a2) := by
  refine Snd.of (by decide +kernel) rfl ?_
  show V G l mX13_dead 0 [(0, (2, a0)), (1, (0, a1)), (2, (0, a2))] [] s _
  unfold X13_dead
  refine V_aload_n dec_X13_dead.1.1.1.1.1 0 rfl ?_
  refine V_iconst dec_X13_dead.1.1.1.1.2.1 rfl ?_
  refine V_putI (host := "") 13 0 nf_13_0 ty_13_0 (Or.inl ⟨fl_X13_49, Or.inl rfl⟩) dec_X13_dead.1.1.1.1.2.2 ?_
  refine V_lets fun s1 => ?_
  refine V_aload_n dec_X13_dead.1.1.1.2.1 0 rfl ?_
  refine V_iload_n dec_X13_dead.1.1.1.2.2.1 1 rfl ?_
  refine V_callV0 (ci := 13) (a := a0) (As := [(0, a1)]) (st := []) rfl rfl (X13_isDead_s G l s1 a0 a1) cal_X13_isDead rfl ml_X13_348 rfl rfl dec_X13_dead.1.1.1.2.2.2 (k_tag (tag := 0) rfl fun r2 s3 => ?_)
  refine V_if_eq (tgt := 22) dec_X13_dead.1.1.2.1.1 (by decide) ?_ ?_
  · exact V_pick [0] rfl (X13_dead_b22_s G l s3 a0)
  · refine V_iload_n dec_X13_dead.1.1.2.1.2.1 2 rfl ?_
    refine V_iconst dec_X13_dead.1.1.2.1.2.2 rfl ?_
    refine V_iconst dec_X13_dead.1.1.2.2.1.1 rfl ?_
    refine V_callS0 (As := [(0, a2), (0, 0), (0, 3)]) (st := []) (host := "") rfl (X13_in_s G l s3 a2 0 3) cal_X13_in rfl (Or.inl ml_X13_128) rfl rfl dec_X13_dead.1.1.2.2.1.2 (k_tag (tag := 0) rfl fun r6 s7 => ?_)
    refine V_if_ne (tgt := 28) dec_X13_dead.1.1.2.2.2.1 (by decide) ?_ ?_
    · refine V_aload_n dec_X13_dead.1.2.1.2.1 0 rfl ?_
      refine V_iload_n dec_X13_dead.1.2.1.2.2.1 2 rfl ?_
      refine V_if_ne (tgt := 45) dec_X13_dead.1.2.1.2.2.2 (by decide) ?_ ?_
      · refine V_iload_n dec_X13_dead.1.2.2.2.2.2 2 rfl ?_
        refine V_iconst dec_X13_dead.2.1.1.1.1 rfl ?_
        refine V_icmp_ne (tgt := 62) dec_X13_dead.2.1.1.1.2.1 (by decide) ?_ ?_
        · refine V_iload_n dec_X13_dead.2.1.2.2.1.1 2 rfl ?_
          refine V_iconst dec_X13_dead.2.1.2.2.1.2 rfl ?_
          refine V_icmp_ne (tgt := 79) dec_X13_dead.2.1.2.2.2.1 (by decide) ?_ ?_
          · refine V_aload_n dec_X13_dead.2.2.1.2.2.2 0 rfl ?_
            refine V_getR 13 15 nf_13_15 ft_13_15 fl_X13_17 dec_X13_dead.2.2.2.1.1 ?_
            refine V_bipush dec_X13_dead.2.2.2.1.2.1 rfl ?_
            refine V_iload_n dec_X13_dead.2.2.2.1.2.2 1 rfl ?_
            refine V_iadd dec_X13_dead.2.2.2.2.1.1 ?_
            refine V_iald dec_X13_dead.2.2.2.2.1.2 ?_
            exact V_pick [] rfl (X13_dead_b88_s G l s7 (gI s7 (gR s7 a0 15) (w32 (12 + a1)).toNat) a0)
          · refine V_aload_n dec_X13_dead.2.1.2.2.2.2 0 rfl ?_
            refine V_getR 13 3 nf_13_3 ft_13_3 fl_X13_303 dec_X13_dead.2.2.1.1.1 ?_
            refine V_getRN RX13 12 11 nf_12_11 ft_12_11 fl_X13_263 dec_X13_dead.2.2.1.1.2.1 ?_
            refine V_iload_n dec_X13_dead.2.2.1.1.2.2 1 rfl ?_
            refine V_iald dec_X13_dead.2.2.1.2.1 ?_
            refine V_goto (tgt := 88) dec_X13_dead.2.2.1.2.2.1 (by decide) ?_
            exact V_pick [] rfl (X13_dead_b88_s G l s7 (gI s7 (gR s7 (gR s7 a0 3) 11) a1.toNat) a0)
        · refine V_aload_n dec_X13_dead.2.1.1.1.2.2 0 rfl ?_
          refine V_getR 13 15 nf_13_15 ft_13_15 fl_X13_17 dec_X13_dead.2.1.1.2.1 ?_
          refine V_bipush dec_X13_dead.2.1.1.2.2.1 rfl ?_
          refine V_iload_n dec_X13_dead.2.1.1.2.2.2 1 rfl ?_
          refine V_iadd dec_X13_dead.2.1.2.1.1 ?_
          refine V_iald dec_X13_dead.2.1.2.1.2.1 ?_
          refine V_goto (tgt := 88) dec_X13_dead.2.1.2.1.2.2 (by decide) ?_
          exact V_pick [] rfl (X13_dead_b88_s G l s7 (gI s7 (gR s7 a0 15) (w32 (6 + a1)).toNat) a0)
      · refine V_aload_n dec_X13_dead.1.2.2.1.1 0 rfl ?_
        refine V_getR 13 3 nf_13_3 ft_13_3 fl_X13_303 dec_X13_dead.1.2.2.1.2.1 ?_
        refine V_getRN RX13 12 9 nf_12_9 ft_12_9 fl_X13_258 dec_X13_dead.1.2.2.1.2.2 ?_
        refine V_iload_n dec_X13_dead.1.2.2.2.1.1 1 rfl ?_
        refine V_iald dec_X13_dead.1.2.2.2.1.2 ?_
        refine V_goto (tgt := 88) dec_X13_dead.1.2.2.2.2.1 (by decide) ?_
        exact V_pick [] rfl (X13_dead_b88_s G l s7 (gI s7 (gR s7 (gR s7 a0 3) 9) a1.toNat) a0)
    · exact V_pick [0] rfl (X13_dead_b22_s G l s7 a0)
