theorem dec_X13_slipFor : (((((decode cX13_slipFor 0 = .ok (.aload_n 0, 1) ∧ decode cX13_slipFor 1 = .ok (.iconst 0, 1)) ∧ (decode cX13_slipFor 2 = .ok (.putfield 49, 3) ∧ (decode cX13_slipFor 5 = .ok (.aload_n 0, 1) ∧ decode cX13_slipFor 6 = .ok (.aload_n 0, 1)))) ∧ ((decode cX13_slipFor 7 = .ok (.iload_n 1, 1) ∧ (decode cX13_slipFor 8 = .ok (.invokevirtual 348, 3) ∧ decode cX13_slipFor 11 = .ok (.iload_n 2, 1))) ∧ (decode cX13_slipFor 12 = .ok (.invokevirtual 354, 3) ∧ (decode cX13_slipFor 15 = .ok (.istore_n 3, 1) ∧ decode cX13_slipFor 16 = .ok (.iload_n 3, 1))))) ∧ (((decode cX13_slipFor 17 = .ok (.ifCond .le 9, 3) ∧ decode cX13_slipFor 20 = .ok (.aload_n 0, 1)) ∧ (decode cX13_slipFor 21 = .ok (.iload_n 3, 1) ∧ (decode cX13_slipFor 22 = .ok (.invokevirtual 55, 3) ∧ decode cX13_slipFor 25 = .ok (.ireturn, 1)))) ∧ ((decode cX13_slipFor 26 = .ok (.aload_n 0, 1) ∧ (decode cX13_slipFor 27 = .ok (.invokevirtual 342, 3) ∧ decode cX13_slipFor 30 = .ok (.iconst 0, 1))) ∧ (decode cX13_slipFor 31 = .ok (.istore 4, 2) ∧ (decode cX13_slipFor 33 = .ok (.iload 4, 2) ∧ decode cX13_slipFor 35 = .ok (.bipush 39, 2)))))) ∧ ((((decode cX13_slipFor 37 = .ok (.if_icmp .gt 36, 3) ∧ decode cX13_slipFor 40 = .ok (.aload_n 0, 1)) ∧ (decode cX13_slipFor 41 = .ok (.getfield 21, 3) ∧ (decode cX13_slipFor 44 = .ok (.bipush 6, 2) ∧ decode cX13_slipFor 46 = .ok (.iload_n 1, 1)))) ∧ ((decode cX13_slipFor 47 = .ok (.iadd, 1) ∧ (decode cX13_slipFor 48 = .ok (.iload 4, 2) ∧ decode cX13_slipFor 50 = .ok (.iastore, 1))) ∧ (decode cX13_slipFor 51 = .ok (.aload_n 0, 1) ∧ (decode cX13_slipFor 52 = .ok (.iload_n 1, 1) ∧ decode cX13_slipFor 53 = .ok (.iload_n 2, 1))))) ∧ (((decode cX13_slipFor 54 = .ok (.invokevirtual 336, 3) ∧ (decode cX13_slipFor 57 = .ok (.ifCond .eq 10, 3) ∧ decode cX13_slipFor 60 = .ok (.aload_n 0, 1))) ∧ (decode cX13_slipFor 61 = .ok (.iload 4, 2) ∧ (decode cX13_slipFor 63 = .ok (.invokevirtual 59, 3) ∧ decode cX13_slipFor 66 = .ok (.ireturn, 1)))) ∧ ((decode cX13_slipFor 67 = .ok (.iinc 4 1, 3) ∧ (decode cX13_slipFor 70 = .ok (.goto (-37), 3) ∧ decode cX13_slipFor 73 = .ok (.aload_n 0, 1))) ∧ (decode cX13_slipFor 74 = .ok (.bipush (-2), 2) ∧ (decode cX13_slipFor 76 = .ok (.invokevirtual 59, 3) ∧ decode cX13_slipFor 79 = .ok (.ireturn, 1))))))) := ⟨⟨by decide +kernel, by decide +kernel⟩, ⟨by decide +kernel, by decide +kernel⟩⟩
def X13_slipFor_b33_body (rk33 : St → Int → Int → Int → Int → Rs) (s : St) (x0 x1 x2 x4 : Int) : Rs :=
  if (39 : Int) < x4 then (grd (isK s 23 x0) (bnd (X13_good s x0 (-2)) (fun r8 s9 => some (r8, s9)))) else (grd (isK s 23 x0) (grd (isK s 1 (gR s x0 16) ∧ 0 ≤ (w32 (6 + x1)) ∧ (w32 (6 + x1)) < ln s (gR s x0 16)) (lets (pI s (gR s x0 16) (w32 (6 + x1)).toNat x4) (fun s10 => grd (isK s10 23 x0) (bnd (X13_isRight s10 x0 x1 x2) (fun r11 s12 => if r11 = 0 then (rk33 s12 x0 x1 x2 (w32 (x4 + 1))) else (grd (isK s12 23 x0) (bnd (X13_good s12 x0 x4) (fun r13 s14 => some (r13, s14))))))))))
def X13_slipFor_b33 (n : Nat) (s : St) (x0 x1 x2 x4 : Int) : Rs := iter (fun (rec : St × Int × Int × Int × Int → Rs) (a : St × Int × Int × Int × Int) => X13_slipFor_b33_body (fun (s : St) (x0 x1 x2 x4 : Int) => rec (s, x0, x1, x2, x4)) a.1 a.2.1 a.2.2.1 a.2.2.2.1 a.2.2.2.2) n (s, x0, x1, x2, x4)
theorem X13_slipFor_b33_0 (s : St) (x0 x1 x2 x4 : Int) : X13_slipFor_b33 0 s x0 x1 x2 x4 = none := rfl
theorem X13_slipFor_b33_1 (n : Nat) (s : St) (x0 x1 x2 x4 : Int) : X13_slipFor_b33 (n + 1) s x0 x1 x2 x4 = X13_slipFor_b33_body (X13_slipFor_b33 n) s x0 x1 x2 x4 := rfl
set_option maxRecDepth 100000 in
set_option maxHeartbeats 4000000 in
theorem X13_slipFor_b33_body_s (G : Gx) (l : Launch) (rk33 : St → Int → Int → Int → Int → Rs) (hk33 : ∀ (s : St) (x0 x1 x2 x4 : Int), V G l mX13_slipFor 33 [(0, (2, x0)), (1, (0, x1)), (2, (0, x2)), (4, (0, x4))] [] s (rk33 s x0 x1 x2 x4)) (s : St) (x0 x1 x2 x4 : Int) : V G l mX13_slipFor 33 [(0, (2, x0)), (1, (0, x1)), (2, (0, x2)), (4, (0, x4))] [] s (X13_slipFor_b33_body rk33 s x0 x1 x2 x4) := by
  unfold X13_slipFor_b33_body
  refine V_iload dec_X13_slipFor.1.2.2.2.2.1 3 rfl ?_
  refine V_bipush dec_X13_slipFor.1.2.2.2.2.2 rfl ?_
  refine V_icmp_gt (tgt := 73) dec_X13_slipFor.2.1.1.1.1 (by decide) ?_ ?_
  · refine V_aload_n dec_X13_slipFor.2.2.2.1.2.2 0 rfl ?_
    refine V_bipush dec_X13_slipFor.2.2.2.2.1 rfl ?_
    refine V_callV0 (ci := 13) (a := x0) (As := [(0, (-2))]) (st := []) rfl rfl (X13_good_s G l s x0 (-2)) cal_X13_good rfl ml_X13_59 rfl rfl dec_X13_slipFor.2.2.2.2.2.1 (k_tag (tag := 0) rfl fun r8 s9 => ?_)
    exact V_iret rfl dec_X13_slipFor.2.2.2.2.2.2
  · refine V_aload_n dec_X13_slipFor.2.1.1.1.2 0 rfl ?_
    refine V_getR 13 16 nf_13_16 ft_13_16 fl_X13_21 dec_X13_slipFor.2.1.1.2.1 ?_
    refine V_bipush dec_X13_slipFor.2.1.1.2.2.1 rfl ?_
    refine V_iload_n dec_X13_slipFor.2.1.1.2.2.2 1 rfl ?_
    refine V_iadd dec_X13_slipFor.2.1.2.1.1 ?_
    refine V_iload dec_X13_slipFor.2.1.2.1.2.1 3 rfl ?_
    refine V_iast dec_X13_slipFor.2.1.2.1.2.2 ?_
    refine V_lets fun s10 => ?_
    refine V_aload_n dec_X13_slipFor.2.1.2.2.1 0 rfl ?_
    refine V_iload_n dec_X13_slipFor.2.1.2.2.2.1 1 rfl ?_
    refine V_iload_n dec_X13_slipFor.2.1.2.2.2.2 2 rfl ?_
    refine V_callV0 (ci := 13) (a := x0) (As := [(0, x1), (0, x2)]) (st := []) rfl rfl (X13_isRight_s G l s10 x0 x1 x2) cal_X13_isRight rfl ml_X13_336 rfl rfl dec_X13_slipFor.2.2.1.1.1 (k_tag (tag := 0) rfl fun r11 s12 => ?_)
    refine V_if_eq (tgt := 67) dec_X13_slipFor.2.2.1.1.2.1 (by decide) ?_ ?_
    · refine V_iinc (lv' := [(4, (0, (w32 (x4 + 1)))), (0, (2, x0)), (1, (0, x1)), (2, (0, x2))]) dec_X13_slipFor.2.2.2.1.1 3 rfl (by decide) rfl ?_
      refine V_goto (tgt := 33) dec_X13_slipFor.2.2.2.1.2.1 (by decide) ?_
      exact V_pick [1, 2, 3, 0] rfl (hk33 s12 x0 x1 x2 (w32 (x4 + 1)))
    · refine V_aload_n dec_X13_slipFor.2.2.1.1.2.2 0 rfl ?_
      refine V_iload dec_X13_slipFor.2.2.1.2.1 3 rfl ?_
      refine V_callV0 (ci := 13) (a := x0) (As := [(0, x4)]) (st := []) rfl rfl (X13_good_s G l s12 x0 x4) cal_X13_good rfl ml_X13_59 rfl rfl dec_X13_slipFor.2.2.1.2.2.1 (k_tag (tag := 0) rfl fun r13 s14 => ?_)
      exact V_iret rfl dec_X13_slipFor.2.2.1.2.2.2
theorem X13_slipFor_b33_s (G : Gx) (l : Launch) (n : Nat) (s : St) (x0 x1 x2 x4 : Int) : V G l mX13_slipFor 33 [(0, (2, x0)), (1, (0, x1)), (2, (0, x2)), (4, (0, x4))] [] s (X13_slipFor_b33 n s x0 x1 x2 x4) :=
  V_iter (LV := fun a : St × Int × Int × Int × Int => [(0, (2, a.2.1)), (1, (0, a.2.2.1)), (2, (0, a.2.2.2.1)), (4, (0, a.2.2.2.2))]) (ST := fun a : St × Int × Int × Int × Int => []) (SS := fun a : St × Int × Int × Int × Int => a.1) (fun rec hrec a => X13_slipFor_b33_body_s G l (fun (s : St) (x0 x1 x2 x4 : Int) => rec (s, x0, x1, x2, x4)) (fun (s : St) (x0 x1 x2 x4 : Int) => hrec (s, x0, x1, x2, x4)) a.1 a.2.1 a.2.2.1 a.2.2.2.1 a.2.2.2.2) n (s, x0, x1, x2, x4)
def X13_slipFor (s : St) (a0 a1 a2 : Int) : Rs :=
  grd (isK s 23 a0) (lets (pI s a0 0 0) (fun s1 => grd (isK s1 23 a0) (bnd (X13_isDead s1 a0 a1) (fun r2 s3 => grd (isK s3 23 a0) (bnd (X13_refusesNight s3 a0 r2 a2) (fun r4 s5 => if r4 ≤ 0 then (grd (isK s5 23 a0) (bnd (X13_works s5 a0) (fun r6 s7 => X13_slipFor_b33 FU s7 a0 a1 a2 0))) else (grd (isK s5 23 a0) (bnd (X13_refused s5 a0 r4) (fun r15 s16 => some (r15, s16))))))))))
set_option maxRecDepth 100000 in
set_option maxHeartbeats 4000000 in
theorem X13_slipFor_s (G : Gx) (l : Launch) (s : St) (a0 a1 a2 : Int) : Snd G l mX13_slipFor [(2, a0), (0, a1), (0, a2)] s (X13_slipFor s a0 a1 a2) := by
  refine Snd.of (by decide +kernel) rfl ?_
  show V G l mX13_slipFor 0 [(0, (2, a0)), (1, (0, a1)), (2, (0, a2))] [] s _
  unfold X13_slipFor
  refine V_aload_n dec_X13_slipFor.1.1.1.1.1 0 rfl ?_
  refine V_iconst dec_X13_slipFor.1.1.1.1.2 rfl ?_
  refine V_putI (host := "") 13 0 nf_13_0 ty_13_0 (Or.inl ⟨fl_X13_49, Or.inl rfl⟩) dec_X13_slipFor.1.1.1.2.1 ?_
  refine V_lets fun s1 => ?_
  refine V_aload_n dec_X13_slipFor.1.1.1.2.2.1 0 rfl ?_
  refine V_aload_n dec_X13_slipFor.1.1.1.2.2.2 0 rfl ?_
  refine V_iload_n dec_X13_slipFor.1.1.2.1.1 1 rfl ?_
  refine V_callV0 (ci := 13) (a := a0) (As := [(0, a1)]) (st := [(2, a0)]) rfl rfl (X13_isDead_s G l s1 a0 a1) cal_X13_isDead rfl ml_X13_348 rfl rfl dec_X13_slipFor.1.1.2.1.2.1 (k_tag (tag := 0) rfl fun r2 s3 => ?_)
  refine V_iload_n dec_X13_slipFor.1.1.2.1.2.2 2 rfl ?_
  refine V_callV0 (ci := 13) (a := a0) (As := [(0, r2), (0, a2)]) (st := []) rfl rfl (X13_refusesNight_s G l s3 a0 r2 a2) cal_X13_refusesNight rfl ml_X13_354 rfl rfl dec_X13_slipFor.1.1.2.2.1 (k_tag (tag := 0) rfl fun r4 s5 => ?_)
  refine V_istore_n (lv' := [(3, (0, r4)), (0, (2, a0)), (1, (0, a1)), (2, (0, a2))]) dec_X13_slipFor.1.1.2.2.2.1 (by decide) rfl ?_
  refine V_iload_n dec_X13_slipFor.1.1.2.2.2.2 0 rfl ?_
  refine V_if_le (tgt := 26) dec_X13_slipFor.1.2.1.1.1 (by decide) ?_ ?_
  · refine V_aload_n dec_X13_slipFor.1.2.2.1.1 1 rfl ?_
    refine V_callV0 (ci := 13) (a := a0) (As := []) (st := []) rfl rfl (X13_works_s G l s5 a0) cal_X13_works rfl ml_X13_342 rfl rfl dec_X13_slipFor.1.2.2.1.2.1 (k_void rfl fun r6 s7 => ?_)
    refine V_iconst dec_X13_slipFor.1.2.2.1.2.2 rfl ?_
    refine V_istore (lv' := [(4, (0, 0)), (3, (0, r4)), (0, (2, a0)), (1, (0, a1)), (2, (0, a2))]) dec_X13_slipFor.1.2.2.2.1 (by decide) rfl ?_
    exact V_pick [2, 3, 4, 0] rfl (X13_slipFor_b33_s G l FU s7 a0 a1 a2 0)
  · refine V_aload_n dec_X13_slipFor.1.2.1.1.2 1 rfl ?_
    refine V_iload_n dec_X13_slipFor.1.2.1.2.1 0 rfl ?_
    refine V_callV0 (ci := 13) (a := a0) (As := [(0, r4)]) (st := []) rfl rfl (X13_refused_s G l s5 a0 r4) cal_X13_refused rfl ml_X13_55 rfl rfl dec_X13_slipFor.1.2.1.2.2.1 (k_tag (tag := 0) rfl fun r15 s16 => ?_)
    exact V_iret rfl dec_X13_slipFor.1.2.1.2.2.2
theorem dec_X13_steps : ((((decode cX13_steps 0 = .ok (.aload_n 0, 1) ∧ decode cX13_steps 1 = .ok (.iconst 0, 1)) ∧ (decode cX13_steps 2 = .ok (.putfield 49, 3) ∧ (decode cX13_steps 5 = .ok (.aload_n 0, 1) ∧ decode cX13_steps 6 = .ok (.iload_n 1, 1)))) ∧ ((decode cX13_steps 7 = .ok (.invokevirtual 351, 3) ∧ (decode cX13_steps 10 = .ok (.ifCond .eq 24, 3) ∧ decode cX13_steps 13 = .ok (.aload_n 0, 1))) ∧ (decode cX13_steps 14 = .ok (.iload_n 2, 1) ∧ (decode cX13_steps 15 = .ok (.invokevirtual 351, 3) ∧ decode cX13_steps 18 = .ok (.ifCond .eq 16, 3))))) ∧ (((decode cX13_steps 21 = .ok (.aload_n 0, 1) ∧ decode cX13_steps 22 = .ok (.aload_n 0, 1)) ∧ (decode cX13_steps 23 = .ok (.iload_n 1, 1) ∧ (decode cX13_steps 24 = .ok (.iload_n 2, 1) ∧ decode cX13_steps 25 = .ok (.invokevirtual 395, 3)))) ∧ ((decode cX13_steps 28 = .ok (.invokevirtual 59, 3) ∧ (decode cX13_steps 31 = .ok (.goto 8, 3) ∧ decode cX13_steps 34 = .ok (.aload_n 0, 1))) ∧ (decode cX13_steps 35 = .ok (.iconst 1, 1) ∧ (decode cX13_steps 36 = .ok (.invokevirtual 55, 3) ∧ decode cX13_steps 39 = .ok (.ireturn, 1)))))) := ⟨by decide +kernel, by decide +kernel⟩
def X13_steps_b39 (s : St) (k0 : Int) : Rs :=
  some (k0, s)
set_option maxRecDepth 100000 in
set_option maxHeartbeats 4000000 in
theorem X13_steps_b39_s (G : Gx) (l : Launch) (s : St) (k0 : Int) : V G l mX13_steps 39 [] [(0, k0)] s (X13_steps_b39 s k0) := by
  unfold X13_steps_b39
  exact V_iret rfl dec_X13_steps.2.2.2.2.2
def X13_steps_b34 (s : St) (x0 : Int) : Rs :=
  grd (isK s 23 x0) (bnd (X13_refused s x0 1) (fun r4 s5 => X13_steps_b39 s5 r4))
set_option maxRecDepth 100000 in
set_option maxHeartbeats 4000000 in
theorem X13_steps_b34_s (G : Gx) (l : Launch) (s : St) (x0 : Int) : V G l mX13_steps 34 [(0, (2, x0))] [] s (X13_steps_b34 s x0) := by
  unfold X13_steps_b34
  refine V_aload_n dec_X13_steps.2.2.1.2.2 0 rfl ?_
  refine V_iconst dec_X13_steps.2.2.2.1 rfl ?_
  refine V_callV0 (ci := 13) (a := x0) (As := [(0, 1)]) (st := []) rfl rfl (X13_refused_s G l s x0 1) cal_X13_refused rfl ml_X13_55 rfl rfl dec_X13_steps.2.2.2.2.1 (k_tag (tag := 0) rfl fun r4 s5 => ?_)
  exact V_pick [] rfl (X13_steps_b39_s G l s5 r4)
def X13_steps (s : St) (a0 a1 a2 : Int) : Rs :=
  grd (isK s 23 a0) (lets (pI s a0 0 0) (fun s1 => grd (isK s1 23 a0) (bnd (X13_isHouse s1 a0 a1) (fun r2 s3 => if r2 = 0 then (X13_steps_b34 s3 a0) else (grd (isK s3 23 a0) (bnd (X13_isHouse s3 a0 a2) (fun r6 s7 => if r6 = 0 then (X13_steps_b34 s7 a0) else (grd (isK s7 23 a0) (bnd (X13_apart s7 a0 a1 a2) (fun r8 s9 => grd (isK s9 23 a0) (bnd (X13_good s9 a0 r8) (fun r10 s11 => X13_steps_b39 s11 r10))))))))))))
set_option maxRecDepth 100000 in
set_option maxHeartbeats 4000000 in
theorem X13_steps_s (G : Gx) (l : Launch) (s : St) (a0 a1 a2 : Int) : Snd G l mX13_steps [(2, a0), (0, a1), (0, a2)] s (X13_steps s a0 a1 a2) := by
  refine Snd.of (by decide +kernel) rfl ?_
  show V G l mX13_steps 0 [(0, (2, a0)), (1, (0, a1)), (2, (0, a2))] [] s _
  unfold X13_steps
  refine V_aload_n dec_X13_steps.1.1.1.1 0 rfl ?_
  refine V_iconst dec_X13_steps.1.1.1.2 rfl ?_
  refine V_putI (host := "") 13 0 nf_13_0 ty_13_0 (Or.inl ⟨fl_X13_49, Or.inl rfl⟩) dec_X13_steps.1.1.2.1 ?_
  refine V_lets fun s1 => ?_
  refine V_aload_n dec_X13_steps.1.1.2.2.1 0 rfl ?_
  refine V_iload_n dec_X13_steps.1.1.2.2.2 1 rfl ?_
  refine V_callV0 (ci := 13) (a := a0) (As := [(0, a1)]) (st := []) rfl rfl (X13_isHouse_s G l s1 a0 a1) cal_X13_isHouse rfl ml_X13_351 rfl rfl dec_X13_steps.1.2.1.1 (k_tag (tag := 0) rfl fun r2 s3 => ?_)
  refine V_if_eq (tgt := 34) dec_X13_steps.1.2.1.2.1 (by decide) ?_ ?_
  · exact V_pick [0] rfl (X13_steps_b34_s G l s3 a0)
  · refine V_aload_n dec_X13_steps.1.2.1.2.2 0 rfl ?_
    refine V_iload_n dec_X13_steps.1.2.2.1 2 rfl ?_
    refine V_callV0 (ci := 13) (a := a0) (As := [(0, a2)]) (st := []) rfl rfl (X13_isHouse_s G l s3 a0 a2) cal_X13_isHouse rfl ml_X13_351 rfl rfl dec_X13_steps.1.2.2.2.1 (k_tag (tag := 0) rfl fun r6 s7 => ?_)
    refine V_if_eq (tgt := 34) dec_X13_steps.1.2.2.2.2 (by decide) ?_ ?_
    · exact V_pick [0] rfl (X13_steps_b34_s G l s7 a0)
    · refine V_aload_n dec_X13_steps.2.1.1.1 0 rfl ?_
      refine V_aload_n dec_X13_steps.2.1.1.2 0 rfl ?_
      refine V_iload_n dec_X13_steps.2.1.2.1 1 rfl ?_
      refine V_iload_n dec_X13_steps.2.1.2.2.1 2 rfl ?_
      refine V_callV0 (ci := 13) (a := a0) (As := [(0, a1), (0, a2)]) (st := [(2, a0)]) rfl rfl (X13_apart_s G l s7 a0 a1 a2) cal_X13_apart rfl ml_X13_395 rfl rfl dec_X13_steps.2.1.2.2.2 (k_tag (tag := 0) rfl fun r8 s9 => ?_)
      refine V_callV0 (ci := 13) (a := a0) (As := [(0, r8)]) (st := []) rfl rfl (X13_good_s G l s9 a0 r8) cal_X13_good rfl ml_X13_59 rfl rfl dec_X13_steps.2.2.1.1 (k_tag (tag := 0) rfl fun r10 s11 => ?_)
      refine V_goto (tgt := 39) dec_X13_steps.2.2.1.2.1 (by decide) ?_
      exact V_pick [] rfl (X13_steps_b39_s G l s11 r10)
theorem dec_X13_surely : ((((decode cX13_surely 0 = .ok (.aload_n 0, 1) ∧ decode cX13_surely 1 = .ok (.iconst 0, 1)) ∧ (decode cX13_surely 2 = .ok (.putfield 49, 3) ∧ decode cX13_surely 5 = .ok (.aload_n 0, 1))) ∧ ((decode cX13_surely 6 = .ok (.getfield 303, 3) ∧ decode cX13_surely 9 = .ok (.ifnonnull 9, 3)) ∧ (decode cX13_surely 12 = .ok (.aload_n 0, 1) ∧ (decode cX13_surely 13 = .ok (.iconst 1, 1) ∧ decode cX13_surely 14 = .ok (.invokevirtual 55, 3))))) ∧ (((decode cX13_surely 17 = .ok (.ireturn, 1) ∧ decode cX13_surely 18 = .ok (.aload_n 0, 1)) ∧ (decode cX13_surely 19 = .ok (.iconst (-1), 1) ∧ (decode cX13_surely 20 = .ok (.invokevirtual 422, 3) ∧ decode cX13_surely 23 = .ok (.pop, 1)))) ∧ ((decode cX13_surely 24 = .ok (.aload_n 0, 1) ∧ decode cX13_surely 25 = .ok (.aload_n 0, 1)) ∧ (decode cX13_surely 26 = .ok (.getfield 416, 3) ∧ (decode cX13_surely 29 = .ok (.invokevirtual 59, 3) ∧ decode cX13_surely 32 = .ok (.ireturn, 1)))))) := ⟨by decide +kernel, by decide +kernel⟩
def X13_surely (s : St) (a0 : Int) : Rs :=
  grd (isK s 23 a0) (lets (pI s a0 0 0) (fun s1 => grd (isK s1 23 a0) (if (gR s1 a0 3) < 0 then (grd (isK s1 23 a0) (bnd (X13_refused s1 a0 1) (fun r6 s7 => some (r6, s7)))) else (grd (isK s1 23 a0) (bnd (X13_fitting s1 a0 (-1)) (fun r2 s3 => grd (isK s3 23 a0) (grd (isK s3 23 a0) (bnd (X13_good s3 a0 (gI s3 a0 28)) (fun r4 s5 => some (r4, s5))))))))))
set_option maxRecDepth 100000 in
set_option maxHeartbeats 4000000 in
theorem X13_surely_s (G : Gx) (l : Launch) (s : St) (a0 : Int) : Snd G l mX13_surely [(2, a0)] s (X13_surely s a0) := by
  refine Snd.of (by decide +kernel) rfl ?_
  show V G l mX13_surely 0 [(0, (2, a0))] [] s _
  unfold X13_surely
  refine V_aload_n dec_X13_surely.1.1.1.1 0 rfl ?_
  refine V_iconst dec_X13_surely.1.1.1.2 rfl ?_
  refine V_putI (host := "") 13 0 nf_13_0 ty_13_0 (Or.inl ⟨fl_X13_49, Or.inl rfl⟩) dec_X13_surely.1.1.2.1 ?_
  refine V_lets fun s1 => ?_
  refine V_aload_n dec_X13_surely.1.1.2.2 0 rfl ?_
  refine V_getR 13 3 nf_13_3 ft_13_3 fl_X13_303 dec_X13_surely.1.2.1.1 ?_
  refine V_ifnonnull (tgt := 18) dec_X13_surely.1.2.1.2 (by decide) ?_ ?_
  · refine V_aload_n dec_X13_surely.1.2.2.1 0 rfl ?_
    refine V_iconst dec_X13_surely.1.2.2.2.1 rfl ?_
    refine V_callV0 (ci := 13) (a := a0) (As := [(0, 1)]) (st := []) rfl rfl (X13_refused_s G l s1 a0 1) cal_X13_refused rfl ml_X13_55 rfl rfl dec_X13_surely.1.2.2.2.2 (k_tag (tag := 0) rfl fun r6 s7 => ?_)
    exact V_iret rfl dec_X13_surely.2.1.1.1
  · refine V_aload_n dec_X13_surely.2.1.1.2 0 rfl ?_
    refine V_iconst dec_X13_surely.2.1.2.1 rfl ?_
    refine V_callV0 (ci := 13) (a := a0) (As := [(0, (-1))]) (st := []) rfl rfl (X13_fitting_s G l s1 a0 (-1)) cal_X13_fitting rfl ml_X13_422 rfl rfl dec_X13_surely.2.1.2.2.1 (k_tag (tag := 0) rfl fun r2 s3 => ?_)
    refine V_pop (nl0 _) dec_X13_surely.2.1.2.2.2 ?_
    refine V_aload_n dec_X13_surely.2.2.1.1 0 rfl ?_
    refine V_aload_n dec_X13_surely.2.2.1.2 0 rfl ?_
    refine V_getI 13 28 nf_13_28 ft_13_28 fl_X13_416 dec_X13_surely.2.2.2.1 ?_
    refine V_callV0 (ci := 13) (a := a0) (As := [(0, (gI s3 a0 28))]) (st := []) rfl rfl (X13_good_s G l s3 a0 (gI s3 a0 28)) cal_X13_good rfl ml_X13_59 rfl rfl dec_X13_surely.2.2.2.2.1 (k_tag (tag := 0) rfl fun r4 s5 => ?_)
    exact V_iret rfl dec_X13_surely.2.2.2.2.2
theorem dec_X13_take : ((((decode cX13_take 0 = .ok (.aload_n 0, 1) ∧ decode cX13_take 1 = .ok (.iconst 0, 1)) ∧ (decode cX13_take 2 = .ok (.putfield 49, 3) ∧ decode cX13_take 5 = .ok (.aload_n 0, 1))) ∧ ((decode cX13_take 6 = .ok (.iload_n 1, 1) ∧ decode cX13_take 7 = .ok (.invokevirtual 348, 3)) ∧ (decode cX13_take 10 = .ok (.ifCond .eq 13, 3) ∧ decode cX13_take 13 = .ok (.aload_n 0, 1)))) ∧ (((decode cX13_take 14 = .ok (.iload_n 1, 1) ∧ decode cX13_take 15 = .ok (.bipush (-2), 2)) ∧ (decode cX13_take 17 = .ok (.invokevirtual 478, 3) ∧ decode cX13_take 20 = .ok (.goto 8, 3))) ∧ ((decode cX13_take 23 = .ok (.aload_n 0, 1) ∧ decode cX13_take 24 = .ok (.iconst 1, 1)) ∧ (decode cX13_take 25 = .ok (.invokevirtual 472, 3) ∧ decode cX13_take 28 = .ok (.ireturn, 1))))) := ⟨by decide +kernel, by decide +kernel⟩
def X13_take_b28 (s : St) (k0 : Int) : Rs :=
  grd (k0 = 0 ∨ k0 = 1) (some (k0, s))
set_option maxRecDepth 100000 in
set_option maxHeartbeats 4000000 in
theorem X13_take_b28_s (G : Gx) (l : Launch) (s : St) (k0 : Int) : V G l mX13_take 28 [] [(0, k0)] s (X13_take_b28 s k0) := by
  unfold X13_take_b28
  exact V_zret rfl dec_X13_take.2.2.2.2
def X13_take (s : St) (a0 a1 : Int) : Rs :=
  grd (isK s 23 a0) (lets (pI s a0 0 0) (fun s1 => grd (isK s1 23 a0) (bnd (X13_isDead s1 a0 a1) (fun r2 s3 => if r2 = 0 then (grd (isK s3 23 a0) (bnd (X13_denied s3 a0 1) (fun r4 s5 => X13_take_b28 s5 r4))) else (grd (isK s3 23 a0) (bnd (X13_hangs s3 a0 a1 (-2)) (fun r6 s7 => X13_take_b28 s7 r6)))))))
set_option maxRecDepth 100000 in
set_option maxHeartbeats 4000000 in
theorem X13_take_s (G : Gx) (l : Launch) (s : St) (a0 a1 : Int) : Snd G l mX13_take [(2, a0), (0, a1)] s (X13_take s a0 a1) := by
  refine Snd.of (by decide +kernel) rfl ?_
  show V G l mX13_take 0 [(0, (2, a0)), (1, (0, a1))] [] s _
  unfold X13_take
  refine V_aload_n dec_X13_take.1.1.1.1 0 rfl ?_
  refine V_iconst dec_X13_take.1.1.1.2 rfl ?_
  refine V_putI (host := "") 13 0 nf_13_0 ty_13_0 (Or.inl ⟨fl_X13_49, Or.inl rfl⟩) dec_X13_take.1.1.2.1 ?_
  refine V_lets fun s1 => ?_
  refine V_aload_n dec_X13_take.1.1.2.2 0 rfl ?_
  refine V_iload_n dec_X13_take.1.2.1.1 1 rfl ?_
  refine V_callV0 (ci := 13) (a := a0) (As := [(0, a1)]) (st := []) rfl rfl (X13_isDead_s G l s1 a0 a1) cal_X13_isDead rfl ml_X13_348 rfl rfl dec_X13_take.1.2.1.2 (k_tag (tag := 0) rfl fun r2 s3 => ?_)
  refine V_if_eq (tgt := 23) dec_X13_take.1.2.2.1 (by decide) ?_ ?_
  · refine V_aload_n dec_X13_take.2.2.1.1 0 rfl ?_
    refine V_iconst dec_X13_take.2.2.1.2 rfl ?_
    refine V_callV0 (ci := 13) (a := a0) (As := [(0, 1)]) (st := []) rfl rfl (X13_denied_s G l s3 a0 1) cal_X13_denied rfl ml_X13_472 rfl rfl dec_X13_take.2.2.2.1 (k_tag (tag := 0) rfl fun r4 s5 => ?_)
    exact V_pick [] rfl (X13_take_b28_s G l s5 r4)
  · refine V_aload_n dec_X13_take.1.2.2.2 0 rfl ?_
    refine V_iload_n dec_X13_take.2.1.1.1 1 rfl ?_
    refine V_bipush dec_X13_take.2.1.1.2 rfl ?_
    refine V_callV0 (ci := 13) (a := a0) (As := [(0, a1), (0, (-2))]) (st := []) rfl rfl (X13_hangs_s G l s3 a0 a1 (-2)) cal_X13_hangs rfl ml_X13_478 rfl rfl dec_X13_take.2.1.2.1 (k_tag (tag := 0) rfl fun r6 s7 => ?_)
    refine V_goto (tgt := 28) dec_X13_take.2.1.2.2 (by decide) ?_
    exact V_pick [] rfl (X13_take_b28_s G l s7 r6)
theorem dec_X13_teach : (((((decode cX13_teach 0 = .ok (.aload_n 0, 1) ∧ decode cX13_teach 1 = .ok (.iconst 0, 1)) ∧ (decode cX13_teach 2 = .ok (.putfield 49, 3) ∧ (decode cX13_teach 5 = .ok (.aload_n 0, 1) ∧ decode cX13_teach 6 = .ok (.iload_n 1, 1)))) ∧ ((decode cX13_teach 7 = .ok (.invokevirtual 348, 3) ∧ (decode cX13_teach 10 = .ok (.ifCond .ne 9, 3) ∧ decode cX13_teach 13 = .ok (.aload_n 0, 1))) ∧ (decode cX13_teach 14 = .ok (.iconst 1, 1) ∧ (decode cX13_teach 15 = .ok (.invokevirtual 472, 3) ∧ decode cX13_teach 18 = .ok (.ireturn, 1))))) ∧ (((decode cX13_teach 19 = .ok (.iload_n 2, 1) ∧ decode cX13_teach 20 = .ok (.iconst 0, 1)) ∧ (decode cX13_teach 21 = .ok (.bipush 39, 2) ∧ (decode cX13_teach 23 = .ok (.invokestatic 128, 3) ∧ decode cX13_teach 26 = .ok (.ifCond .ne 9, 3)))) ∧ ((decode cX13_teach 29 = .ok (.aload_n 0, 1) ∧ (decode cX13_teach 30 = .ok (.iconst 2, 1) ∧ decode cX13_teach 31 = .ok (.invokevirtual 472, 3))) ∧ (decode cX13_teach 34 = .ok (.ireturn, 1) ∧ (decode cX13_teach 35 = .ok (.aload_n 0, 1) ∧ decode cX13_teach 36 = .ok (.getfield 17, 3)))))) ∧ ((((decode cX13_teach 39 = .ok (.bipush 6, 2) ∧ decode cX13_teach 41 = .ok (.iload_n 1, 1)) ∧ (decode cX13_teach 42 = .ok (.iadd, 1) ∧ (decode cX13_teach 43 = .ok (.iaload, 1) ∧ decode cX13_teach 44 = .ok (.iload_n 2, 1)))) ∧ ((decode cX13_teach 45 = .ok (.if_icmp .ne 9, 3) ∧ (decode cX13_teach 48 = .ok (.aload_n 0, 1) ∧ decode cX13_teach 49 = .ok (.iconst 5, 1))) ∧ (decode cX13_teach 50 = .ok (.invokevirtual 472, 3) ∧ (decode cX13_teach 53 = .ok (.ireturn, 1) ∧ decode cX13_teach 54 = .ok (.aload_n 0, 1))))) ∧ (((decode cX13_teach 55 = .ok (.invokevirtual 469, 3) ∧ decode cX13_teach 58 = .ok (.aload_n 0, 1)) ∧ (decode cX13_teach 59 = .ok (.getfield 17, 3) ∧ (decode cX13_teach 62 = .ok (.bipush 6, 2) ∧ decode cX13_teach 64 = .ok (.iload_n 1, 1)))) ∧ ((decode cX13_teach 65 = .ok (.iadd, 1) ∧ (decode cX13_teach 66 = .ok (.iload_n 2, 1) ∧ decode cX13_teach 67 = .ok (.iastore, 1))) ∧ (decode cX13_teach 68 = .ok (.aload_n 0, 1) ∧ (decode cX13_teach 69 = .ok (.invokevirtual 475, 3) ∧ decode cX13_teach 72 = .ok (.ireturn, 1))))))) := ⟨⟨by decide +kernel, by decide +kernel⟩, ⟨by decide +kernel, by decide +kernel⟩⟩
def X13_teach (s : St) (a0 a1 a2 : Int) : Rs :=
  grd (isK s 23 a0) (lets (pI s a0 0 0) (fun s1 => grd (isK s1 23 a0) (bnd (X13_isDead s1 a0 a1) (fun r2 s3 => if ¬ r2 = 0 then (bnd (X13_in s3 a2 0 39) (fun r4 s5 => if ¬ r4 = 0 then (grd (isK s5 23 a0) (grd (isK s5 1 (gR s5 a0 15) ∧ 0 ≤ (w32 (6 + a1)) ∧ (w32 (6 + a1)) < ln s5 (gR s5 a0 15)) (if ¬ (gI s5 (gR s5 a0 15) (w32 (6 + a1)).toNat) = a2 then (grd (isK s5 23 a0) (bnd (X13_remembers s5 a0) (fun r6 s7 => grd (isK s7 23 a0) (grd (isK s7 1 (gR s7 a0 15) ∧ 0 ≤ (w32 (6 + a1)) ∧ (w32 (6 + a1)) < ln s7 (gR s7 a0 15)) (lets (pI s7 (gR s7 a0 15) (w32 (6 + a1)).toNat a2) (fun s8 => grd (isK s8 23 a0) (bnd (X13_granted s8 a0) (fun r9 s10 => grd (r9 = 0 ∨ r9 = 1) (some (r9, s10)))))))))) else (grd (isK s5 23 a0) (bnd (X13_denied s5 a0 5) (fun r11 s12 => grd (r11 = 0 ∨ r11 = 1) (some (r11, s12)))))))) else (grd (isK s5 23 a0) (bnd (X13_denied s5 a0 2) (fun r13 s14 => grd (r13 = 0 ∨ r13 = 1) (some (r13, s14))))))) else (grd (isK s3 23 a0) (bnd (X13_denied s3 a0 1) (fun r15 s16 => grd (r15 = 0 ∨ r15 = 1) (some (r15, s16)))))))))
set_option maxRecDepth 100000 in
set_option maxHeartbeats 4000000 in
theorem X13_teach_s (G : Gx) (l : Launch) (s : St) (a0 a1 a2 : Int) : Snd G l mX13_teach [(2, a0), (0, a1), (0, a2)] s (X13_teach s a0 a1 a2) := by
  refine Snd.of (by decide +kernel) rfl ?_
  show V G l mX13_teach 0 [(0, (2, a0)), (1, (0, a1)), (2, (0, a2))] [] s _
  unfold X13_teach
  refine V_aload_n dec_X13_teach.1.1.1.1.1 0 rfl ?_
  refine V_iconst dec_X13_teach.1.1.1.1.2 rfl ?_
  refine V_putI (host := "") 13 0 nf_13_0 ty_13_0 (Or.inl ⟨fl_X13_49, Or.inl rfl⟩) dec_X13_teach.1.1.1.2.1 ?_
  refine V_lets fun s1 => ?_
  refine V_aload_n dec_X13_teach.1.1.1.2.2.1 0 rfl ?_
  refine V_iload_n dec_X13_teach.1.1.1.2.2.2 1 rfl ?_
  refine V_callV0 (ci := 13) (a := a0) (As := [(0, a1)]) (st := []) rfl rfl (X13_isDead_s G l s1 a0 a1) cal_X13_isDead rfl ml_X13_348 rfl rfl dec_X13_teach.1.1.2.1.1 (k_tag (tag := 0) rfl fun r2 s3 => ?_)
  refine V_if_ne (tgt := 19) dec_X13_teach.1.1.2.1.2.1 (by decide) ?_ ?_
  · refine V_iload_n dec_X13_teach.1.2.1.1.1 2 rfl ?_
    refine V_iconst dec_X13_teach.1.2.1.1.2 rfl ?_
    refine V_bipush dec_X13_teach.1.2.1.2.1 rfl ?_
    refine V_callS0 (As := [(0, a2), (0, 0), (0, 39)]) (st := []) (host := "") rfl (X13_in_s G l s3 a2 0 39) cal_X13_in rfl (Or.inl ml_X13_128) rfl rfl dec_X13_teach.1.2.1.2.2.1 (k_tag (tag := 0) rfl fun r4 s5 => ?_)
    refine V_if_ne (tgt := 35) dec_X13_teach.1.2.1.2.2.2 (by decide) ?_ ?_
    · refine V_aload_n dec_X13_teach.1.2.2.2.2.1 0 rfl ?_
      refine V_getR 13 15 nf_13_15 ft_13_15 fl_X13_17 dec_X13_teach.1.2.2.2.2.2 ?_
      refine V_bipush dec_X13_teach.2.1.1.1.1 rfl ?_
      refine V_iload_n dec_X13_teach.2.1.1.1.2 1 rfl ?_
      refine V_iadd dec_X13_teach.2.1.1.2.1 ?_
      refine V_iald dec_X13_teach.2.1.1.2.2.1 ?_
      refine V_iload_n dec_X13_teach.2.1.1.2.2.2 2 rfl ?_
      refine V_icmp_ne (tgt := 54) dec_X13_teach.2.1.2.1.1 (by decide) ?_ ?_
      · refine V_aload_n dec_X13_teach.2.1.2.2.2.2 0 rfl ?_
        refine V_callV0 (ci := 13) (a := a0) (As := []) (st := []) rfl rfl (X13_remembers_s G l s5 a0) cal_X13_remembers rfl ml_X13_469 rfl rfl dec_X13_teach.2.2.1.1.1 (k_void rfl fun r6 s7 => ?_)
        refine V_aload_n dec_X13_teach.2.2.1.1.2 0 rfl ?_
        refine V_getR 13 15 nf_13_15 ft_13_15 fl_X13_17 dec_X13_teach.2.2.1.2.1 ?_
        refine V_bipush dec_X13_teach.2.2.1.2.2.1 rfl ?_
        refine V_iload_n dec_X13_teach.2.2.1.2.2.2 1 rfl ?_
        refine V_iadd dec_X13_teach.2.2.2.1.1 ?_
        refine V_iload_n dec_X13_teach.2.2.2.1.2.1 2 rfl ?_
        refine V_iast dec_X13_teach.2.2.2.1.2.2 ?_
        refine V_lets fun s8 => ?_
        refine V_aload_n dec_X13_teach.2.2.2.2.1 0 rfl ?_
        refine V_callV0 (ci := 13) (a := a0) (As := []) (st := []) rfl rfl (X13_granted_s G l s8 a0) cal_X13_granted rfl ml_X13_475 rfl rfl dec_X13_teach.2.2.2.2.2.1 (k_tag (tag := 0) rfl fun r9 s10 => ?_)
        exact V_zret rfl dec_X13_teach.2.2.2.2.2.2
      · refine V_aload_n dec_X13_teach.2.1.2.1.2.1 0 rfl ?_
        refine V_iconst dec_X13_teach.2.1.2.1.2.2 rfl ?_
        refine V_callV0 (ci := 13) (a := a0) (As := [(0, 5)]) (st := []) rfl rfl (X13_denied_s G l s5 a0 5) cal_X13_denied rfl ml_X13_472 rfl rfl dec_X13_teach.2.1.2.2.1 (k_tag (tag := 0) rfl fun r11 s12 => ?_)
        exact V_zret rfl dec_X13_teach.2.1.2.2.2.1
    · refine V_aload_n dec_X13_teach.1.2.2.1.1 0 rfl ?_
      refine V_iconst dec_X13_teach.1.2.2.1.2.1 rfl ?_
      refine V_callV0 (ci := 13) (a := a0) (As := [(0, 2)]) (st := []) rfl rfl (X13_denied_s G l s5 a0 2) cal_X13_denied rfl ml_X13_472 rfl rfl dec_X13_teach.1.2.2.1.2.2 (k_tag (tag := 0) rfl fun r13 s14 => ?_)
      exact V_zret rfl dec_X13_teach.1.2.2.2.1
  · refine V_aload_n dec_X13_teach.1.1.2.1.2.2 0 rfl ?_
    refine V_iconst dec_X13_teach.1.1.2.2.1 rfl ?_
    refine V_callV0 (ci := 13) (a := a0) (As := [(0, 1)]) (st := []) rfl rfl (X13_denied_s G l s3 a0 1) cal_X13_denied rfl ml_X13_472 rfl rfl dec_X13_teach.1.1.2.2.2.1 (k_tag (tag := 0) rfl fun r15 s16 => ?_)
    exact V_zret rfl dec_X13_teach.1.1.2.2.2.2
theorem dec_X13_thrown : (decode cX13_thrown 0 = .ok (.aload_n 0, 1) ∧ (decode cX13_thrown 1 = .ok (.getfield 49, 3) ∧ decode cX13_thrown 4 = .ok (.ireturn, 1))) := by decide +kernel
def X13_thrown (s : St) (a0 : Int) : Rs :=
  grd (isK s 23 a0) (some ((gI s a0 0), s))
set_option maxRecDepth 100000 in
set_option maxHeartbeats 4000000 in
theorem X13_thrown_s (G : Gx) (l : Launch) (s : St) (a0 : Int) : Snd G l mX13_thrown [(2, a0)] s (X13_thrown s a0) := by
  refine Snd.of (by decide +kernel) rfl ?_
  show V G l mX13_thrown 0 [(0, (2, a0))] [] s _
  unfold X13_thrown
  refine V_aload_n dec_X13_thrown.1 0 rfl ?_
  refine V_getI 13 0 nf_13_0 ft_13_0 fl_X13_49 dec_X13_thrown.2.1 ?_
  exact V_iret rfl dec_X13_thrown.2.2
theorem dec_X13_together : (((((decode cX13_together 0 = .ok (.aload_n 0, 1) ∧ decode cX13_together 1 = .ok (.iconst 0, 1)) ∧ (decode cX13_together 2 = .ok (.putfield 49, 3) ∧ (decode cX13_together 5 = .ok (.aload_n 0, 1) ∧ decode cX13_together 6 = .ok (.iload_n 1, 1)))) ∧ ((decode cX13_together 7 = .ok (.invokevirtual 348, 3) ∧ (decode cX13_together 10 = .ok (.ifCond .eq 16, 3) ∧ decode cX13_together 13 = .ok (.aload_n 0, 1))) ∧ (decode cX13_together 14 = .ok (.iload_n 2, 1) ∧ (decode cX13_together 15 = .ok (.invokevirtual 348, 3) ∧ decode cX13_together 18 = .ok (.ifCond .eq 8, 3))))) ∧ (((decode cX13_together 21 = .ok (.iload_n 1, 1) ∧ decode cX13_together 22 = .ok (.iload_n 2, 1)) ∧ (decode cX13_together 23 = .ok (.if_icmp .ne 9, 3) ∧ (decode cX13_together 26 = .ok (.aload_n 0, 1) ∧ decode cX13_together 27 = .ok (.iconst 1, 1)))) ∧ ((decode cX13_together 28 = .ok (.invokevirtual 55, 3) ∧ (decode cX13_together 31 = .ok (.ireturn, 1) ∧ decode cX13_together 32 = .ok (.aload_n 0, 1))) ∧ (decode cX13_together 33 = .ok (.invokevirtual 342, 3) ∧ (decode cX13_together 36 = .ok (.iconst 0, 1) ∧ decode cX13_together 37 = .ok (.istore_n 3, 1)))))) ∧ ((((decode cX13_together 38 = .ok (.iload_n 3, 1) ∧ decode cX13_together 39 = .ok (.bipush 100, 2)) ∧ (decode cX13_together 41 = .ok (.if_icmp .ge 30, 3) ∧ (decode cX13_together 44 = .ok (.aload_n 0, 1) ∧ decode cX13_together 45 = .ok (.iload_n 1, 1)))) ∧ ((decode cX13_together 46 = .ok (.iload_n 3, 1) ∧ (decode cX13_together 47 = .ok (.invokevirtual 333, 3) ∧ decode cX13_together 50 = .ok (.aload_n 0, 1))) ∧ (decode cX13_together 51 = .ok (.iload_n 2, 1) ∧ (decode cX13_together 52 = .ok (.iload_n 3, 1) ∧ decode cX13_together 53 = .ok (.invokevirtual 333, 3))))) ∧ (((decode cX13_together 56 = .ok (.if_icmp .ne 9, 3) ∧ decode cX13_together 59 = .ok (.aload_n 0, 1)) ∧ (decode cX13_together 60 = .ok (.iload_n 3, 1) ∧ (decode cX13_together 61 = .ok (.invokevirtual 59, 3) ∧ decode cX13_together 64 = .ok (.ireturn, 1)))) ∧ ((decode cX13_together 65 = .ok (.iinc 3 1, 3) ∧ (decode cX13_together 68 = .ok (.goto (-30), 3) ∧ decode cX13_together 71 = .ok (.aload_n 0, 1))) ∧ (decode cX13_together 72 = .ok (.bipush (-2), 2) ∧ (decode cX13_together 74 = .ok (.invokevirtual 59, 3) ∧ decode cX13_together 77 = .ok (.ireturn, 1))))))) := ⟨⟨by decide +kernel, by decide +kernel⟩, ⟨by decide +kernel, by decide +kernel⟩⟩
def X13_together_b26 (s : St) (x0 : Int) : Rs :=
  grd (isK s 23 x0) (bnd (X13_refused s x0 1) (fun r4 s5 => some (r4, s5)))
set_option maxRecDepth 100000 in
set_option maxHeartbeats 4000000 in
theorem X13_together_b26_s (G : Gx) (l : Launch) (s : St) (x0 : Int) : V G l mX13_together 26 [(0, (2, x0))] [] s (X13_together_b26 s x0) := by
  unfold X13_together_b26
  refine V_aload_n dec_X13_together.1.2.1.2.2.1 0 rfl ?_
  refine V_iconst dec_X13_together.1.2.1.2.2.2 rfl ?_
  refine V_callV0 (ci := 13) (a := x0) (As := [(0, 1)]) (st := []) rfl rfl (X13_refused_s G l s x0 1) cal_X13_refused rfl ml_X13_55 rfl rfl dec_X13_together.1.2.2.1.1 (k_tag (tag := 0) rfl fun r4 s5 => ?_)
  exact V_iret rfl dec_X13_together.1.2.2.1.2.1
def X13_together_b38_body (rk38 : St → Int → Int → Int → Int → Rs) (s : St) (x0 x1 x2 x3 : Int) : Rs :=
  if (100 : Int) ≤ x3 then (grd (isK s 23 x0) (bnd (X13_good s x0 (-2)) (fun r10 s11 => some (r10, s11)))) else (grd (isK s 23 x0) (bnd (X13_whoHears s x0 x1 x3) (fun r12 s13 => grd (isK s13 23 x0) (bnd (X13_whoHears s13 x0 x2 x3) (fun r14 s15 => if ¬ r12 = r14 then (rk38 s15 x0 x1 x2 (w32 (x3 + 1))) else (grd (isK s15 23 x0) (bnd (X13_good s15 x0 x3) (fun r16 s17 => some (r16, s17)))))))))
def X13_together_b38 (n : Nat) (s : St) (x0 x1 x2 x3 : Int) : Rs := iter (fun (rec : St × Int × Int × Int × Int → Rs) (a : St × Int × Int × Int × Int) => X13_together_b38_body (fun (s : St) (x0 x1 x2 x3 : Int) => rec (s, x0, x1, x2, x3)) a.1 a.2.1 a.2.2.1 a.2.2.2.1 a.2.2.2.2) n (s, x0, x1, x2, x3)
theorem X13_together_b38_0 (s : St) (x0 x1 x2 x3 : Int) : X13_together_b38 0 s x0 x1 x2 x3 = none := rfl
theorem X13_together_b38_1 (n : Nat) (s : St) (x0 x1 x2 x3 : Int) : X13_together_b38 (n + 1) s x0 x1 x2 x3 = X13_together_b38_body (X13_together_b38 n) s x0 x1 x2 x3 := rfl
set_option maxRecDepth 100000 in
set_option maxHeartbeats 4000000 in
theorem X13_together_b38_body_s (G : Gx) (l : Launch) (rk38 : St → Int → Int → Int → Int → Rs) (hk38 : ∀ (s : St) (x0 x1 x2 x3 : Int), V G l mX13_together 38 [(0, (2, x0)), (1, (0, x1)), (2, (0, x2)), (3, (0, x3))] [] s (rk38 s x0 x1 x2 x3)) (s : St) (x0 x1 x2 x3 : Int) : V G l mX13_together 38 [(0, (2, x0)), (1, (0, x1)), (2, (0, x2)), (3, (0, x3))] [] s (X13_together_b38_body rk38 s x0 x1 x2 x3) := by
  unfold X13_together_b38_body
  refine V_iload_n dec_X13_together.2.1.1.1.1 3 rfl ?_
  refine V_bipush dec_X13_together.2.1.1.1.2 rfl ?_
  refine V_icmp_ge (tgt := 71) dec_X13_together.2.1.1.2.1 (by decide) ?_ ?_
  · refine V_aload_n dec_X13_together.2.2.2.1.2.2 0 rfl ?_
    refine V_bipush dec_X13_together.2.2.2.2.1 rfl ?_
    refine V_callV0 (ci := 13) (a := x0) (As := [(0, (-2))]) (st := []) rfl rfl (X13_good_s G l s x0 (-2)) cal_X13_good rfl ml_X13_59 rfl rfl dec_X13_together.2.2.2.2.2.1 (k_tag (tag := 0) rfl fun r10 s11 => ?_)
    exact V_iret rfl dec_X13_together.2.2.2.2.2.2
  · refine V_aload_n dec_X13_together.2.1.1.2.2.1 0 rfl ?_
    refine V_iload_n dec_X13_together.2.1.1.2.2.2 1 rfl ?_
    refine V_iload_n dec_X13_together.2.1.2.1.1 3 rfl ?_
    refine V_callV0 (ci := 13) (a := x0) (As := [(0, x1), (0, x3)]) (st := []) rfl rfl (X13_whoHears_s G l s x0 x1 x3) cal_X13_whoHears rfl ml_X13_333 rfl rfl dec_X13_together.2.1.2.1.2.1 (k_tag (tag := 0) rfl fun r12 s13 => ?_)
    refine V_aload_n dec_X13_together.2.1.2.1.2.2 0 rfl ?_
    refine V_iload_n dec_X13_together.2.1.2.2.1 2 rfl ?_
    refine V_iload_n dec_X13_together.2.1.2.2.2.1 3 rfl ?_
    refine V_callV0 (ci := 13) (a := x0) (As := [(0, x2), (0, x3)]) (st := [(0, r12)]) rfl rfl (X13_whoHears_s G l s13 x0 x2 x3) cal_X13_whoHears rfl ml_X13_333 rfl rfl dec_X13_together.2.1.2.2.2.2 (k_tag (tag := 0) rfl fun r14 s15 => ?_)
    refine V_icmp_ne (tgt := 65) dec_X13_together.2.2.1.1.1 (by decide) ?_ ?_
    · refine V_iinc (lv' := [(3, (0, (w32 (x3 + 1)))), (0, (2, x0)), (1, (0, x1)), (2, (0, x2))]) dec_X13_together.2.2.2.1.1 3 rfl (by decide) rfl ?_
      refine V_goto (tgt := 38) dec_X13_together.2.2.2.1.2.1 (by decide) ?_
      exact V_pick [1, 2, 3, 0] rfl (hk38 s15 x0 x1 x2 (w32 (x3 + 1)))
    · refine V_aload_n dec_X13_together.2.2.1.1.2 0 rfl ?_
      refine V_iload_n dec_X13_together.2.2.1.2.1 3 rfl ?_
      refine V_callV0 (ci := 13) (a := x0) (As := [(0, x3)]) (st := []) rfl rfl (X13_good_s G l s15 x0 x3) cal_X13_good rfl ml_X13_59 rfl rfl dec_X13_together.2.2.1.2.2.1 (k_tag (tag := 0) rfl fun r16 s17 => ?_)
      exact V_iret rfl dec_X13_together.2.2.1.2.2.2
theorem X13_together_b38_s (G : Gx) (l : Launch) (n : Nat) (s : St) (x0 x1 x2 x3 : Int) : V G l mX13_together 38 [(0, (2, x0)), (1, (0, x1)), (2, (0, x2)), (3, (0, x3))] [] s (X13_together_b38 n s x0 x1 x2 x3) :=
  V_iter (LV := fun a : St × Int × Int × Int × Int => [(0, (2, a.2.1)), (1, (0, a.2.2.1)), (2, (0, a.2.2.2.1)), (3, (0, a.2.2.2.2))]) (ST := fun a : St × Int × Int × Int × Int => []) (SS := fun a : St × Int × Int × Int × Int => a.1) (fun rec hrec a => X13_together_b38_body_s G l (fun (s : St) (x0 x1 x2 x3 : Int) => rec (s, x0, x1, x2, x3)) (fun (s : St) (x0 x1 x2 x3 : Int) => hrec (s, x0, x1, x2, x3)) a.1 a.2.1 a.2.2.1 a.2.2.2.1 a.2.2.2.2) n (s, x0, x1, x2, x3)
def X13_together (s : St) (a0 a1 a2 : Int) : Rs :=
  grd (isK s 23 a0) (lets (pI s a0 0 0) (fun s1 => grd (isK s1 23 a0) (bnd (X13_isDead s1 a0 a1) (fun r2 s3 => if r2 = 0 then (X13_together_b26 s3 a0) else (grd (isK s3 23 a0) (bnd (X13_isDead s3 a0 a2) (fun r6 s7 => if r6 = 0 then (X13_together_b26 s7 a0) else (if ¬ a1 = a2 then (grd (isK s7 23 a0) (bnd (X13_works s7 a0) (fun r8 s9 => X13_together_b38 FU s9 a0 a1 a2 0))) else (X13_together_b26 s7 a0)))))))))
set_option maxRecDepth 100000 in
set_option maxHeartbeats 4000000 in
theorem X13_together_s (G : Gx) (l : Launch) (s : St) (a0 a1 a2 : Int) : Snd G l mX13_together [(2, a0), (0, a1), (0, a2)] s (X13_together s a0 a1 a2) := by
  refine Snd.of (by decide +kernel) rfl ?_
  show V G l mX13_together 0 [(0, (2, a0)), (1, (0, a1)), (2, (0, a2))] [] s _
  unfold X13_together
  refine V_aload_n dec_X13_together.1.1.1.1.1 0 rfl ?_
  refine V_iconst dec_X13_together.1.1.1.1.2 rfl ?_
  refine V_putI (host := "") 13 0 nf_13_0 ty_13_0 (Or.inl ⟨fl_X13_49, Or.inl rfl⟩) dec_X13_together.1.1.1.2.1 ?_
  refine V_lets fun s1 => ?_
  refine V_aload_n dec_X13_together.1.1.1.2.2.1 0 rfl ?_
  refine V_iload_n dec_X13_together.1.1.1.2.2.2 1 rfl ?_
  refine V_callV0 (ci := 13) (a := a0) (As := [(0, a1)]) (st := []) rfl rfl (X13_isDead_s G l s1 a0 a1) cal_X13_isDead rfl ml_X13_348 rfl rfl dec_X13_together.1.1.2.1.1 (k_tag (tag := 0) rfl fun r2 s3 => ?_)
  refine V_if_eq (tgt := 26) dec_X13_together.1.1.2.1.2.1 (by decide) ?_ ?_
  · exact V_pick [0] rfl (X13_together_b26_s G l s3 a0)
  · refine V_aload_n dec_X13_together.1.1.2.1.2.2 0 rfl ?_
    refine V_iload_n dec_X13_together.1.1.2.2.1 2 rfl ?_
    refine V_callV0 (ci := 13) (a := a0) (As := [(0, a2)]) (st := []) rfl rfl (X13_isDead_s G l s3 a0 a2) cal_X13_isDead rfl ml_X13_348 rfl rfl dec_X13_together.1.1.2.2.2.1 (k_tag (tag := 0) rfl fun r6 s7 => ?_)
    refine V_if_eq (tgt := 26) dec_X13_together.1.1.2.2.2.2 (by decide) ?_ ?_
    · exact V_pick [0] rfl (X13_together_b26_s G l s7 a0)
    · refine V_iload_n dec_X13_together.1.2.1.1.1 1 rfl ?_
      refine V_iload_n dec_X13_together.1.2.1.1.2 2 rfl ?_
      refine V_icmp_ne (tgt := 32) dec_X13_together.1.2.1.2.1 (by decide) ?_ ?_
      · refine V_aload_n dec_X13_together.1.2.2.1.2.2 0 rfl ?_
        refine V_callV0 (ci := 13) (a := a0) (As := []) (st := []) rfl rfl (X13_works_s G l s7 a0) cal_X13_works rfl ml_X13_342 rfl rfl dec_X13_together.1.2.2.2.1 (k_void rfl fun r8 s9 => ?_)
        refine V_iconst dec_X13_together.1.2.2.2.2.1 rfl ?_
        refine V_istore_n (lv' := [(3, (0, 0)), (0, (2, a0)), (1, (0, a1)), (2, (0, a2))]) dec_X13_together.1.2.2.2.2.2 (by decide) rfl ?_
        exact V_pick [1, 2, 3, 0] rfl (X13_together_b38_s G l FU s9 a0 a1 a2 0)
      · exact V_pick [0] rfl (X13_together_b26_s G l s7 a0)
theorem dec_X13_town : ((((((decode cX13_town 0 = .ok (.aload_n 0, 1) ∧ decode cX13_town 1 = .ok (.iconst 0, 1)) ∧ (decode cX13_town 2 = .ok (.putfield 49, 3) ∧ (decode cX13_town 5 = .ok (.iload_n 1, 1) ∧ decode cX13_town 6 = .ok (.ifCond .lt 11, 3)))) ∧ ((decode cX13_town 9 = .ok (.iload_n 1, 1) ∧ decode cX13_town 10 = .ok (.aload_n 0, 1)) ∧ (decode cX13_town 11 = .ok (.getfield 296, 3) ∧ (decode cX13_town 14 = .ok (.if_icmp .le 9, 3) ∧ decode cX13_town 17 = .ok (.aload_n 0, 1))))) ∧ (((decode cX13_town 18 = .ok (.iconst 2, 1) ∧ decode cX13_town 19 = .ok (.invokevirtual 55, 3)) ∧ (decode cX13_town 22 = .ok (.ireturn, 1) ∧ (decode cX13_town 23 = .ok (.aload_n 0, 1) ∧ decode cX13_town 24 = .ok (.iload_n 1, 1)))) ∧ ((decode cX13_town 25 = .ok (.putfield 66, 3) ∧ decode cX13_town 28 = .ok (.aload_n 0, 1)) ∧ (decode cX13_town 29 = .ok (.iconst 0, 1) ∧ (decode cX13_town 30 = .ok (.putfield 296, 3) ∧ decode cX13_town 33 = .ok (.aload_n 0, 1)))))) ∧ ((((decode cX13_town 34 = .ok (.iconst 0, 1) ∧ decode cX13_town 35 = .ok (.putfield 84, 3)) ∧ (decode cX13_town 38 = .ok (.aload_n 0, 1) ∧ (decode cX13_town 39 = .ok (.iconst 0, 1) ∧ decode cX13_town 40 = .ok (.putfield 107, 3)))) ∧ ((decode cX13_town 43 = .ok (.aload_n 0, 1) ∧ decode cX13_town 44 = .ok (.new 160, 3)) ∧ (decode cX13_town 47 = .ok (.dup, 1) ∧ (decode cX13_town 48 = .ok (.invokespecial 299, 3) ∧ decode cX13_town 51 = .ok (.putfield 155, 3))))) ∧ (((decode cX13_town 54 = .ok (.aload_n 0, 1) ∧ decode cX13_town 55 = .ok (.iconst 0, 1)) ∧ (decode cX13_town 56 = .ok (.putfield 81, 3) ∧ (decode cX13_town 59 = .ok (.aload_n 0, 1) ∧ decode cX13_town 60 = .ok (.invokevirtual 117, 3)))) ∧ ((decode cX13_town 63 = .ok (.aload_n 0, 1) ∧ (decode cX13_town 64 = .ok (.invokevirtual 300, 3) ∧ decode cX13_town 67 = .ok (.aload_n 0, 1))) ∧ (decode cX13_town 68 = .ok (.getfield 107, 3) ∧ (decode cX13_town 71 = .ok (.ifCond .le 18, 3) ∧ decode cX13_town 74 = .ok (.aload_n 0, 1))))))) ∧ (((((decode cX13_town 75 = .ok (.iconst 4, 1) ∧ decode cX13_town 76 = .ok (.putfield 52, 3)) ∧ (decode cX13_town 79 = .ok (.aload_n 0, 1) ∧ (decode cX13_town 80 = .ok (.aload_n 0, 1) ∧ decode cX13_town 81 = .ok (.getfield 110, 3)))) ∧ ((decode cX13_town 84 = .ok (.putfield 9, 3) ∧ decode cX13_town 87 = .ok (.iconst (-1), 1)) ∧ (decode cX13_town 88 = .ok (.ireturn, 1) ∧ (decode cX13_town 89 = .ok (.aload_n 0, 1) ∧ decode cX13_town 90 = .ok (.aload_n 0, 1))))) ∧ (((decode cX13_town 91 = .ok (.getfield 155, 3) ∧ decode cX13_town 94 = .ok (.putfield 303, 3)) ∧ (decode cX13_town 97 = .ok (.aload_n 0, 1) ∧ (decode cX13_town 98 = .ok (.iconst 0, 1) ∧ decode cX13_town 99 = .ok (.invokevirtual 305, 3)))) ∧ ((decode cX13_town 102 = .ok (.iconst 0, 1) ∧ (decode cX13_town 103 = .ok (.istore_n 2, 1) ∧ decode cX13_town 104 = .ok (.iload_n 2, 1))) ∧ (decode cX13_town 105 = .ok (.bipush 19, 2) ∧ (decode cX13_town 107 = .ok (.if_icmp .ge 21, 3) ∧ decode cX13_town 110 = .ok (.aload_n 0, 1)))))) ∧ ((((decode cX13_town 111 = .ok (.getfield 17, 3) ∧ decode cX13_town 114 = .ok (.iload_n 2, 1)) ∧ (decode cX13_town 115 = .ok (.aload_n 0, 1) ∧ (decode cX13_town 116 = .ok (.getfield 21, 3) ∧ decode cX13_town 119 = .ok (.iload_n 2, 1)))) ∧ ((decode cX13_town 120 = .ok (.iaload, 1) ∧ decode cX13_town 121 = .ok (.iastore, 1)) ∧ (decode cX13_town 122 = .ok (.iinc 2 1, 3) ∧ (decode cX13_town 125 = .ok (.goto (-21), 3) ∧ decode cX13_town 128 = .ok (.aload_n 0, 1))))) ∧ (((decode cX13_town 129 = .ok (.iconst 0, 1) ∧ decode cX13_town 130 = .ok (.putfield 308, 3)) ∧ (decode cX13_town 133 = .ok (.aload_n 0, 1) ∧ (decode cX13_town 134 = .ok (.iconst 0, 1) ∧ decode cX13_town 135 = .ok (.putfield 311, 3)))) ∧ ((decode cX13_town 138 = .ok (.aload_n 0, 1) ∧ (decode cX13_town 139 = .ok (.aload_n 0, 1) ∧ decode cX13_town 140 = .ok (.getfield 303, 3))) ∧ (decode cX13_town 143 = .ok (.getfield 193, 3) ∧ (decode cX13_town 146 = .ok (.invokevirtual 59, 3) ∧ decode cX13_town 149 = .ok (.ireturn, 1)))))))) := ⟨⟨⟨by decide +kernel, by decide +kernel⟩, ⟨by decide +kernel, by decide +kernel⟩⟩, ⟨⟨by decide +kernel, by decide +kernel⟩, ⟨by decide +kernel, by decide +kernel⟩⟩⟩
def X13_town_b17 (s : St) (x0 : Int) : Rs :=
  grd (isK s 23 x0) (bnd (X13_refused s x0 2) (fun r2 s3 => some (r2, s3)))
set_option maxRecDepth 100000 in
set_option maxHeartbeats 4000000 in
theorem X13_town_b17_s (G : Gx) (l : Launch) (s : St) (x0 : Int) : V G l mX13_town 17 [(0, (2, x0))] [] s (X13_town_b17 s x0) := by
  unfold X13_town_b17
  refine V_aload_n dec_X13_town.1.1.1.2.2.2.2 0 rfl ?_
  refine V_iconst dec_X13_town.1.1.2.1.1.1 rfl ?_
  refine V_callV0 (ci := 13) (a := x0) (As := [(0, 2)]) (st := []) rfl rfl (X13_refused_s G l s x0 2) cal_X13_refused rfl ml_X13_55 rfl rfl dec_X13_town.1.1.2.1.1.2 (k_tag (tag := 0) rfl fun r2 s3 => ?_)
  exact V_iret rfl dec_X13_town.1.1.2.1.2.1
def X13_town_b104_body (rk104 : St → Int → Int → Rs) (s : St) (x0 x2 : Int) : Rs :=
  if (19 : Int) ≤ x2 then (grd (isK s 23 x0) (lets (pI s x0 19 0) (fun s20 => grd (isK s20 23 x0) (lets (pI s20 x0 20 0) (fun s21 => grd (isK s21 23 x0) (grd (isK s21 22 (gR s21 x0 3)) (grd (isK s21 23 x0) (bnd (X13_good s21 x0 (gI s21 (gR s21 x0 3) 2)) (fun r22 s23 => some (r22, s23)))))))))) else (grd (isK s 23 x0) (grd (isK s 23 x0) (grd (isK s 1 (gR s x0 16) ∧ 0 ≤ x2 ∧ x2 < ln s (gR s x0 16)) (grd (isK s 1 (gR s x0 15) ∧ 0 ≤ x2 ∧ x2 < ln s (gR s x0 15)) (lets (pI s (gR s x0 15) x2.toNat (gI s (gR s x0 16) x2.toNat)) (fun s24 => rk104 s24 x0 (w32 (x2 + 1))))))))
def X13_town_b104 (n : Nat) (s : St) (x0 x2 : Int) : Rs := iter (fun (rec : St × Int × Int → Rs) (a : St × Int × Int) => X13_town_b104_body (fun (s : St) (x0 x2 : Int) => rec (s, x0, x2)) a.1 a.2.1 a.2.2) n (s, x0, x2)
theorem X13_town_b104_0 (s : St) (x0 x2 : Int) : X13_town_b104 0 s x0 x2 = none := rfl
theorem X13_town_b104_1 (n : Nat) (s : St) (x0 x2 : Int) : X13_town_b104 (n + 1) s x0 x2 = X13_town_b104_body (X13_town_b104 n) s x0 x2 := rfl
set_option maxRecDepth 100000 in
set_option maxHeartbeats 4000000 in
theorem X13_town_b104_body_s (G : Gx) (l : Launch) (rk104 : St → Int → Int → Rs) (hk104 : ∀ (s : St) (x0 x2 : Int), V G l mX13_town 104 [(0, (2, x0)), (2, (0, x2))] [] s (rk104 s x0 x2)) (s : St) (x0 x2 : Int) : V G l mX13_town 104 [(0, (2, x0)), (2, (0, x2))] [] s (X13_town_b104_body rk104 s x0 x2) := by
  unfold X13_town_b104_body
  refine V_iload_n dec_X13_town.2.1.2.2.1.2.2 1 rfl ?_
  refine V_bipush dec_X13_town.2.1.2.2.2.1 rfl ?_
  refine V_icmp_ge (tgt := 128) dec_X13_town.2.1.2.2.2.2.1 (by decide) ?_ ?_
  · refine V_aload_n dec_X13_town.2.2.1.2.2.2.2 0 rfl ?_
    refine V_iconst dec_X13_town.2.2.2.1.1.1 rfl ?_
    refine V_putI (host := "") 13 19 nf_13_19 ty_13_19 (Or.inl ⟨fl_X13_308, Or.inl rfl⟩) dec_X13_town.2.2.2.1.1.2 ?_
    refine V_lets fun s20 => ?_
    refine V_aload_n dec_X13_town.2.2.2.1.2.1 0 rfl ?_
    refine V_iconst dec_X13_town.2.2.2.1.2.2.1 rfl ?_
    refine V_putI (host := "") 13 20 nf_13_20 ty_13_20 (Or.inl ⟨fl_X13_311, Or.inl rfl⟩) dec_X13_town.2.2.2.1.2.2.2 ?_
    refine V_lets fun s21 => ?_
    refine V_aload_n dec_X13_town.2.2.2.2.1.1 0 rfl ?_
    refine V_aload_n dec_X13_town.2.2.2.2.1.2.1 0 rfl ?_
    refine V_getR 13 3 nf_13_3 ft_13_3 fl_X13_303 dec_X13_town.2.2.2.2.1.2.2 ?_
    refine V_getIN RX13 12 2 nf_12_2 ft_12_2 fl_X13_193 dec_X13_town.2.2.2.2.2.1 ?_
    refine V_callV0 (ci := 13) (a := x0) (As := [(0, (gI s21 (gR s21 x0 3) 2))]) (st := []) rfl rfl (X13_good_s G l s21 x0 (gI s21 (gR s21 x0 3) 2)) cal_X13_good rfl ml_X13_59 rfl rfl dec_X13_town.2.2.2.2.2.2.1 (k_tag (tag := 0) rfl fun r22 s23 => ?_)
    exact V_iret rfl dec_X13_town.2.2.2.2.2.2.2
  · refine V_aload_n dec_X13_town.2.1.2.2.2.2.2 0 rfl ?_
    refine V_getR 13 15 nf_13_15 ft_13_15 fl_X13_17 dec_X13_town.2.2.1.1.1.1 ?_
    refine V_iload_n dec_X13_town.2.2.1.1.1.2 1 rfl ?_
    refine V_aload_n dec_X13_town.2.2.1.1.2.1 0 rfl ?_
    refine V_getR 13 16 nf_13_16 ft_13_16 fl_X13_21 dec_X13_town.2.2.1.1.2.2.1 ?_
    refine V_iload_n dec_X13_town.2.2.1.1.2.2.2 1 rfl ?_
    refine V_iald dec_X13_town.2.2.1.2.1.1 ?_
    refine V_iast dec_X13_town.2.2.1.2.1.2 ?_
    refine V_lets fun s24 => ?_
    refine V_iinc (lv' := [(2, (0, (w32 (x2 + 1)))), (0, (2, x0))]) dec_X13_town.2.2.1.2.2.1 1 rfl (by decide) rfl ?_
    refine V_goto (tgt := 104) dec_X13_town.2.2.1.2.2.2.1 (by decide) ?_
    exact V_pick [1, 0] rfl (hk104 s24 x0 (w32 (x2 + 1)))
theorem X13_town_b104_s (G : Gx) (l : Launch) (n : Nat) (s : St) (x0 x2 : Int) : V G l mX13_town 104 [(0, (2, x0)), (2, (0, x2))] [] s (X13_town_b104 n s x0 x2) :=
  V_iter (LV := fun a : St × Int × Int => [(0, (2, a.2.1)), (2, (0, a.2.2))]) (ST := fun a : St × Int × Int => []) (SS := fun a : St × Int × Int => a.1) (fun rec hrec a => X13_town_b104_body_s G l (fun (s : St) (x0 x2 : Int) => rec (s, x0, x2)) (fun (s : St) (x0 x2 : Int) => hrec (s, x0, x2)) a.1 a.2.1 a.2.2) n (s, x0, x2)
def X13_town (s : St) (a0 a1 : Int) : Rs :=
  grd (isK s 23 a0) (lets (pI s a0 0 0) (fun s1 => if a1 < 0 then (X13_town_b17 s1 a0) else (grd (isK s1 23 a0) (if a1 ≤ (gI s1 a0 6) then (grd (isK s1 23 a0) (lets (pI s1 a0 7 a1) (fun s4 => grd (isK s4 23 a0) (lets (pI s4 a0 6 0) (fun s5 => grd (isK s5 23 a0) (lets (pI s5 a0 8 0) (fun s6 => grd (isK s6 23 a0) (lets (pI s6 a0 12 0) (fun s7 => grd (s7.1.1 < 1000000) (lets (nw s7 22 21) (fun s8 => grd (isK s8 22 (s7.1.1 : Int)) (bnd (X12_init s8 (s7.1.1 : Int)) (fun r9 s10 => grd (isK s10 23 a0) (lets (pR s10 a0 4 (s7.1.1 : Int)) (fun s11 => grd (isK s11 23 a0) (lets (pI s11 a0 9 0) (fun s12 => grd (isK s12 23 a0) (bnd (X13_goesOn s12 a0) (fun r13 s14 => grd (isK s14 23 a0) (bnd (X13_readAll s14 a0) (fun r15 s16 => grd (isK s16 23 a0) (if (gI s16 a0 12) ≤ 0 then (grd (isK s16 23 a0) (grd (isK s16 23 a0) (lets (pR s16 a0 3 (gR s16 a0 4)) (fun s17 => grd (isK s17 23 a0) (bnd (X13_asTold s17 a0 0) (fun r18 s19 => X13_town_b104 FU s19 a0 0)))))) else (grd (isK s16 23 a0) (lets (pI s16 a0 1 4) (fun s25 => grd (isK s25 23 a0) (grd (isK s25 23 a0) (lets (pI s25 a0 2 (gI s25 a0 13)) (fun s26 => some ((-1), s26))))))))))))))))))))))))))))) else (X13_town_b17 s1 a0)))))
set_option maxRecDepth 100000 in
set_option maxHeartbeats 4000000 in
theorem X13_town_s (G : Gx) (l : Launch) (s : St) (a0 a1 : Int) : Snd G l mX13_town [(2, a0), (0, a1)] s (X13_town s a0 a1) := by
  refine Snd.of (by decide +kernel) rfl ?_
  show V G l mX13_town 0 [(0, (2, a0)), (1, (0, a1))] [] s _
  unfold X13_town
  refine V_aload_n dec_X13_town.1.1.1.1.1.1 0 rfl ?_
  refine V_iconst dec_X13_town.1.1.1.1.1.2 rfl ?_
  refine V_putI (host := "") 13 0 nf_13_0 ty_13_0 (Or.inl ⟨fl_X13_49, Or.inl rfl⟩) dec_X13_town.1.1.1.1.2.1 ?_
  refine V_lets fun s1 => ?_
  refine V_iload_n dec_X13_town.1.1.1.1.2.2.1 1 rfl ?_
  refine V_if_lt (tgt := 17) dec_X13_town.1.1.1.1.2.2.2 (by decide) ?_ ?_
  · exact V_pick [0] rfl (X13_town_b17_s G l s1 a0)
  · refine V_iload_n dec_X13_town.1.1.1.2.1.1 1 rfl ?_
    refine V_aload_n dec_X13_town.1.1.1.2.1.2 0 rfl ?_
    refine V_getI 13 6 nf_13_6 ft_13_6 fl_X13_296 dec_X13_town.1.1.1.2.2.1 ?_
    refine V_icmp_le (tgt := 23) dec_X13_town.1.1.1.2.2.2.1 (by decide) ?_ ?_
    · refine V_aload_n dec_X13_town.1.1.2.1.2.2.1 0 rfl ?_
      refine V_iload_n dec_X13_town.1.1.2.1.2.2.2 1 rfl ?_
      refine V_putI (host := "") 13 7 nf_13_7 ty_13_7 (Or.inl ⟨fl_X13_66, Or.inl rfl⟩) dec_X13_town.1.1.2.2.1.1 ?_
      refine V_lets fun s4 => ?_
      refine V_aload_n dec_X13_town.1.1.2.2.1.2 0 rfl ?_
      refine V_iconst dec_X13_town.1.1.2.2.2.1 rfl ?_
      refine V_putI (host := "") 13 6 nf_13_6 ty_13_6 (Or.inl ⟨fl_X13_296, Or.inl rfl⟩) dec_X13_town.1.1.2.2.2.2.1 ?_
      refine V_lets fun s5 => ?_
      refine V_aload_n dec_X13_town.1.1.2.2.2.2.2 0 rfl ?_
      refine V_iconst dec_X13_town.1.2.1.1.1.1 rfl ?_
      refine V_putI (host := "") 13 8 nf_13_8 ty_13_8 (Or.inl ⟨fl_X13_84, Or.inl rfl⟩) dec_X13_town.1.2.1.1.1.2 ?_
      refine V_lets fun s6 => ?_
      refine V_aload_n dec_X13_town.1.2.1.1.2.1 0 rfl ?_
      refine V_iconst dec_X13_town.1.2.1.1.2.2.1 rfl ?_
      refine V_putI (host := "") 13 12 nf_13_12 ty_13_12 (Or.inl ⟨fl_X13_107, Or.inl rfl⟩) dec_X13_town.1.2.1.1.2.2.2 ?_
      refine V_lets fun s7 => ?_
      refine V_aload_n dec_X13_town.1.2.1.2.1.1 0 rfl ?_
      refine V_new 12 (RX12, TX12, 21) rfl cl_X13_160 in_X12 iz_X12 dec_X13_town.1.2.1.2.1.2 ?_
      refine V_lets fun s8 => ?_
      refine V_dup (nl2 _) dec_X13_town.1.2.1.2.2.1 ?_
      refine V_callI0 (ci := 12) (a := (s7.1.1 : Int)) (As := []) (st := [(2, (s7.1.1 : Int)), (2, a0)]) (host := RX13) rfl rfl (X12_init_s G l s8 (s7.1.1 : Int)) cal_X12_init rfl (Or.inr ml_X13_299) rfl rfl dec_X13_town.1.2.1.2.2.2.1 (fun r9 s10 => ?_)
      refine V_putR (host := "") 13 4 nf_13_4 ty_13_4 (Or.inl ⟨fl_X13_155, Or.inl rfl⟩) dec_X13_town.1.2.1.2.2.2.2 ?_
      refine V_lets fun s11 => ?_
      refine V_aload_n dec_X13_town.1.2.2.1.1.1 0 rfl ?_
      refine V_iconst dec_X13_town.1.2.2.1.1.2 rfl ?_
      refine V_putI (host := "") 13 9 nf_13_9 ty_13_9 (Or.inl ⟨fl_X13_81, Or.inl rfl⟩) dec_X13_town.1.2.2.1.2.1 ?_
      refine V_lets fun s12 => ?_
      refine V_aload_n dec_X13_town.1.2.2.1.2.2.1 0 rfl ?_
      refine V_callV0 (ci := 13) (a := a0) (As := []) (st := []) rfl rfl (X13_goesOn_s G l s12 a0) cal_X13_goesOn rfl ml_X13_117 rfl rfl dec_X13_town.1.2.2.1.2.2.2 (k_void rfl fun r13 s14 => ?_)
      refine V_aload_n dec_X13_town.1.2.2.2.1.1 0 rfl ?_
      refine V_callV0 (ci := 13) (a := a0) (As := []) (st := []) rfl rfl (X13_readAll_s G l s14 a0) cal_X13_readAll rfl ml_X13_300 rfl rfl dec_X13_town.1.2.2.2.1.2.1 (k_void rfl fun r15 s16 => ?_)
      refine V_aload_n dec_X13_town.1.2.2.2.1.2.2 0 rfl ?_
      refine V_getI 13 12 nf_13_12 ft_13_12 fl_X13_107 dec_X13_town.1.2.2.2.2.1 ?_
      refine V_if_le (tgt := 89) dec_X13_town.1.2.2.2.2.2.1 (by decide) ?_ ?_
      · refine V_aload_n dec_X13_town.2.1.1.2.2.2.1 0 rfl ?_
        refine V_aload_n dec_X13_town.2.1.1.2.2.2.2 0 rfl ?_
        refine V_getR 13 4 nf_13_4 ft_13_4 fl_X13_155 dec_X13_town.2.1.2.1.1.1 ?_
        refine V_putR (host := "") 13 3 nf_13_3 ty_13_3 (Or.inl ⟨fl_X13_303, Or.inl rfl⟩) dec_X13_town.2.1.2.1.1.2 ?_
        refine V_lets fun s17 => ?_
        refine V_aload_n dec_X13_town.2.1.2.1.2.1 0 rfl ?_
        refine V_iconst dec_X13_town.2.1.2.1.2.2.1 rfl ?_
        refine V_callV0 (ci := 13) (a := a0) (As := [(0, 0)]) (st := []) rfl rfl (X13_asTold_s G l s17 a0 0) cal_X13_asTold rfl ml_X13_305 rfl rfl dec_X13_town.2.1.2.1.2.2.2 (k_void rfl fun r18 s19 => ?_)
        refine V_iconst dec_X13_town.2.1.2.2.1.1 rfl ?_
        refine V_istore_n (lv' := [(2, (0, 0)), (0, (2, a0)), (1, (0, a1))]) dec_X13_town.2.1.2.2.1.2.1 (by decide) rfl ?_
        exact V_pick [1, 0] rfl (X13_town_b104_s G l FU s19 a0 0)
      · refine V_aload_n dec_X13_town.1.2.2.2.2.2.2 0 rfl ?_
        refine V_iconst dec_X13_town.2.1.1.1.1.1 rfl ?_
        refine V_putI (host := "") 13 1 nf_13_1 ty_13_1 (Or.inl ⟨fl_X13_52, Or.inl rfl⟩) dec_X13_town.2.1.1.1.1.2 ?_
        refine V_lets fun s25 => ?_
        refine V_aload_n dec_X13_town.2.1.1.1.2.1 0 rfl ?_
        refine V_aload_n dec_X13_town.2.1.1.1.2.2.1 0 rfl ?_
        refine V_getI 13 13 nf_13_13 ft_13_13 fl_X13_110 dec_X13_town.2.1.1.1.2.2.2 ?_
        refine V_putI (host := "") 13 2 nf_13_2 ty_13_2 (Or.inl ⟨fl_X13_9, Or.inl rfl⟩) dec_X13_town.2.1.1.2.1.1 ?_
        refine V_lets fun s26 => ?_
        refine V_iconst dec_X13_town.2.1.1.2.1.2 rfl ?_
        exact V_iret rfl dec_X13_town.2.1.1.2.2.1
    · exact V_pick [0] rfl (X13_town_b17_s G l s1 a0)
theorem dec_X13_trouble : ((decode cX13_trouble 0 = .ok (.aload_n 0, 1) ∧ (decode cX13_trouble 1 = .ok (.iconst 0, 1) ∧ decode cX13_trouble 2 = .ok (.putfield 49, 3))) ∧ (decode cX13_trouble 5 = .ok (.aload_n 0, 1) ∧ (decode cX13_trouble 6 = .ok (.getfield 52, 3) ∧ decode cX13_trouble 9 = .ok (.ireturn, 1)))) := by decide +kernel
def X13_trouble (s : St) (a0 : Int) : Rs :=
  grd (isK s 23 a0) (lets (pI s a0 0 0) (fun s1 => grd (isK s1 23 a0) (some ((gI s1 a0 1), s1))))
set_option maxRecDepth 100000 in
set_option maxHeartbeats 4000000 in
theorem X13_trouble_s (G : Gx) (l : Launch) (s : St) (a0 : Int) : Snd G l mX13_trouble [(2, a0)] s (X13_trouble s a0) := by
  refine Snd.of (by decide +kernel) rfl ?_
  show V G l mX13_trouble 0 [(0, (2, a0))] [] s _
  unfold X13_trouble
  refine V_aload_n dec_X13_trouble.1.1 0 rfl ?_
  refine V_iconst dec_X13_trouble.1.2.1 rfl ?_
  refine V_putI (host := "") 13 0 nf_13_0 ty_13_0 (Or.inl ⟨fl_X13_49, Or.inl rfl⟩) dec_X13_trouble.1.2.2 ?_
  refine V_lets fun s1 => ?_
  refine V_aload_n dec_X13_trouble.2.1 0 rfl ?_
  refine V_getI 13 1 nf_13_1 ft_13_1 fl_X13_52 dec_X13_trouble.2.2.1 ?_
  exact V_iret rfl dec_X13_trouble.2.2.2
theorem dec_X13_undo : (((((decode cX13_undo 0 = .ok (.aload_n 0, 1) ∧ decode cX13_undo 1 = .ok (.iconst 0, 1)) ∧ (decode cX13_undo 2 = .ok (.putfield 49, 3) ∧ (decode cX13_undo 5 = .ok (.aload_n 0, 1) ∧ decode cX13_undo 6 = .ok (.getfield 303, 3)))) ∧ ((decode cX13_undo 9 = .ok (.ifnull 10, 3) ∧ decode cX13_undo 12 = .ok (.aload_n 0, 1)) ∧ (decode cX13_undo 13 = .ok (.getfield 308, 3) ∧ (decode cX13_undo 16 = .ok (.ifCond .ne 10, 3) ∧ decode cX13_undo 19 = .ok (.aload_n 0, 1))))) ∧ (((decode cX13_undo 20 = .ok (.bipush 6, 2) ∧ decode cX13_undo 22 = .ok (.invokevirtual 472, 3)) ∧ (decode cX13_undo 25 = .ok (.ireturn, 1) ∧ (decode cX13_undo 26 = .ok (.aload_n 0, 1) ∧ decode cX13_undo 27 = .ok (.dup, 1)))) ∧ ((decode cX13_undo 28 = .ok (.getfield 308, 3) ∧ (decode cX13_undo 31 = .ok (.iconst 1, 1) ∧ decode cX13_undo 32 = .ok (.isub, 1))) ∧ (decode cX13_undo 33 = .ok (.putfield 308, 3) ∧ (decode cX13_undo 36 = .ok (.iconst 0, 1) ∧ decode cX13_undo 37 = .ok (.istore_n 1, 1)))))) ∧ ((((decode cX13_undo 38 = .ok (.iload_n 1, 1) ∧ decode cX13_undo 39 = .ok (.bipush 19, 2)) ∧ (decode cX13_undo 41 = .ok (.if_icmp .ge 29, 3) ∧ (decode cX13_undo 44 = .ok (.aload_n 0, 1) ∧ decode cX13_undo 45 = .ok (.getfield 17, 3)))) ∧ ((decode cX13_undo 48 = .ok (.iload_n 1, 1) ∧ decode cX13_undo 49 = .ok (.aload_n 0, 1)) ∧ (decode cX13_undo 50 = .ok (.getfield 24, 3) ∧ (decode cX13_undo 53 = .ok (.bipush 19, 2) ∧ decode cX13_undo 55 = .ok (.aload_n 0, 1))))) ∧ (((decode cX13_undo 56 = .ok (.getfield 308, 3) ∧ decode cX13_undo 59 = .ok (.imul, 1)) ∧ (decode cX13_undo 60 = .ok (.iload_n 1, 1) ∧ (decode cX13_undo 61 = .ok (.iadd, 1) ∧ decode cX13_undo 62 = .ok (.iaload, 1)))) ∧ ((decode cX13_undo 63 = .ok (.iastore, 1) ∧ (decode cX13_undo 64 = .ok (.iinc 1 1, 3) ∧ decode cX13_undo 67 = .ok (.goto (-29), 3))) ∧ (decode cX13_undo 70 = .ok (.aload_n 0, 1) ∧ (decode cX13_undo 71 = .ok (.invokevirtual 475, 3) ∧ decode cX13_undo 74 = .ok (.ireturn, 1))))))) := ⟨⟨by decide +kernel, by decide +kernel⟩, ⟨by decide +kernel, by decide +kernel⟩⟩
def X13_undo_b19 (s : St) (x0 : Int) : Rs :=
  grd (isK s 23 x0) (bnd (X13_denied s x0 6) (fun r2 s3 => grd (r2 = 0 ∨ r2 = 1) (some (r2, s3))))
set_option maxRecDepth 100000 in
set_option maxHeartbeats 4000000 in
theorem X13_undo_b19_s (G : Gx) (l : Launch) (s : St) (x0 : Int) : V G l mX13_undo 19 [(0, (2, x0))] [] s (X13_undo_b19 s x0) := by
  unfold X13_undo_b19
  refine V_aload_n dec_X13_undo.1.1.2.2.2.2 0 rfl ?_
  refine V_bipush dec_X13_undo.1.2.1.1.1 rfl ?_
  refine V_callV0 (ci := 13) (a := x0) (As := [(0, 6)]) (st := []) rfl rfl (X13_denied_s G l s x0 6) cal_X13_denied rfl ml_X13_472 rfl rfl dec_X13_undo.1.2.1.1.2 (k_tag (tag := 0) rfl fun r2 s3 => ?_)
  exact V_zret rfl dec_X13_undo.1.2.1.2.1
def X13_undo_b38_body (rk38 : St → Int → Int → Rs) (s : St) (x0 x1 : Int) : Rs :=
  if (19 : Int) ≤ x1 then (grd (isK s 23 x0) (bnd (X13_granted s x0) (fun r5 s6 => grd (r5 = 0 ∨ r5 = 1) (some (r5, s6))))) else (grd (isK s 23 x0) (grd (isK s 23 x0) (grd (isK s 23 x0) (grd (isK s 1 (gR s x0 17) ∧ 0 ≤ (w32 ((w32 (19 * (gI s x0 19))) + x1)) ∧ (w32 ((w32 (19 * (gI s x0 19))) + x1)) < ln s (gR s x0 17)) (grd (isK s 1 (gR s x0 15) ∧ 0 ≤ x1 ∧ x1 < ln s (gR s x0 15)) (lets (pI s (gR s x0 15) x1.toNat (gI s (gR s x0 17) (w32 ((w32 (19 * (gI s x0 19))) + x1)).toNat)) (fun s7 => rk38 s7 x0 (w32 (x1 + 1)))))))))
def X13_undo_b38 (n : Nat) (s : St) (x0 x1 : Int) : Rs := iter (fun (rec : St × Int × Int → Rs) (a : St × Int × Int) => X13_undo_b38_body (fun (s : St) (x0 x1 : Int) => rec (s, x0, x1)) a.1 a.2.1 a.2.2) n (s, x0, x1)
theorem X13_undo_b38_0 (s : St) (x0 x1 : Int) : X13_undo_b38 0 s x0 x1 = none := rfl
theorem X13_undo_b38_1 (n : Nat) (s : St) (x0 x1 : Int) : X13_undo_b38 (n + 1) s x0 x1 = X13_undo_b38_body (X13_undo_b38 n) s x0 x1 := rfl
set_option maxRecDepth 100000 in
set_option maxHeartbeats 4000000 in
theorem X13_undo_b38_body_s (G : Gx) (l : Launch) (rk38 : St → Int → Int → Rs) (hk38 : ∀ (s : St) (x0 x1 : Int), V G l mX13_undo 38 [(0, (2, x0)), (1, (0, x1))] [] s (rk38 s x0 x1)) (s : St) (x0 x1 : Int) : V G l mX13_undo 38 [(0, (2, x0)), (1, (0, x1))] [] s (X13_undo_b38_body rk38 s x0 x1) := by
  unfold X13_undo_b38_body
  refine V_iload_n dec_X13_undo.2.1.1.1.1 1 rfl ?_
  refine V_bipush dec_X13_undo.2.1.1.1.2 rfl ?_
  refine V_icmp_ge (tgt := 70) dec_X13_undo.2.1.1.2.1 (by decide) ?_ ?_
  · refine V_aload_n dec_X13_undo.2.2.2.2.1 0 rfl ?_
    refine V_callV0 (ci := 13) (a := x0) (As := []) (st := []) rfl rfl (X13_granted_s G l s x0) cal_X13_granted rfl ml_X13_475 rfl rfl dec_X13_undo.2.2.2.2.2.1 (k_tag (tag := 0) rfl fun r5 s6 => ?_)
    exact V_zret rfl dec_X13_undo.2.2.2.2.2.2
  · refine V_aload_n dec_X13_undo.2.1.1.2.2.1 0 rfl ?_
    refine V_getR 13 15 nf_13_15 ft_13_15 fl_X13_17 dec_X13_undo.2.1.1.2.2.2 ?_
    refine V_iload_n dec_X13_undo.2.1.2.1.1 1 rfl ?_
    refine V_aload_n dec_X13_undo.2.1.2.1.2 0 rfl ?_
    refine V_getR 13 17 nf_13_17 ft_13_17 fl_X13_24 dec_X13_undo.2.1.2.2.1 ?_
    refine V_bipush dec_X13_undo.2.1.2.2.2.1 rfl ?_
    refine V_aload_n dec_X13_undo.2.1.2.2.2.2 0 rfl ?_
    refine V_getI 13 19 nf_13_19 ft_13_19 fl_X13_308 dec_X13_undo.2.2.1.1.1 ?_
    refine V_imul dec_X13_undo.2.2.1.1.2 ?_
    refine V_iload_n dec_X13_undo.2.2.1.2.1 1 rfl ?_
    refine V_iadd dec_X13_undo.2.2.1.2.2.1 ?_
    refine V_iald dec_X13_undo.2.2.1.2.2.2 ?_
    refine V_iast dec_X13_undo.2.2.2.1.1 ?_
    refine V_lets fun s7 => ?_
    refine V_iinc (lv' := [(1, (0, (w32 (x1 + 1)))), (0, (2, x0))]) dec_X13_undo.2.2.2.1.2.1 1 rfl (by decide) rfl ?_
    refine V_goto (tgt := 38) dec_X13_undo.2.2.2.1.2.2 (by decide) ?_
    exact V_pick [1, 0] rfl (hk38 s7 x0 (w32 (x1 + 1)))
theorem X13_undo_b38_s (G : Gx) (l : Launch) (n : Nat) (s : St) (x0 x1 : Int) : V G l mX13_undo 38 [(0, (2, x0)), (1, (0, x1))] [] s (X13_undo_b38 n s x0 x1) :=
  V_iter (LV := fun a : St × Int × Int => [(0, (2, a.2.1)), (1, (0, a.2.2))]) (ST := fun a : St × Int × Int => []) (SS := fun a : St × Int × Int => a.1) (fun rec hrec a => X13_undo_b38_body_s G l (fun (s : St) (x0 x1 : Int) => rec (s, x0, x1)) (fun (s : St) (x0 x1 : Int) => hrec (s, x0, x1)) a.1 a.2.1 a.2.2) n (s, x0, x1)
def X13_undo (s : St) (a0 : Int) : Rs :=
  grd (isK s 23 a0) (lets (pI s a0 0 0) (fun s1 => grd (isK s1 23 a0) (if (gR s1 a0 3) < 0 then (X13_undo_b19 s1 a0) else (grd (isK s1 23 a0) (if ¬ (gI s1 a0 19) = 0 then (grd (isK s1 23 a0) (grd (isK s1 23 a0) (lets (pI s1 a0 19 (w32 ((gI s1 a0 19) - 1))) (fun s4 => X13_undo_b38 FU s4 a0 0)))) else (X13_undo_b19 s1 a0))))))
set_option maxRecDepth 100000 in
set_option maxHeartbeats 4000000 in
theorem X13_undo_s (G : Gx) (l : Launch) (s : St) (a0 : Int) : Snd G l mX13_undo [(2, a0)] s (X13_undo s a0) := by
  refine Snd.of (by decide +kernel) rfl ?_
  show V G l mX13_undo 0 [(0, (2, a0))] [] s _
  unfold X13_undo
  refine V_aload_n dec_X13_undo.1.1.1.1.1 0 rfl ?_
  refine V_iconst dec_X13_undo.1.1.1.1.2 rfl ?_
  refine V_putI (host := "") 13 0 nf_13_0 ty_13_0 (Or.inl ⟨fl_X13_49, Or.inl rfl⟩) dec_X13_undo.1.1.1.2.1 ?_
  refine V_lets fun s1 => ?_
  refine V_aload_n dec_X13_undo.1.1.1.2.2.1 0 rfl ?_
  refine V_getR 13 3 nf_13_3 ft_13_3 fl_X13_303 dec_X13_undo.1.1.1.2.2.2 ?_
  refine V_ifnull (tgt := 19) dec_X13_undo.1.1.2.1.1 (by decide) ?_ ?_
  · exact V_pick [0] rfl (X13_undo_b19_s G l s1 a0)
  · refine V_aload_n dec_X13_undo.1.1.2.1.2 0 rfl ?_
    refine V_getI 13 19 nf_13_19 ft_13_19 fl_X13_308 dec_X13_undo.1.1.2.2.1 ?_
    refine V_if_ne (tgt := 26) dec_X13_undo.1.1.2.2.2.1 (by decide) ?_ ?_
    · refine V_aload_n dec_X13_undo.1.2.1.2.2.1 0 rfl ?_
      refine V_dup (nl2 _) dec_X13_undo.1.2.1.2.2.2 ?_
      refine V_getI 13 19 nf_13_19 ft_13_19 fl_X13_308 dec_X13_undo.1.2.2.1.1 ?_
      refine V_iconst dec_X13_undo.1.2.2.1.2.1 rfl ?_
      refine V_isub dec_X13_undo.1.2.2.1.2.2 ?_
      refine V_putI (host := "") 13 19 nf_13_19 ty_13_19 (Or.inl ⟨fl_X13_308, Or.inl rfl⟩) dec_X13_undo.1.2.2.2.1 ?_
      refine V_lets fun s4 => ?_
      refine V_iconst dec_X13_undo.1.2.2.2.2.1 rfl ?_
      refine V_istore_n (lv' := [(1, (0, 0)), (0, (2, a0))]) dec_X13_undo.1.2.2.2.2.2 (by decide) rfl ?_
      exact V_pick [1, 0] rfl (X13_undo_b38_s G l FU s4 a0 0)
    · exact V_pick [0] rfl (X13_undo_b19_s G l s1 a0)
theorem dec_X13_where : ((decode cX13_where 0 = .ok (.aload_n 0, 1) ∧ (decode cX13_where 1 = .ok (.iconst 0, 1) ∧ decode cX13_where 2 = .ok (.putfield 49, 3))) ∧ (decode cX13_where 5 = .ok (.aload_n 0, 1) ∧ (decode cX13_where 6 = .ok (.getfield 9, 3) ∧ decode cX13_where 9 = .ok (.ireturn, 1)))) := by decide +kernel
def X13_where (s : St) (a0 : Int) : Rs :=
  grd (isK s 23 a0) (lets (pI s a0 0 0) (fun s1 => grd (isK s1 23 a0) (some ((gI s1 a0 2), s1))))
set_option maxRecDepth 100000 in
set_option maxHeartbeats 4000000 in
theorem X13_where_s (G : Gx) (l : Launch) (s : St) (a0 : Int) : Snd G l mX13_where [(2, a0)] s (X13_where s a0) := by
  refine Snd.of (by decide +kernel) rfl ?_
  show V G l mX13_where 0 [(0, (2, a0))] [] s _
  unfold X13_where
  refine V_aload_n dec_X13_where.1.1 0 rfl ?_
  refine V_iconst dec_X13_where.1.2.1 rfl ?_
  refine V_putI (host := "") 13 0 nf_13_0 ty_13_0 (Or.inl ⟨fl_X13_49, Or.inl rfl⟩) dec_X13_where.1.2.2 ?_
  refine V_lets fun s1 => ?_
  refine V_aload_n dec_X13_where.2.1 0 rfl ?_
  refine V_getI 13 2 nf_13_2 ft_13_2 fl_X13_9 dec_X13_where.2.2.1 ?_
  exact V_iret rfl dec_X13_where.2.2.2
