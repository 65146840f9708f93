theorem dec_X11_rests : ((((decode cX11_rests 0 = .ok (.aload_n 0, 1) ∧ (decode cX11_rests 1 = .ok (.aload_n 0, 1) ∧ decode cX11_rests 2 = .ok (.invokevirtual 203, 3))) ∧ (decode cX11_rests 5 = .ok (.iload_n 1, 1) ∧ (decode cX11_rests 6 = .ok (.invokestatic 299, 3) ∧ decode cX11_rests 9 = .ok (.invokevirtual 92, 3)))) ∧ ((decode cX11_rests 12 = .ok (.ifCond .eq 5, 3) ∧ (decode cX11_rests 15 = .ok (.iconst (-1), 1) ∧ decode cX11_rests 16 = .ok (.ireturn, 1))) ∧ (decode cX11_rests 17 = .ok (.iconst 0, 1) ∧ (decode cX11_rests 18 = .ok (.istore_n 2, 1) ∧ decode cX11_rests 19 = .ok (.iconst 0, 1))))) ∧ (((decode cX11_rests 20 = .ok (.istore_n 3, 1) ∧ (decode cX11_rests 21 = .ok (.iload_n 3, 1) ∧ decode cX11_rests 22 = .ok (.iconst 4, 1))) ∧ (decode cX11_rests 23 = .ok (.if_icmp .ge 20, 3) ∧ (decode cX11_rests 26 = .ok (.iload_n 3, 1) ∧ decode cX11_rests 27 = .ok (.iload_n 1, 1)))) ∧ ((decode cX11_rests 28 = .ok (.invokestatic 306, 3) ∧ (decode cX11_rests 31 = .ok (.ifCond .eq 6, 3) ∧ decode cX11_rests 34 = .ok (.iinc 2 1, 3))) ∧ ((decode cX11_rests 37 = .ok (.iinc 3 1, 3) ∧ decode cX11_rests 40 = .ok (.goto (-19), 3)) ∧ (decode cX11_rests 43 = .ok (.iload_n 2, 1) ∧ decode cX11_rests 44 = .ok (.ireturn, 1)))))) := ⟨by decide +kernel, ⟨by decide +kernel, by decide +kernel⟩⟩
def X11_rests_b37 (rk21 : St → Int → Int → Int → Rs) (s : St) (x1 x2 x3 : Int) : Rs :=
  rk21 s x1 x2 (w32 (x3 + 1))
set_option maxRecDepth 100000 in
set_option maxHeartbeats 4000000 in
theorem X11_rests_b37_s (G : Gx) (l : Launch) (rk21 : St → Int → Int → Int → Rs) (hk21 : ∀ (s : St) (x1 x2 x3 : Int), V G l mX11_rests 21 [(1, (0, x1)), (2, (0, x2)), (3, (0, x3))] [] s (rk21 s x1 x2 x3)) (s : St) (x1 x2 x3 : Int) : V G l mX11_rests 37 [(1, (0, x1)), (2, (0, x2)), (3, (0, x3))] [] s (X11_rests_b37 rk21 s x1 x2 x3) := by
  unfold X11_rests_b37
  refine V_iinc (lv' := [(3, (0, (w32 (x3 + 1)))), (1, (0, x1)), (2, (0, x2))]) dec_X11_rests.2.2.2.1.1 2 rfl (by decide) rfl ?_
  refine V_goto (tgt := 21) dec_X11_rests.2.2.2.1.2 (by decide) ?_
  exact V_pick [1, 2, 0] rfl (hk21 s x1 x2 (w32 (x3 + 1)))
def X11_rests_b21_body (rk21 : St → Int → Int → Int → Rs) (s : St) (x1 x2 x3 : Int) : Rs :=
  if (4 : Int) ≤ x3 then (some (x2, s)) else (bnd (X11_isRest s x3 x1) (fun r7 s8 => if r7 = 0 then (X11_rests_b37 rk21 s8 x1 x2 x3) else (X11_rests_b37 rk21 s8 x1 (w32 (x2 + 1)) x3)))
def X11_rests_b21 (n : Nat) (s : St) (x1 x2 x3 : Int) : Rs := iter (fun (rec : St × Int × Int × Int → Rs) (a : St × Int × Int × Int) => X11_rests_b21_body (fun (s : St) (x1 x2 x3 : Int) => rec (s, x1, x2, x3)) a.1 a.2.1 a.2.2.1 a.2.2.2) n (s, x1, x2, x3)
theorem X11_rests_b21_0 (s : St) (x1 x2 x3 : Int) : X11_rests_b21 0 s x1 x2 x3 = none := rfl
theorem X11_rests_b21_1 (n : Nat) (s : St) (x1 x2 x3 : Int) : X11_rests_b21 (n + 1) s x1 x2 x3 = X11_rests_b21_body (X11_rests_b21 n) s x1 x2 x3 := rfl
set_option maxRecDepth 100000 in
set_option maxHeartbeats 4000000 in
theorem X11_rests_b21_body_s (G : Gx) (l : Launch) (rk21 : St → Int → Int → Int → Rs) (hk21 : ∀ (s : St) (x1 x2 x3 : Int), V G l mX11_rests 21 [(1, (0, x1)), (2, (0, x2)), (3, (0, x3))] [] s (rk21 s x1 x2 x3)) (s : St) (x1 x2 x3 : Int) : V G l mX11_rests 21 [(1, (0, x1)), (2, (0, x2)), (3, (0, x3))] [] s (X11_rests_b21_body rk21 s x1 x2 x3) := by
  unfold X11_rests_b21_body
  refine V_iload_n dec_X11_rests.2.1.1.2.1 2 rfl ?_
  refine V_iconst dec_X11_rests.2.1.1.2.2 rfl ?_
  refine V_icmp_ge (tgt := 43) dec_X11_rests.2.1.2.1 (by decide) ?_ ?_
  · refine V_iload_n dec_X11_rests.2.2.2.2.1 1 rfl ?_
    exact V_iret rfl dec_X11_rests.2.2.2.2.2
  · refine V_iload_n dec_X11_rests.2.1.2.2.1 2 rfl ?_
    refine V_iload_n dec_X11_rests.2.1.2.2.2 0 rfl ?_
    refine V_callS0 (As := [(0, x3), (0, x1)]) (st := []) (host := "") rfl (X11_isRest_s G l s x3 x1) cal_X11_isRest rfl (Or.inl ml_X11_306) rfl rfl dec_X11_rests.2.2.1.1 (k_tag (tag := 0) rfl fun r7 s8 => ?_)
    refine V_if_eq (tgt := 37) dec_X11_rests.2.2.1.2.1 (by decide) ?_ ?_
    · exact V_pick [0, 1, 2] rfl (X11_rests_b37_s G l rk21 hk21 s8 x1 x2 x3)
    · refine V_iinc (lv' := [(2, (0, (w32 (x2 + 1)))), (1, (0, x1)), (3, (0, x3))]) dec_X11_rests.2.2.1.2.2 1 rfl (by decide) rfl ?_
      exact V_pick [1, 0, 2] rfl (X11_rests_b37_s G l rk21 hk21 s8 x1 (w32 (x2 + 1)) x3)
theorem X11_rests_b21_s (G : Gx) (l : Launch) (n : Nat) (s : St) (x1 x2 x3 : Int) : V G l mX11_rests 21 [(1, (0, x1)), (2, (0, x2)), (3, (0, x3))] [] s (X11_rests_b21 n s x1 x2 x3) :=
  V_iter (LV := fun a : St × Int × Int × Int => [(1, (0, a.2.1)), (2, (0, a.2.2.1)), (3, (0, a.2.2.2))]) (ST := fun a : St × Int × Int × Int => []) (SS := fun a : St × Int × Int × Int => a.1) (fun rec hrec a => X11_rests_b21_body_s G l (fun (s : St) (x1 x2 x3 : Int) => rec (s, x1, x2, x3)) (fun (s : St) (x1 x2 x3 : Int) => hrec (s, x1, x2, x3)) a.1 a.2.1 a.2.2.1 a.2.2.2) n (s, x1, x2, x3)
def X11_rests (s : St) (a0 a1 : Int) : Rs :=
  grd (isK s 21 a0) (bnd (X11_isNoTown s a0) (fun r1 s2 => bnd (X11_isNoSoot s2 a1) (fun r3 s4 => grd (isK s4 21 a0) (bnd (X11_refused s4 a0 r1 r3) (fun r5 s6 => if r5 = 0 then (X11_rests_b21 FU s6 a1 0 0) else (some ((-1), s6)))))))
set_option maxRecDepth 100000 in
set_option maxHeartbeats 4000000 in
theorem X11_rests_s (G : Gx) (l : Launch) (s : St) (a0 a1 : Int) : Snd G l mX11_rests [(2, a0), (0, a1)] s (X11_rests s a0 a1) := by
  refine Snd.of (by decide +kernel) rfl ?_
  show V G l mX11_rests 0 [(0, (2, a0)), (1, (0, a1))] [] s _
  unfold X11_rests
  refine V_aload_n dec_X11_rests.1.1.1.1 0 rfl ?_
  refine V_aload_n dec_X11_rests.1.1.1.2.1 0 rfl ?_
  refine V_callV0 (ci := 11) (a := a0) (As := []) (st := [(2, a0)]) rfl rfl (X11_isNoTown_s G l s a0) cal_X11_isNoTown rfl ml_X11_203 rfl rfl dec_X11_rests.1.1.1.2.2 (k_tag (tag := 0) rfl fun r1 s2 => ?_)
  refine V_iload_n dec_X11_rests.1.1.2.1 1 rfl ?_
  refine V_callS0 (As := [(0, a1)]) (st := [(0, r1), (2, a0)]) (host := "") rfl (X11_isNoSoot_s G l s2 a1) cal_X11_isNoSoot rfl (Or.inl ml_X11_299) rfl rfl dec_X11_rests.1.1.2.2.1 (k_tag (tag := 0) rfl fun r3 s4 => ?_)
  refine V_callV0 (ci := 11) (a := a0) (As := [(0, r1), (0, r3)]) (st := []) rfl rfl (X11_refused_s G l s4 a0 r1 r3) cal_X11_refused rfl ml_X11_92 rfl rfl dec_X11_rests.1.1.2.2.2 (k_tag (tag := 0) rfl fun r5 s6 => ?_)
  refine V_if_eq (tgt := 17) dec_X11_rests.1.2.1.1 (by decide) ?_ ?_
  · refine V_iconst dec_X11_rests.1.2.2.1 rfl ?_
    refine V_istore_n (lv' := [(2, (0, 0)), (0, (2, a0)), (1, (0, a1))]) dec_X11_rests.1.2.2.2.1 (by decide) rfl ?_
    refine V_iconst dec_X11_rests.1.2.2.2.2 rfl ?_
    refine V_istore_n (lv' := [(3, (0, 0)), (2, (0, 0)), (0, (2, a0)), (1, (0, a1))]) dec_X11_rests.2.1.1.1 (by decide) rfl ?_
    exact V_pick [3, 1, 0] rfl (X11_rests_b21_s G l FU s6 a1 0 0)
  · refine V_iconst dec_X11_rests.1.2.1.2.1 rfl ?_
    exact V_iret rfl dec_X11_rests.1.2.1.2.2
theorem dec_X11_right : (((decode cX11_right 0 = .ok (.aload_n 0, 1) ∧ (decode cX11_right 1 = .ok (.aload_n 0, 1) ∧ decode cX11_right 2 = .ok (.invokevirtual 203, 3))) ∧ ((decode cX11_right 5 = .ok (.iload_n 1, 1) ∧ decode cX11_right 6 = .ok (.invokestatic 187, 3)) ∧ (decode cX11_right 9 = .ok (.invokevirtual 92, 3) ∧ decode cX11_right 12 = .ok (.ifCond .eq 5, 3)))) ∧ ((decode cX11_right 15 = .ok (.iconst (-1), 1) ∧ (decode cX11_right 16 = .ok (.ireturn, 1) ∧ decode cX11_right 17 = .ok (.aload_n 0, 1))) ∧ ((decode cX11_right 18 = .ok (.getfield 36, 3) ∧ decode cX11_right 21 = .ok (.iload_n 1, 1)) ∧ (decode cX11_right 22 = .ok (.invokevirtual 207, 3) ∧ decode cX11_right 25 = .ok (.ireturn, 1))))) := ⟨by decide +kernel, by decide +kernel⟩
def X11_right (s : St) (a0 a1 : Int) : Rs :=
  grd (isK s 21 a0) (bnd (X11_isNoTown s a0) (fun r1 s2 => bnd (X11_isNoNight s2 a1) (fun r3 s4 => grd (isK s4 21 a0) (bnd (X11_refused s4 a0 r1 r3) (fun r5 s6 => if r5 = 0 then (grd (isK s6 21 a0) (grd (isK s6 20 (gR s6 a0 7)) (bnd (X10_rightBits s6 (gR s6 a0 7) a1) (fun r7 s8 => some (r7, s8))))) else (some ((-1), s6)))))))
set_option maxRecDepth 100000 in
set_option maxHeartbeats 4000000 in
theorem X11_right_s (G : Gx) (l : Launch) (s : St) (a0 a1 : Int) : Snd G l mX11_right [(2, a0), (0, a1)] s (X11_right s a0 a1) := by
  refine Snd.of (by decide +kernel) rfl ?_
  show V G l mX11_right 0 [(0, (2, a0)), (1, (0, a1))] [] s _
  unfold X11_right
  refine V_aload_n dec_X11_right.1.1.1 0 rfl ?_
  refine V_aload_n dec_X11_right.1.1.2.1 0 rfl ?_
  refine V_callV0 (ci := 11) (a := a0) (As := []) (st := [(2, a0)]) rfl rfl (X11_isNoTown_s G l s a0) cal_X11_isNoTown rfl ml_X11_203 rfl rfl dec_X11_right.1.1.2.2 (k_tag (tag := 0) rfl fun r1 s2 => ?_)
  refine V_iload_n dec_X11_right.1.2.1.1 1 rfl ?_
  refine V_callS0 (As := [(0, a1)]) (st := [(0, r1), (2, a0)]) (host := "") rfl (X11_isNoNight_s G l s2 a1) cal_X11_isNoNight rfl (Or.inl ml_X11_187) rfl rfl dec_X11_right.1.2.1.2 (k_tag (tag := 0) rfl fun r3 s4 => ?_)
  refine V_callV0 (ci := 11) (a := a0) (As := [(0, r1), (0, r3)]) (st := []) rfl rfl (X11_refused_s G l s4 a0 r1 r3) cal_X11_refused rfl ml_X11_92 rfl rfl dec_X11_right.1.2.2.1 (k_tag (tag := 0) rfl fun r5 s6 => ?_)
  refine V_if_eq (tgt := 17) dec_X11_right.1.2.2.2 (by decide) ?_ ?_
  · refine V_aload_n dec_X11_right.2.1.2.2 0 rfl ?_
    refine V_getR 11 7 nf_11_7 ft_11_7 fl_X11_36 dec_X11_right.2.2.1.1 ?_
    refine V_iload_n dec_X11_right.2.2.1.2 1 rfl ?_
    refine V_callV0 (ci := 10) (a := (gR s6 a0 7)) (As := [(0, a1)]) (st := []) rfl rfl (X10_rightBits_s G l s6 (gR s6 a0 7) a1) cal_X10_rightBits rfl ml_X11_207 rfl rfl dec_X11_right.2.2.2.1 (k_tag (tag := 0) rfl fun r7 s8 => ?_)
    exact V_iret rfl dec_X11_right.2.2.2.2
  · refine V_iconst dec_X11_right.2.1.1 rfl ?_
    exact V_iret rfl dec_X11_right.2.1.2.1
theorem dec_X11_rightFrom : ((((decode cX11_rightFrom 0 = .ok (.aload_n 0, 1) ∧ (decode cX11_rightFrom 1 = .ok (.aload_n 0, 1) ∧ decode cX11_rightFrom 2 = .ok (.iload_n 1, 1))) ∧ (decode cX11_rightFrom 3 = .ok (.invokevirtual 160, 3) ∧ (decode cX11_rightFrom 6 = .ok (.iload_n 2, 1) ∧ decode cX11_rightFrom 7 = .ok (.invokestatic 187, 3)))) ∧ ((decode cX11_rightFrom 10 = .ok (.invokevirtual 92, 3) ∧ (decode cX11_rightFrom 13 = .ok (.ifCond .eq 5, 3) ∧ decode cX11_rightFrom 16 = .ok (.iconst (-1), 1))) ∧ ((decode cX11_rightFrom 17 = .ok (.ireturn, 1) ∧ decode cX11_rightFrom 18 = .ok (.iload_n 2, 1)) ∧ (decode cX11_rightFrom 19 = .ok (.istore_n 3, 1) ∧ decode cX11_rightFrom 20 = .ok (.iload_n 3, 1))))) ∧ (((decode cX11_rightFrom 21 = .ok (.bipush 99, 2) ∧ (decode cX11_rightFrom 23 = .ok (.if_icmp .gt 23, 3) ∧ decode cX11_rightFrom 26 = .ok (.aload_n 0, 1))) ∧ ((decode cX11_rightFrom 27 = .ok (.getfield 36, 3) ∧ decode cX11_rightFrom 30 = .ok (.iload_n 1, 1)) ∧ (decode cX11_rightFrom 31 = .ok (.iload_n 3, 1) ∧ decode cX11_rightFrom 32 = .ok (.invokevirtual 215, 3)))) ∧ ((decode cX11_rightFrom 35 = .ok (.ifCond .eq 5, 3) ∧ (decode cX11_rightFrom 38 = .ok (.iload_n 3, 1) ∧ decode cX11_rightFrom 39 = .ok (.ireturn, 1))) ∧ ((decode cX11_rightFrom 40 = .ok (.iinc 3 1, 3) ∧ decode cX11_rightFrom 43 = .ok (.goto (-23), 3)) ∧ (decode cX11_rightFrom 46 = .ok (.bipush (-2), 2) ∧ decode cX11_rightFrom 48 = .ok (.ireturn, 1)))))) := ⟨⟨by decide +kernel, by decide +kernel⟩, ⟨by decide +kernel, by decide +kernel⟩⟩
def X11_rightFrom_b20_body (rk20 : St → Int → Int → Int → Rs) (s : St) (x0 x1 x3 : Int) : Rs :=
  if (99 : Int) < x3 then (some ((-2), s)) else (grd (isK s 21 x0) (grd (isK s 20 (gR s x0 7)) (bnd (X10_isRight s (gR s x0 7) x1 x3) (fun r7 s8 => if r7 = 0 then (rk20 s8 x0 x1 (w32 (x3 + 1))) else (some (x3, s8))))))
def X11_rightFrom_b20 (n : Nat) (s : St) (x0 x1 x3 : Int) : Rs := iter (fun (rec : St × Int × Int × Int → Rs) (a : St × Int × Int × Int) => X11_rightFrom_b20_body (fun (s : St) (x0 x1 x3 : Int) => rec (s, x0, x1, x3)) a.1 a.2.1 a.2.2.1 a.2.2.2) n (s, x0, x1, x3)
theorem X11_rightFrom_b20_0 (s : St) (x0 x1 x3 : Int) : X11_rightFrom_b20 0 s x0 x1 x3 = none := rfl
theorem X11_rightFrom_b20_1 (n : Nat) (s : St) (x0 x1 x3 : Int) : X11_rightFrom_b20 (n + 1) s x0 x1 x3 = X11_rightFrom_b20_body (X11_rightFrom_b20 n) s x0 x1 x3 := rfl
set_option maxRecDepth 100000 in
set_option maxHeartbeats 4000000 in
theorem X11_rightFrom_b20_body_s (G : Gx) (l : Launch) (rk20 : St → Int → Int → Int → Rs) (hk20 : ∀ (s : St) (x0 x1 x3 : Int), V G l mX11_rightFrom 20 [(0, (2, x0)), (1, (0, x1)), (3, (0, x3))] [] s (rk20 s x0 x1 x3)) (s : St) (x0 x1 x3 : Int) : V G l mX11_rightFrom 20 [(0, (2, x0)), (1, (0, x1)), (3, (0, x3))] [] s (X11_rightFrom_b20_body rk20 s x0 x1 x3) := by
  unfold X11_rightFrom_b20_body
  refine V_iload_n dec_X11_rightFrom.1.2.2.2.2 2 rfl ?_
  refine V_bipush dec_X11_rightFrom.2.1.1.1 rfl ?_
  refine V_icmp_gt (tgt := 46) dec_X11_rightFrom.2.1.1.2.1 (by decide) ?_ ?_
  · refine V_bipush dec_X11_rightFrom.2.2.2.2.1 rfl ?_
    exact V_iret rfl dec_X11_rightFrom.2.2.2.2.2
  · refine V_aload_n dec_X11_rightFrom.2.1.1.2.2 0 rfl ?_
    refine V_getR 11 7 nf_11_7 ft_11_7 fl_X11_36 dec_X11_rightFrom.2.1.2.1.1 ?_
    refine V_iload_n dec_X11_rightFrom.2.1.2.1.2 1 rfl ?_
    refine V_iload_n dec_X11_rightFrom.2.1.2.2.1 2 rfl ?_
    refine V_callV0 (ci := 10) (a := (gR s x0 7)) (As := [(0, x1), (0, x3)]) (st := []) rfl rfl (X10_isRight_s G l s (gR s x0 7) x1 x3) cal_X10_isRight rfl ml_X11_215 rfl rfl dec_X11_rightFrom.2.1.2.2.2 (k_tag (tag := 0) rfl fun r7 s8 => ?_)
    refine V_if_eq (tgt := 40) dec_X11_rightFrom.2.2.1.1 (by decide) ?_ ?_
    · refine V_iinc (lv' := [(3, (0, (w32 (x3 + 1)))), (0, (2, x0)), (1, (0, x1))]) dec_X11_rightFrom.2.2.2.1.1 2 rfl (by decide) rfl ?_
      refine V_goto (tgt := 20) dec_X11_rightFrom.2.2.2.1.2 (by decide) ?_
      exact V_pick [1, 2, 0] rfl (hk20 s8 x0 x1 (w32 (x3 + 1)))
    · refine V_iload_n dec_X11_rightFrom.2.2.1.2.1 2 rfl ?_
      exact V_iret rfl dec_X11_rightFrom.2.2.1.2.2
theorem X11_rightFrom_b20_s (G : Gx) (l : Launch) (n : Nat) (s : St) (x0 x1 x3 : Int) : V G l mX11_rightFrom 20 [(0, (2, x0)), (1, (0, x1)), (3, (0, x3))] [] s (X11_rightFrom_b20 n s x0 x1 x3) :=
  V_iter (LV := fun a : St × Int × Int × Int => [(0, (2, a.2.1)), (1, (0, a.2.2.1)), (3, (0, a.2.2.2))]) (ST := fun a : St × Int × Int × Int => []) (SS := fun a : St × Int × Int × Int => a.1) (fun rec hrec a => X11_rightFrom_b20_body_s G l (fun (s : St) (x0 x1 x3 : Int) => rec (s, x0, x1, x3)) (fun (s : St) (x0 x1 x3 : Int) => hrec (s, x0, x1, x3)) a.1 a.2.1 a.2.2.1 a.2.2.2) n (s, x0, x1, x3)
def X11_rightFrom (s : St) (a0 a1 a2 : Int) : Rs :=
  grd (isK s 21 a0) (bnd (X11_isNoDead s a0 a1) (fun r1 s2 => bnd (X11_isNoNight s2 a2) (fun r3 s4 => grd (isK s4 21 a0) (bnd (X11_refused s4 a0 r1 r3) (fun r5 s6 => if r5 = 0 then (X11_rightFrom_b20 FU s6 a0 a1 a2) else (some ((-1), s6)))))))
set_option maxRecDepth 100000 in
set_option maxHeartbeats 4000000 in
theorem X11_rightFrom_s (G : Gx) (l : Launch) (s : St) (a0 a1 a2 : Int) : Snd G l mX11_rightFrom [(2, a0), (0, a1), (0, a2)] s (X11_rightFrom s a0 a1 a2) := by
  refine Snd.of (by decide +kernel) rfl ?_
  show V G l mX11_rightFrom 0 [(0, (2, a0)), (1, (0, a1)), (2, (0, a2))] [] s _
  unfold X11_rightFrom
  refine V_aload_n dec_X11_rightFrom.1.1.1.1 0 rfl ?_
  refine V_aload_n dec_X11_rightFrom.1.1.1.2.1 0 rfl ?_
  refine V_iload_n dec_X11_rightFrom.1.1.1.2.2 1 rfl ?_
  refine V_callV0 (ci := 11) (a := a0) (As := [(0, a1)]) (st := [(2, a0)]) rfl rfl (X11_isNoDead_s G l s a0 a1) cal_X11_isNoDead rfl ml_X11_160 rfl rfl dec_X11_rightFrom.1.1.2.1 (k_tag (tag := 0) rfl fun r1 s2 => ?_)
  refine V_iload_n dec_X11_rightFrom.1.1.2.2.1 2 rfl ?_
  refine V_callS0 (As := [(0, a2)]) (st := [(0, r1), (2, a0)]) (host := "") rfl (X11_isNoNight_s G l s2 a2) cal_X11_isNoNight rfl (Or.inl ml_X11_187) rfl rfl dec_X11_rightFrom.1.1.2.2.2 (k_tag (tag := 0) rfl fun r3 s4 => ?_)
  refine V_callV0 (ci := 11) (a := a0) (As := [(0, r1), (0, r3)]) (st := []) rfl rfl (X11_refused_s G l s4 a0 r1 r3) cal_X11_refused rfl ml_X11_92 rfl rfl dec_X11_rightFrom.1.2.1.1 (k_tag (tag := 0) rfl fun r5 s6 => ?_)
  refine V_if_eq (tgt := 18) dec_X11_rightFrom.1.2.1.2.1 (by decide) ?_ ?_
  · refine V_iload_n dec_X11_rightFrom.1.2.2.1.2 2 rfl ?_
    refine V_istore_n (lv' := [(3, (0, a2)), (0, (2, a0)), (1, (0, a1)), (2, (0, a2))]) dec_X11_rightFrom.1.2.2.2.1 (by decide) rfl ?_
    exact V_pick [1, 2, 0] rfl (X11_rightFrom_b20_s G l FU s6 a0 a1 a2)
  · refine V_iconst dec_X11_rightFrom.1.2.1.2.2 rfl ?_
    exact V_iret rfl dec_X11_rightFrom.1.2.2.1.1
theorem dec_X11_rights : (((((decode cX11_rights 0 = .ok (.aload_n 0, 1) ∧ (decode cX11_rights 1 = .ok (.aload_n 0, 1) ∧ decode cX11_rights 2 = .ok (.invokevirtual 203, 3))) ∧ (decode cX11_rights 5 = .ok (.iload_n 1, 1) ∧ (decode cX11_rights 6 = .ok (.invokestatic 334, 3) ∧ decode cX11_rights 9 = .ok (.ifCond .ne 10, 3)))) ∧ ((decode cX11_rights 12 = .ok (.iload_n 2, 1) ∧ (decode cX11_rights 13 = .ok (.invokestatic 187, 3) ∧ decode cX11_rights 16 = .ok (.ifCond .eq 7, 3))) ∧ ((decode cX11_rights 19 = .ok (.iconst 1, 1) ∧ decode cX11_rights 20 = .ok (.goto 4, 3)) ∧ (decode cX11_rights 23 = .ok (.iconst 0, 1) ∧ decode cX11_rights 24 = .ok (.invokevirtual 92, 3))))) ∧ (((decode cX11_rights 27 = .ok (.ifCond .eq 5, 3) ∧ (decode cX11_rights 30 = .ok (.iconst (-1), 1) ∧ decode cX11_rights 31 = .ok (.ireturn, 1))) ∧ ((decode cX11_rights 32 = .ok (.aload_n 0, 1) ∧ decode cX11_rights 33 = .ok (.getfield 67, 3)) ∧ (decode cX11_rights 36 = .ok (.iload_n 1, 1) ∧ decode cX11_rights 37 = .ok (.putfield 337, 3)))) ∧ ((decode cX11_rights 40 = .ok (.iconst 0, 1) ∧ (decode cX11_rights 41 = .ok (.istore_n 3, 1) ∧ decode cX11_rights 42 = .ok (.iconst 0, 1))) ∧ ((decode cX11_rights 43 = .ok (.istore 4, 2) ∧ decode cX11_rights 45 = .ok (.iload 4, 2)) ∧ (decode cX11_rights 47 = .ok (.iload_n 2, 1) ∧ decode cX11_rights 48 = .ok (.if_icmp .ge 61, 3)))))) ∧ ((((decode cX11_rights 51 = .ok (.iconst 0, 1) ∧ (decode cX11_rights 52 = .ok (.istore 5, 2) ∧ decode cX11_rights 54 = .ok (.iload 5, 2))) ∧ (decode cX11_rights 56 = .ok (.aload_n 0, 1) ∧ (decode cX11_rights 57 = .ok (.getfield 27, 3) ∧ decode cX11_rights 60 = .ok (.getfield 225, 3)))) ∧ ((decode cX11_rights 63 = .ok (.if_icmp .ge 40, 3) ∧ (decode cX11_rights 66 = .ok (.aload_n 0, 1) ∧ decode cX11_rights 67 = .ok (.getfield 67, 3))) ∧ ((decode cX11_rights 70 = .ok (.aload_n 0, 1) ∧ decode cX11_rights 71 = .ok (.getfield 36, 3)) ∧ (decode cX11_rights 74 = .ok (.iload 5, 2) ∧ decode cX11_rights 76 = .ok (.iload 4, 2))))) ∧ (((decode cX11_rights 78 = .ok (.invokevirtual 343, 3) ∧ (decode cX11_rights 81 = .ok (.aload_n 0, 1) ∧ decode cX11_rights 82 = .ok (.getfield 27, 3))) ∧ ((decode cX11_rights 85 = .ok (.getfield 169, 3) ∧ decode cX11_rights 88 = .ok (.iload 5, 2)) ∧ (decode cX11_rights 90 = .ok (.iaload, 1) ∧ decode cX11_rights 91 = .ok (.if_icmp .ne 6, 3)))) ∧ ((decode cX11_rights 94 = .ok (.iinc 3 1, 3) ∧ (decode cX11_rights 97 = .ok (.iinc 5 1, 3) ∧ decode cX11_rights 100 = .ok (.goto (-46), 3))) ∧ ((decode cX11_rights 103 = .ok (.iinc 4 1, 3) ∧ decode cX11_rights 106 = .ok (.goto (-61), 3)) ∧ (decode cX11_rights 109 = .ok (.iload_n 3, 1) ∧ decode cX11_rights 110 = .ok (.ireturn, 1))))))) := ⟨⟨⟨by decide +kernel, by decide +kernel⟩, ⟨by decide +kernel, by decide +kernel⟩⟩, ⟨⟨by decide +kernel, by decide +kernel⟩, ⟨by decide +kernel, by decide +kernel⟩⟩⟩
def X11_rights_b97 (rk45 : St → Int → Int → Int → Int → Rs) (rk54 : St → Int → Int → Int → Int → Int → Rs) (s : St) (x0 x2 x3 x4 x5 : Int) : Rs :=
  rk54 s x0 x2 x3 x4 (w32 (x5 + 1))
set_option maxRecDepth 100000 in
set_option maxHeartbeats 4000000 in
theorem X11_rights_b97_s (G : Gx) (l : Launch) (rk45 : St → Int → Int → Int → Int → Rs) (rk54 : St → Int → Int → Int → Int → Int → Rs) (hk45 : ∀ (s : St) (x0 x2 x3 x4 : Int), V G l mX11_rights 45 [(0, (2, x0)), (2, (0, x2)), (3, (0, x3)), (4, (0, x4))] [] s (rk45 s x0 x2 x3 x4)) (hk54 : ∀ (s : St) (x0 x2 x3 x4 x5 : Int), V G l mX11_rights 54 [(0, (2, x0)), (2, (0, x2)), (3, (0, x3)), (4, (0, x4)), (5, (0, x5))] [] s (rk54 s x0 x2 x3 x4 x5)) (s : St) (x0 x2 x3 x4 x5 : Int) : V G l mX11_rights 97 [(0, (2, x0)), (2, (0, x2)), (3, (0, x3)), (4, (0, x4)), (5, (0, x5))] [] s (X11_rights_b97 rk45 rk54 s x0 x2 x3 x4 x5) := by
  unfold X11_rights_b97
  refine V_iinc (lv' := [(5, (0, (w32 (x5 + 1)))), (0, (2, x0)), (2, (0, x2)), (3, (0, x3)), (4, (0, x4))]) dec_X11_rights.2.2.2.1.2.1 4 rfl (by decide) rfl ?_
  refine V_goto (tgt := 54) dec_X11_rights.2.2.2.1.2.2 (by decide) ?_
  exact V_pick [1, 2, 3, 4, 0] rfl (hk54 s x0 x2 x3 x4 (w32 (x5 + 1)))
def X11_rights_b54_body (rk45 : St → Int → Int → Int → Int → Rs) (rk54 : St → Int → Int → Int → Int → Int → Rs) (s : St) (x0 x2 x3 x4 x5 : Int) : Rs :=
  grd (isK s 21 x0) (grd (isK s 19 (gR s x0 6)) (if (gI s (gR s x0 6) 3) ≤ x5 then (rk45 s x0 x2 x3 (w32 (x4 + 1))) else (grd (isK s 21 x0) (grd (isK s 21 x0) (grd (isK s 12 (gR s x0 12)) (bnd (X2_drawnListener s (gR s x0 12) (gR s x0 7) x5 x4) (fun r8 s9 => grd (isK s9 21 x0) (grd (isK s9 19 (gR s9 x0 6)) (grd (isK s9 1 (gR s9 (gR s9 x0 6) 8) ∧ 0 ≤ x5 ∧ x5 < ln s9 (gR s9 (gR s9 x0 6) 8)) (if ¬ r8 = (gI s9 (gR s9 (gR s9 x0 6) 8) x5.toNat) then (X11_rights_b97 rk45 rk54 s9 x0 x2 x3 x4 x5) else (X11_rights_b97 rk45 rk54 s9 x0 x2 (w32 (x3 + 1)) x4 x5)))))))))))
def X11_rights_b54 (rk45 : St → Int → Int → Int → Int → Rs) (n : Nat) (s : St) (x0 x2 x3 x4 x5 : Int) : Rs := iter (fun (rec : St × Int × Int × Int × Int × Int → Rs) (a : St × Int × Int × Int × Int × Int) => X11_rights_b54_body rk45 (fun (s : St) (x0 x2 x3 x4 x5 : Int) => rec (s, x0, x2, x3, x4, x5)) a.1 a.2.1 a.2.2.1 a.2.2.2.1 a.2.2.2.2.1 a.2.2.2.2.2) n (s, x0, x2, x3, x4, x5)
theorem X11_rights_b54_0 (rk45 : St → Int → Int → Int → Int → Rs) (s : St) (x0 x2 x3 x4 x5 : Int) : X11_rights_b54 rk45 0 s x0 x2 x3 x4 x5 = none := rfl
theorem X11_rights_b54_1 (rk45 : St → Int → Int → Int → Int → Rs) (n : Nat) (s : St) (x0 x2 x3 x4 x5 : Int) : X11_rights_b54 rk45 (n + 1) s x0 x2 x3 x4 x5 = X11_rights_b54_body rk45 (X11_rights_b54 rk45 n) s x0 x2 x3 x4 x5 := rfl
set_option maxRecDepth 100000 in
set_option maxHeartbeats 4000000 in
theorem X11_rights_b54_body_s (G : Gx) (l : Launch) (rk45 : St → Int → Int → Int → Int → Rs) (rk54 : St → Int → Int → Int → Int → Int → Rs) (hk45 : ∀ (s : St) (x0 x2 x3 x4 : Int), V G l mX11_rights 45 [(0, (2, x0)), (2, (0, x2)), (3, (0, x3)), (4, (0, x4))] [] s (rk45 s x0 x2 x3 x4)) (hk54 : ∀ (s : St) (x0 x2 x3 x4 x5 : Int), V G l mX11_rights 54 [(0, (2, x0)), (2, (0, x2)), (3, (0, x3)), (4, (0, x4)), (5, (0, x5))] [] s (rk54 s x0 x2 x3 x4 x5)) (s : St) (x0 x2 x3 x4 x5 : Int) : V G l mX11_rights 54 [(0, (2, x0)), (2, (0, x2)), (3, (0, x3)), (4, (0, x4)), (5, (0, x5))] [] s (X11_rights_b54_body rk45 rk54 s x0 x2 x3 x4 x5) := by
  unfold X11_rights_b54_body
  refine V_iload dec_X11_rights.2.1.1.1.2.2 4 rfl ?_
  refine V_aload_n dec_X11_rights.2.1.1.2.1 0 rfl ?_
  refine V_getR 11 6 nf_11_6 ft_11_6 fl_X11_27 dec_X11_rights.2.1.1.2.2.1 ?_
  refine V_getI 9 3 nf_9_3 ft_9_3 fl_X11_225 dec_X11_rights.2.1.1.2.2.2 ?_
  refine V_icmp_ge (tgt := 103) dec_X11_rights.2.1.2.1.1 (by decide) ?_ ?_
  · refine V_iinc (lv' := [(4, (0, (w32 (x4 + 1)))), (0, (2, x0)), (2, (0, x2)), (3, (0, x3)), (5, (0, x5))]) dec_X11_rights.2.2.2.2.1.1 3 rfl (by decide) rfl ?_
    refine V_goto (tgt := 45) dec_X11_rights.2.2.2.2.1.2 (by decide) ?_
    exact V_pick [1, 2, 3, 0] rfl (hk45 s x0 x2 x3 (w32 (x4 + 1)))
  · refine V_aload_n dec_X11_rights.2.1.2.1.2.1 0 rfl ?_
    refine V_getR 11 12 nf_11_12 ft_11_12 fl_X11_67 dec_X11_rights.2.1.2.1.2.2 ?_
    refine V_aload_n dec_X11_rights.2.1.2.2.1.1 0 rfl ?_
    refine V_getR 11 7 nf_11_7 ft_11_7 fl_X11_36 dec_X11_rights.2.1.2.2.1.2 ?_
    refine V_iload dec_X11_rights.2.1.2.2.2.1 4 rfl ?_
    refine V_iload dec_X11_rights.2.1.2.2.2.2 3 rfl ?_
    refine V_callV0 (ci := 2) (a := (gR s x0 12)) (As := [(2, (gR s x0 7)), (0, x5), (0, x4)]) (st := []) rfl rfl (X2_drawnListener_s G l s (gR s x0 12) (gR s x0 7) x5 x4) cal_X2_drawnListener rfl ml_X11_343 rfl rfl dec_X11_rights.2.2.1.1.1 (k_tag (tag := 0) rfl fun r8 s9 => ?_)
    refine V_aload_n dec_X11_rights.2.2.1.1.2.1 0 rfl ?_
    refine V_getR 11 6 nf_11_6 ft_11_6 fl_X11_27 dec_X11_rights.2.2.1.1.2.2 ?_
    refine V_getR 9 8 nf_9_8 ft_9_8 fl_X11_169 dec_X11_rights.2.2.1.2.1.1 ?_
    refine V_iload dec_X11_rights.2.2.1.2.1.2 4 rfl ?_
    refine V_iald dec_X11_rights.2.2.1.2.2.1 ?_
    refine V_icmp_ne (tgt := 97) dec_X11_rights.2.2.1.2.2.2 (by decide) ?_ ?_
    · exact V_pick [0, 1, 2, 3, 4] rfl (X11_rights_b97_s G l rk45 rk54 hk45 hk54 s9 x0 x2 x3 x4 x5)
    · refine V_iinc (lv' := [(3, (0, (w32 (x3 + 1)))), (0, (2, x0)), (2, (0, x2)), (4, (0, x4)), (5, (0, x5))]) dec_X11_rights.2.2.2.1.1 2 rfl (by decide) rfl ?_
      exact V_pick [1, 2, 0, 3, 4] rfl (X11_rights_b97_s G l rk45 rk54 hk45 hk54 s9 x0 x2 (w32 (x3 + 1)) x4 x5)
theorem X11_rights_b54_s (G : Gx) (l : Launch) (rk45 : St → Int → Int → Int → Int → Rs) (hk45 : ∀ (s : St) (x0 x2 x3 x4 : Int), V G l mX11_rights 45 [(0, (2, x0)), (2, (0, x2)), (3, (0, x3)), (4, (0, x4))] [] s (rk45 s x0 x2 x3 x4)) (n : Nat) (s : St) (x0 x2 x3 x4 x5 : Int) : V G l mX11_rights 54 [(0, (2, x0)), (2, (0, x2)), (3, (0, x3)), (4, (0, x4)), (5, (0, x5))] [] s (X11_rights_b54 rk45 n s x0 x2 x3 x4 x5) :=
  V_iter (LV := fun a : St × Int × Int × Int × Int × Int => [(0, (2, a.2.1)), (2, (0, a.2.2.1)), (3, (0, a.2.2.2.1)), (4, (0, a.2.2.2.2.1)), (5, (0, a.2.2.2.2.2))]) (ST := fun a : St × Int × Int × Int × Int × Int => []) (SS := fun a : St × Int × Int × Int × Int × Int => a.1) (fun rec hrec a => X11_rights_b54_body_s G l rk45 (fun (s : St) (x0 x2 x3 x4 x5 : Int) => rec (s, x0, x2, x3, x4, x5)) hk45 (fun (s : St) (x0 x2 x3 x4 x5 : Int) => hrec (s, x0, x2, x3, x4, x5)) a.1 a.2.1 a.2.2.1 a.2.2.2.1 a.2.2.2.2.1 a.2.2.2.2.2) n (s, x0, x2, x3, x4, x5)
def X11_rights_b45_body (rk45 : St → Int → Int → Int → Int → Rs) (s : St) (x0 x2 x3 x4 : Int) : Rs :=
  if x2 ≤ x4 then (some (x3, s)) else (X11_rights_b54 rk45 FU s x0 x2 x3 x4 0)
def X11_rights_b45 (n : Nat) (s : St) (x0 x2 x3 x4 : Int) : Rs := iter (fun (rec : St × Int × Int × Int × Int → Rs) (a : St × Int × Int × Int × Int) => X11_rights_b45_body (fun (s : St) (x0 x2 x3 x4 : Int) => rec (s, x0, x2, x3, x4)) a.1 a.2.1 a.2.2.1 a.2.2.2.1 a.2.2.2.2) n (s, x0, x2, x3, x4)
theorem X11_rights_b45_0 (s : St) (x0 x2 x3 x4 : Int) : X11_rights_b45 0 s x0 x2 x3 x4 = none := rfl
theorem X11_rights_b45_1 (n : Nat) (s : St) (x0 x2 x3 x4 : Int) : X11_rights_b45 (n + 1) s x0 x2 x3 x4 = X11_rights_b45_body (X11_rights_b45 n) s x0 x2 x3 x4 := rfl
set_option maxRecDepth 100000 in
set_option maxHeartbeats 4000000 in
theorem X11_rights_b45_body_s (G : Gx) (l : Launch) (rk45 : St → Int → Int → Int → Int → Rs) (hk45 : ∀ (s : St) (x0 x2 x3 x4 : Int), V G l mX11_rights 45 [(0, (2, x0)), (2, (0, x2)), (3, (0, x3)), (4, (0, x4))] [] s (rk45 s x0 x2 x3 x4)) (s : St) (x0 x2 x3 x4 : Int) : V G l mX11_rights 45 [(0, (2, x0)), (2, (0, x2)), (3, (0, x3)), (4, (0, x4))] [] s (X11_rights_b45_body rk45 s x0 x2 x3 x4) := by
  unfold X11_rights_b45_body
  refine V_iload dec_X11_rights.1.2.2.2.1.2 3 rfl ?_
  refine V_iload_n dec_X11_rights.1.2.2.2.2.1 1 rfl ?_
  refine V_icmp_ge (tgt := 109) dec_X11_rights.1.2.2.2.2.2 (by decide) ?_ ?_
  · refine V_iload_n dec_X11_rights.2.2.2.2.2.1 2 rfl ?_
    exact V_iret rfl dec_X11_rights.2.2.2.2.2.2
  · refine V_iconst dec_X11_rights.2.1.1.1.1 rfl ?_
    refine V_istore (lv' := [(5, (0, 0)), (0, (2, x0)), (2, (0, x2)), (3, (0, x3)), (4, (0, x4))]) dec_X11_rights.2.1.1.1.2.1 (by decide) rfl ?_
    exact V_pick [1, 2, 3, 4, 0] rfl (X11_rights_b54_s G l rk45 hk45 FU s x0 x2 x3 x4 0)
theorem X11_rights_b45_s (G : Gx) (l : Launch) (n : Nat) (s : St) (x0 x2 x3 x4 : Int) : V G l mX11_rights 45 [(0, (2, x0)), (2, (0, x2)), (3, (0, x3)), (4, (0, x4))] [] s (X11_rights_b45 n s x0 x2 x3 x4) :=
  V_iter (LV := fun a : St × Int × Int × Int × Int => [(0, (2, a.2.1)), (2, (0, a.2.2.1)), (3, (0, a.2.2.2.1)), (4, (0, a.2.2.2.2))]) (ST := fun a : St × Int × Int × Int × Int => []) (SS := fun a : St × Int × Int × Int × Int => a.1) (fun rec hrec a => X11_rights_b45_body_s G l (fun (s : St) (x0 x2 x3 x4 : Int) => rec (s, x0, x2, x3, x4)) (fun (s : St) (x0 x2 x3 x4 : Int) => hrec (s, x0, x2, x3, x4)) a.1 a.2.1 a.2.2.1 a.2.2.2.1 a.2.2.2.2) n (s, x0, x2, x3, x4)
def X11_rights_b24 (s : St) (x0 x1 x2 k0 k1 k2 : Int) : Rs :=
  grd (isK s 21 k2) (bnd (X11_refused s k2 k1 k0) (fun r5 s6 => if r5 = 0 then (grd (isK s6 21 x0) (grd (isK s6 12 (gR s6 x0 12)) (lets (pI s6 (gR s6 x0 12) 1 x1) (fun s7 => X11_rights_b45 FU s7 x0 x2 0 0)))) else (some ((-1), s6))))
set_option maxRecDepth 100000 in
set_option maxHeartbeats 4000000 in
theorem X11_rights_b24_s (G : Gx) (l : Launch) (s : St) (x0 x1 x2 k0 k1 k2 : Int) : V G l mX11_rights 24 [(0, (2, x0)), (1, (0, x1)), (2, (0, x2))] [(0, k0), (0, k1), (2, k2)] s (X11_rights_b24 s x0 x1 x2 k0 k1 k2) := by
  unfold X11_rights_b24
  refine V_callV0 (ci := 11) (a := k2) (As := [(0, k1), (0, k0)]) (st := []) rfl rfl (X11_refused_s G l s k2 k1 k0) cal_X11_refused rfl ml_X11_92 rfl rfl dec_X11_rights.1.1.2.2.2.2 (k_tag (tag := 0) rfl fun r5 s6 => ?_)
  refine V_if_eq (tgt := 32) dec_X11_rights.1.2.1.1.1 (by decide) ?_ ?_
  · refine V_aload_n dec_X11_rights.1.2.1.2.1.1 0 rfl ?_
    refine V_getR 11 12 nf_11_12 ft_11_12 fl_X11_67 dec_X11_rights.1.2.1.2.1.2 ?_
    refine V_iload_n dec_X11_rights.1.2.1.2.2.1 1 rfl ?_
    refine V_putI (host := "") 2 1 nf_2_1 ty_2_1 (Or.inl ⟨fl_X11_337, Or.inl rfl⟩) dec_X11_rights.1.2.1.2.2.2 ?_
    refine V_lets fun s7 => ?_
    refine V_iconst dec_X11_rights.1.2.2.1.1 rfl ?_
    refine V_istore_n (lv' := [(3, (0, 0)), (0, (2, x0)), (1, (0, x1)), (2, (0, x2))]) dec_X11_rights.1.2.2.1.2.1 (by decide) rfl ?_
    refine V_iconst dec_X11_rights.1.2.2.1.2.2 rfl ?_
    refine V_istore (lv' := [(4, (0, 0)), (3, (0, 0)), (0, (2, x0)), (1, (0, x1)), (2, (0, x2))]) dec_X11_rights.1.2.2.2.1.1 (by decide) rfl ?_
    exact V_pick [2, 4, 1, 0] rfl (X11_rights_b45_s G l FU s7 x0 x2 0 0)
  · refine V_iconst dec_X11_rights.1.2.1.1.2.1 rfl ?_
    exact V_iret rfl dec_X11_rights.1.2.1.1.2.2
def X11_rights_b19 (s : St) (x0 x1 x2 k0 k1 : Int) : Rs :=
  X11_rights_b24 s x0 x1 x2 1 k0 k1
set_option maxRecDepth 100000 in
set_option maxHeartbeats 4000000 in
theorem X11_rights_b19_s (G : Gx) (l : Launch) (s : St) (x0 x1 x2 k0 k1 : Int) : V G l mX11_rights 19 [(0, (2, x0)), (1, (0, x1)), (2, (0, x2))] [(0, k0), (2, k1)] s (X11_rights_b19 s x0 x1 x2 k0 k1) := by
  unfold X11_rights_b19
  refine V_iconst dec_X11_rights.1.1.2.2.1.1 rfl ?_
  refine V_goto (tgt := 24) dec_X11_rights.1.1.2.2.1.2 (by decide) ?_
  exact V_pick [0, 1, 2] rfl (X11_rights_b24_s G l s x0 x1 x2 1 k0 k1)
def X11_rights (s : St) (a0 a1 a2 : Int) : Rs :=
  grd (isK s 21 a0) (bnd (X11_isNoTown s a0) (fun r1 s2 => bnd (X11_isNoSeed s2 a1) (fun r3 s4 => if ¬ r3 = 0 then (X11_rights_b19 s4 a0 a1 a2 r1 a0) else (bnd (X11_isNoNight s4 a2) (fun r10 s11 => if r10 = 0 then (X11_rights_b24 s11 a0 a1 a2 0 r1 a0) else (X11_rights_b19 s11 a0 a1 a2 r1 a0))))))
set_option maxRecDepth 100000 in
set_option maxHeartbeats 4000000 in
theorem X11_rights_s (G : Gx) (l : Launch) (s : St) (a0 a1 a2 : Int) : Snd G l mX11_rights [(2, a0), (0, a1), (0, a2)] s (X11_rights s a0 a1 a2) := by
  refine Snd.of (by decide +kernel) rfl ?_
  show V G l mX11_rights 0 [(0, (2, a0)), (1, (0, a1)), (2, (0, a2))] [] s _
  unfold X11_rights
  refine V_aload_n dec_X11_rights.1.1.1.1.1 0 rfl ?_
  refine V_aload_n dec_X11_rights.1.1.1.1.2.1 0 rfl ?_
  refine V_callV0 (ci := 11) (a := a0) (As := []) (st := [(2, a0)]) rfl rfl (X11_isNoTown_s G l s a0) cal_X11_isNoTown rfl ml_X11_203 rfl rfl dec_X11_rights.1.1.1.1.2.2 (k_tag (tag := 0) rfl fun r1 s2 => ?_)
  refine V_iload_n dec_X11_rights.1.1.1.2.1 1 rfl ?_
  refine V_callS0 (As := [(0, a1)]) (st := [(0, r1), (2, a0)]) (host := "") rfl (X11_isNoSeed_s G l s2 a1) cal_X11_isNoSeed rfl (Or.inl ml_X11_334) rfl rfl dec_X11_rights.1.1.1.2.2.1 (k_tag (tag := 0) rfl fun r3 s4 => ?_)
  refine V_if_ne (tgt := 19) dec_X11_rights.1.1.1.2.2.2 (by decide) ?_ ?_
  · exact V_pick [0, 1, 2] rfl (X11_rights_b19_s G l s4 a0 a1 a2 r1 a0)
  · refine V_iload_n dec_X11_rights.1.1.2.1.1 2 rfl ?_
    refine V_callS0 (As := [(0, a2)]) (st := [(0, r1), (2, a0)]) (host := "") rfl (X11_isNoNight_s G l s4 a2) cal_X11_isNoNight rfl (Or.inl ml_X11_187) rfl rfl dec_X11_rights.1.1.2.1.2.1 (k_tag (tag := 0) rfl fun r10 s11 => ?_)
    refine V_if_eq (tgt := 23) dec_X11_rights.1.1.2.1.2.2 (by decide) ?_ ?_
    · refine V_iconst dec_X11_rights.1.1.2.2.2.1 rfl ?_
      exact V_pick [0, 1, 2] rfl (X11_rights_b24_s G l s11 a0 a1 a2 0 r1 a0)
    · exact V_pick [0, 1, 2] rfl (X11_rights_b19_s G l s11 a0 a1 a2 r1 a0)
theorem dec_X11_ringLength : ((((decode cX11_ringLength 0 = .ok (.iload_n 1, 1) ∧ decode cX11_ringLength 1 = .ok (.istore_n 3, 1)) ∧ (decode cX11_ringLength 2 = .ok (.iconst 1, 1) ∧ (decode cX11_ringLength 3 = .ok (.istore 4, 2) ∧ decode cX11_ringLength 5 = .ok (.iload 4, 2)))) ∧ ((decode cX11_ringLength 7 = .ok (.aload_n 0, 1) ∧ (decode cX11_ringLength 8 = .ok (.getfield 27, 3) ∧ decode cX11_ringLength 11 = .ok (.getfield 133, 3))) ∧ (decode cX11_ringLength 14 = .ok (.if_icmp .gt 24, 3) ∧ (decode cX11_ringLength 17 = .ok (.aload_n 0, 1) ∧ decode cX11_ringLength 18 = .ok (.iload_n 3, 1))))) ∧ (((decode cX11_ringLength 19 = .ok (.iload_n 2, 1) ∧ (decode cX11_ringLength 20 = .ok (.invokevirtual 274, 3) ∧ decode cX11_ringLength 23 = .ok (.istore_n 3, 1))) ∧ (decode cX11_ringLength 24 = .ok (.iload_n 3, 1) ∧ (decode cX11_ringLength 25 = .ok (.iload_n 1, 1) ∧ decode cX11_ringLength 26 = .ok (.if_icmp .ne 6, 3)))) ∧ ((decode cX11_ringLength 29 = .ok (.iload 4, 2) ∧ (decode cX11_ringLength 31 = .ok (.ireturn, 1) ∧ decode cX11_ringLength 32 = .ok (.iinc 4 1, 3))) ∧ (decode cX11_ringLength 35 = .ok (.goto (-30), 3) ∧ (decode cX11_ringLength 38 = .ok (.bipush (-2), 2) ∧ decode cX11_ringLength 40 = .ok (.ireturn, 1)))))) := ⟨by decide +kernel, by decide +kernel⟩
def X11_ringLength_b5_body (rk5 : St → Int → Int → Int → Int → Int → Rs) (s : St) (x0 x1 x2 x3 x4 : Int) : Rs :=
  grd (isK s 21 x0) (grd (isK s 19 (gR s x0 6)) (if (gI s (gR s x0 6) 2) < x4 then (some ((-2), s)) else (grd (isK s 21 x0) (bnd (X11_nextInRing s x0 x3 x2) (fun r1 s2 => if ¬ r1 = x1 then (rk5 s2 x0 x1 x2 r1 (w32 (x4 + 1))) else (some (x4, s2)))))))
def X11_ringLength_b5 (n : Nat) (s : St) (x0 x1 x2 x3 x4 : Int) : Rs := iter (fun (rec : St × Int × Int × Int × Int × Int → Rs) (a : St × Int × Int × Int × Int × Int) => X11_ringLength_b5_body (fun (s : St) (x0 x1 x2 x3 x4 : Int) => rec (s, x0, x1, x2, x3, x4)) a.1 a.2.1 a.2.2.1 a.2.2.2.1 a.2.2.2.2.1 a.2.2.2.2.2) n (s, x0, x1, x2, x3, x4)
theorem X11_ringLength_b5_0 (s : St) (x0 x1 x2 x3 x4 : Int) : X11_ringLength_b5 0 s x0 x1 x2 x3 x4 = none := rfl
theorem X11_ringLength_b5_1 (n : Nat) (s : St) (x0 x1 x2 x3 x4 : Int) : X11_ringLength_b5 (n + 1) s x0 x1 x2 x3 x4 = X11_ringLength_b5_body (X11_ringLength_b5 n) s x0 x1 x2 x3 x4 := rfl
set_option maxRecDepth 100000 in
set_option maxHeartbeats 4000000 in
theorem X11_ringLength_b5_body_s (G : Gx) (l : Launch) (rk5 : St → Int → Int → Int → Int → Int → Rs) (hk5 : ∀ (s : St) (x0 x1 x2 x3 x4 : Int), V G l mX11_ringLength 5 [(0, (2, x0)), (1, (0, x1)), (2, (0, x2)), (3, (0, x3)), (4, (0, x4))] [] s (rk5 s x0 x1 x2 x3 x4)) (s : St) (x0 x1 x2 x3 x4 : Int) : V G l mX11_ringLength 5 [(0, (2, x0)), (1, (0, x1)), (2, (0, x2)), (3, (0, x3)), (4, (0, x4))] [] s (X11_ringLength_b5_body rk5 s x0 x1 x2 x3 x4) := by
  unfold X11_ringLength_b5_body
  refine V_iload dec_X11_ringLength.1.1.2.2.2 4 rfl ?_
  refine V_aload_n dec_X11_ringLength.1.2.1.1 0 rfl ?_
  refine V_getR 11 6 nf_11_6 ft_11_6 fl_X11_27 dec_X11_ringLength.1.2.1.2.1 ?_
  refine V_getI 9 2 nf_9_2 ft_9_2 fl_X11_133 dec_X11_ringLength.1.2.1.2.2 ?_
  refine V_icmp_gt (tgt := 38) dec_X11_ringLength.1.2.2.1 (by decide) ?_ ?_
  · refine V_bipush dec_X11_ringLength.2.2.2.2.1 rfl ?_
    exact V_iret rfl dec_X11_ringLength.2.2.2.2.2
  · refine V_aload_n dec_X11_ringLength.1.2.2.2.1 0 rfl ?_
    refine V_iload_n dec_X11_ringLength.1.2.2.2.2 3 rfl ?_
    refine V_iload_n dec_X11_ringLength.2.1.1.1 2 rfl ?_
    refine V_callV0 (ci := 11) (a := x0) (As := [(0, x3), (0, x2)]) (st := []) rfl rfl (X11_nextInRing_s G l s x0 x3 x2) cal_X11_nextInRing rfl ml_X11_274 rfl rfl dec_X11_ringLength.2.1.1.2.1 (k_tag (tag := 0) rfl fun r1 s2 => ?_)
    refine V_istore_n (lv' := [(3, (0, r1)), (0, (2, x0)), (1, (0, x1)), (2, (0, x2)), (4, (0, x4))]) dec_X11_ringLength.2.1.1.2.2 (by decide) rfl ?_
    refine V_iload_n dec_X11_ringLength.2.1.2.1 0 rfl ?_
    refine V_iload_n dec_X11_ringLength.2.1.2.2.1 2 rfl ?_
    refine V_icmp_ne (tgt := 32) dec_X11_ringLength.2.1.2.2.2 (by decide) ?_ ?_
    · refine V_iinc (lv' := [(4, (0, (w32 (x4 + 1)))), (3, (0, r1)), (0, (2, x0)), (1, (0, x1)), (2, (0, x2))]) dec_X11_ringLength.2.2.1.2.2 4 rfl (by decide) rfl ?_
      refine V_goto (tgt := 5) dec_X11_ringLength.2.2.2.1 (by decide) ?_
      exact V_pick [2, 3, 4, 1, 0] rfl (hk5 s2 x0 x1 x2 r1 (w32 (x4 + 1)))
    · refine V_iload dec_X11_ringLength.2.2.1.1 4 rfl ?_
      exact V_iret rfl dec_X11_ringLength.2.2.1.2.1
theorem X11_ringLength_b5_s (G : Gx) (l : Launch) (n : Nat) (s : St) (x0 x1 x2 x3 x4 : Int) : V G l mX11_ringLength 5 [(0, (2, x0)), (1, (0, x1)), (2, (0, x2)), (3, (0, x3)), (4, (0, x4))] [] s (X11_ringLength_b5 n s x0 x1 x2 x3 x4) :=
  V_iter (LV := fun a : St × Int × Int × Int × Int × Int => [(0, (2, a.2.1)), (1, (0, a.2.2.1)), (2, (0, a.2.2.2.1)), (3, (0, a.2.2.2.2.1)), (4, (0, a.2.2.2.2.2))]) (ST := fun a : St × Int × Int × Int × Int × Int => []) (SS := fun a : St × Int × Int × Int × Int × Int => a.1) (fun rec hrec a => X11_ringLength_b5_body_s G l (fun (s : St) (x0 x1 x2 x3 x4 : Int) => rec (s, x0, x1, x2, x3, x4)) (fun (s : St) (x0 x1 x2 x3 x4 : Int) => hrec (s, x0, x1, x2, x3, x4)) a.1 a.2.1 a.2.2.1 a.2.2.2.1 a.2.2.2.2.1 a.2.2.2.2.2) n (s, x0, x1, x2, x3, x4)
def X11_ringLength (s : St) (a0 a1 a2 : Int) : Rs :=
  X11_ringLength_b5 FU s a0 a1 a2 a1 1
set_option maxRecDepth 100000 in
set_option maxHeartbeats 4000000 in
theorem X11_ringLength_s (G : Gx) (l : Launch) (s : St) (a0 a1 a2 : Int) : Snd G l mX11_ringLength [(2, a0), (0, a1), (0, a2)] s (X11_ringLength s a0 a1 a2) := by
  refine Snd.of (by decide +kernel) rfl ?_
  show V G l mX11_ringLength 0 [(0, (2, a0)), (1, (0, a1)), (2, (0, a2))] [] s _
  unfold X11_ringLength
  refine V_iload_n dec_X11_ringLength.1.1.1.1 1 rfl ?_
  refine V_istore_n (lv' := [(3, (0, a1)), (0, (2, a0)), (1, (0, a1)), (2, (0, a2))]) dec_X11_ringLength.1.1.1.2 (by decide) rfl ?_
  refine V_iconst dec_X11_ringLength.1.1.2.1 rfl ?_
  refine V_istore (lv' := [(4, (0, 1)), (3, (0, a1)), (0, (2, a0)), (1, (0, a1)), (2, (0, a2))]) dec_X11_ringLength.1.1.2.2.1 (by decide) rfl ?_
  exact V_pick [2, 3, 4, 1, 0] rfl (X11_ringLength_b5_s G l FU s a0 a1 a2 a1 1)
theorem dec_X11_ring : (((decode cX11_ring 0 = .ok (.aload_n 0, 1) ∧ (decode cX11_ring 1 = .ok (.aload_n 0, 1) ∧ decode cX11_ring 2 = .ok (.iload_n 1, 1))) ∧ ((decode cX11_ring 3 = .ok (.invokevirtual 139, 3) ∧ decode cX11_ring 6 = .ok (.iload_n 2, 1)) ∧ (decode cX11_ring 7 = .ok (.invokestatic 187, 3) ∧ decode cX11_ring 10 = .ok (.invokevirtual 92, 3)))) ∧ (((decode cX11_ring 13 = .ok (.ifCond .eq 5, 3) ∧ decode cX11_ring 16 = .ok (.iconst (-1), 1)) ∧ (decode cX11_ring 17 = .ok (.ireturn, 1) ∧ decode cX11_ring 18 = .ok (.aload_n 0, 1))) ∧ ((decode cX11_ring 19 = .ok (.iload_n 1, 1) ∧ decode cX11_ring 20 = .ok (.iload_n 2, 1)) ∧ (decode cX11_ring 21 = .ok (.invokevirtual 271, 3) ∧ decode cX11_ring 24 = .ok (.ireturn, 1))))) := ⟨by decide +kernel, by decide +kernel⟩
def X11_ring (s : St) (a0 a1 a2 : Int) : Rs :=
  grd (isK s 21 a0) (bnd (X11_isNoPerson s a0 a1) (fun r1 s2 => bnd (X11_isNoNight s2 a2) (fun r3 s4 => grd (isK s4 21 a0) (bnd (X11_refused s4 a0 r1 r3) (fun r5 s6 => if r5 = 0 then (grd (isK s6 21 a0) (bnd (X11_ringLength s6 a0 a1 a2) (fun r7 s8 => some (r7, s8)))) else (some ((-1), s6)))))))
set_option maxRecDepth 100000 in
set_option maxHeartbeats 4000000 in
theorem X11_ring_s (G : Gx) (l : Launch) (s : St) (a0 a1 a2 : Int) : Snd G l mX11_ring [(2, a0), (0, a1), (0, a2)] s (X11_ring s a0 a1 a2) := by
  refine Snd.of (by decide +kernel) rfl ?_
  show V G l mX11_ring 0 [(0, (2, a0)), (1, (0, a1)), (2, (0, a2))] [] s _
  unfold X11_ring
  refine V_aload_n dec_X11_ring.1.1.1 0 rfl ?_
  refine V_aload_n dec_X11_ring.1.1.2.1 0 rfl ?_
  refine V_iload_n dec_X11_ring.1.1.2.2 1 rfl ?_
  refine V_callV0 (ci := 11) (a := a0) (As := [(0, a1)]) (st := [(2, a0)]) rfl rfl (X11_isNoPerson_s G l s a0 a1) cal_X11_isNoPerson rfl ml_X11_139 rfl rfl dec_X11_ring.1.2.1.1 (k_tag (tag := 0) rfl fun r1 s2 => ?_)
  refine V_iload_n dec_X11_ring.1.2.1.2 2 rfl ?_
  refine V_callS0 (As := [(0, a2)]) (st := [(0, r1), (2, a0)]) (host := "") rfl (X11_isNoNight_s G l s2 a2) cal_X11_isNoNight rfl (Or.inl ml_X11_187) rfl rfl dec_X11_ring.1.2.2.1 (k_tag (tag := 0) rfl fun r3 s4 => ?_)
  refine V_callV0 (ci := 11) (a := a0) (As := [(0, r1), (0, r3)]) (st := []) rfl rfl (X11_refused_s G l s4 a0 r1 r3) cal_X11_refused rfl ml_X11_92 rfl rfl dec_X11_ring.1.2.2.2 (k_tag (tag := 0) rfl fun r5 s6 => ?_)
  refine V_if_eq (tgt := 18) dec_X11_ring.2.1.1.1 (by decide) ?_ ?_
  · refine V_aload_n dec_X11_ring.2.1.2.2 0 rfl ?_
    refine V_iload_n dec_X11_ring.2.2.1.1 1 rfl ?_
    refine V_iload_n dec_X11_ring.2.2.1.2 2 rfl ?_
    refine V_callV0 (ci := 11) (a := a0) (As := [(0, a1), (0, a2)]) (st := []) rfl rfl (X11_ringLength_s G l s6 a0 a1 a2) cal_X11_ringLength rfl ml_X11_271 rfl rfl dec_X11_ring.2.2.2.1 (k_tag (tag := 0) rfl fun r7 s8 => ?_)
    exact V_iret rfl dec_X11_ring.2.2.2.2
  · refine V_iconst dec_X11_ring.2.1.1.2 rfl ?_
    exact V_iret rfl dec_X11_ring.2.1.2.1
theorem dec_X11_ringAt : (((((decode cX11_ringAt 0 = .ok (.aload_n 0, 1) ∧ decode cX11_ringAt 1 = .ok (.aload_n 0, 1)) ∧ (decode cX11_ringAt 2 = .ok (.iload_n 1, 1) ∧ decode cX11_ringAt 3 = .ok (.invokevirtual 139, 3))) ∧ ((decode cX11_ringAt 6 = .ok (.iload_n 2, 1) ∧ decode cX11_ringAt 7 = .ok (.invokestatic 187, 3)) ∧ (decode cX11_ringAt 10 = .ok (.invokevirtual 92, 3) ∧ (decode cX11_ringAt 13 = .ok (.ifCond .eq 5, 3) ∧ decode cX11_ringAt 16 = .ok (.iconst (-1), 1))))) ∧ (((decode cX11_ringAt 17 = .ok (.ireturn, 1) ∧ decode cX11_ringAt 18 = .ok (.iload_n 3, 1)) ∧ (decode cX11_ringAt 19 = .ok (.ifCond .lt 13, 3) ∧ (decode cX11_ringAt 22 = .ok (.iload_n 3, 1) ∧ decode cX11_ringAt 23 = .ok (.aload_n 0, 1)))) ∧ ((decode cX11_ringAt 24 = .ok (.iload_n 1, 1) ∧ decode cX11_ringAt 25 = .ok (.iload_n 2, 1)) ∧ (decode cX11_ringAt 26 = .ok (.invokevirtual 271, 3) ∧ (decode cX11_ringAt 29 = .ok (.if_icmp .lt 9, 3) ∧ decode cX11_ringAt 32 = .ok (.aload_n 0, 1)))))) ∧ ((((decode cX11_ringAt 33 = .ok (.iconst 1, 1) ∧ decode cX11_ringAt 34 = .ok (.invokevirtual 105, 3)) ∧ (decode cX11_ringAt 37 = .ok (.ireturn, 1) ∧ decode cX11_ringAt 38 = .ok (.iload_n 1, 1))) ∧ ((decode cX11_ringAt 39 = .ok (.istore 4, 2) ∧ decode cX11_ringAt 41 = .ok (.iconst 0, 1)) ∧ (decode cX11_ringAt 42 = .ok (.istore 5, 2) ∧ (decode cX11_ringAt 44 = .ok (.iload 5, 2) ∧ decode cX11_ringAt 46 = .ok (.iload_n 3, 1))))) ∧ (((decode cX11_ringAt 47 = .ok (.if_icmp .ge 18, 3) ∧ decode cX11_ringAt 50 = .ok (.aload_n 0, 1)) ∧ (decode cX11_ringAt 51 = .ok (.iload 4, 2) ∧ (decode cX11_ringAt 53 = .ok (.iload_n 2, 1) ∧ decode cX11_ringAt 54 = .ok (.invokevirtual 274, 3)))) ∧ ((decode cX11_ringAt 57 = .ok (.istore 4, 2) ∧ decode cX11_ringAt 59 = .ok (.iinc 5 1, 3)) ∧ (decode cX11_ringAt 62 = .ok (.goto (-18), 3) ∧ (decode cX11_ringAt 65 = .ok (.iload 4, 2) ∧ decode cX11_ringAt 67 = .ok (.ireturn, 1))))))) := ⟨⟨by decide +kernel, by decide +kernel⟩, ⟨by decide +kernel, by decide +kernel⟩⟩
def X11_ringAt_b32 (s : St) (x0 : Int) : Rs :=
  grd (isK s 21 x0) (bnd (X11_refuse s x0 1) (fun r7 s8 => some (r7, s8)))
set_option maxRecDepth 100000 in
set_option maxHeartbeats 4000000 in
theorem X11_ringAt_b32_s (G : Gx) (l : Launch) (s : St) (x0 : Int) : V G l mX11_ringAt 32 [(0, (2, x0))] [] s (X11_ringAt_b32 s x0) := by
  unfold X11_ringAt_b32
  refine V_aload_n dec_X11_ringAt.1.2.2.2.2.2 0 rfl ?_
  refine V_iconst dec_X11_ringAt.2.1.1.1.1 rfl ?_
  refine V_callV0 (ci := 11) (a := x0) (As := [(0, 1)]) (st := []) rfl rfl (X11_refuse_s G l s x0 1) cal_X11_refuse rfl ml_X11_105 rfl rfl dec_X11_ringAt.2.1.1.1.2 (k_tag (tag := 0) rfl fun r7 s8 => ?_)
  exact V_iret rfl dec_X11_ringAt.2.1.1.2.1
def X11_ringAt_b44_body (rk44 : St → Int → Int → Int → Int → Int → Rs) (s : St) (x0 x2 x3 x4 x5 : Int) : Rs :=
  if x3 ≤ x5 then (some (x4, s)) else (grd (isK s 21 x0) (bnd (X11_nextInRing s x0 x4 x2) (fun r11 s12 => rk44 s12 x0 x2 x3 r11 (w32 (x5 + 1)))))
def X11_ringAt_b44 (n : Nat) (s : St) (x0 x2 x3 x4 x5 : Int) : Rs := iter (fun (rec : St × Int × Int × Int × Int × Int → Rs) (a : St × Int × Int × Int × Int × Int) => X11_ringAt_b44_body (fun (s : St) (x0 x2 x3 x4 x5 : Int) => rec (s, x0, x2, x3, x4, x5)) a.1 a.2.1 a.2.2.1 a.2.2.2.1 a.2.2.2.2.1 a.2.2.2.2.2) n (s, x0, x2, x3, x4, x5)
theorem X11_ringAt_b44_0 (s : St) (x0 x2 x3 x4 x5 : Int) : X11_ringAt_b44 0 s x0 x2 x3 x4 x5 = none := rfl
theorem X11_ringAt_b44_1 (n : Nat) (s : St) (x0 x2 x3 x4 x5 : Int) : X11_ringAt_b44 (n + 1) s x0 x2 x3 x4 x5 = X11_ringAt_b44_body (X11_ringAt_b44 n) s x0 x2 x3 x4 x5 := rfl
set_option maxRecDepth 100000 in
set_option maxHeartbeats 4000000 in
theorem X11_ringAt_b44_body_s (G : Gx) (l : Launch) (rk44 : St → Int → Int → Int → Int → Int → Rs) (hk44 : ∀ (s : St) (x0 x2 x3 x4 x5 : Int), V G l mX11_ringAt 44 [(0, (2, x0)), (2, (0, x2)), (3, (0, x3)), (4, (0, x4)), (5, (0, x5))] [] s (rk44 s x0 x2 x3 x4 x5)) (s : St) (x0 x2 x3 x4 x5 : Int) : V G l mX11_ringAt 44 [(0, (2, x0)), (2, (0, x2)), (3, (0, x3)), (4, (0, x4)), (5, (0, x5))] [] s (X11_ringAt_b44_body rk44 s x0 x2 x3 x4 x5) := by
  unfold X11_ringAt_b44_body
  refine V_iload dec_X11_ringAt.2.1.2.2.2.1 4 rfl ?_
  refine V_iload_n dec_X11_ringAt.2.1.2.2.2.2 2 rfl ?_
  refine V_icmp_ge (tgt := 65) dec_X11_ringAt.2.2.1.1.1 (by decide) ?_ ?_
  · refine V_iload dec_X11_ringAt.2.2.2.2.2.1 3 rfl ?_
    exact V_iret rfl dec_X11_ringAt.2.2.2.2.2.2
  · refine V_aload_n dec_X11_ringAt.2.2.1.1.2 0 rfl ?_
    refine V_iload dec_X11_ringAt.2.2.1.2.1 3 rfl ?_
    refine V_iload_n dec_X11_ringAt.2.2.1.2.2.1 1 rfl ?_
    refine V_callV0 (ci := 11) (a := x0) (As := [(0, x4), (0, x2)]) (st := []) rfl rfl (X11_nextInRing_s G l s x0 x4 x2) cal_X11_nextInRing rfl ml_X11_274 rfl rfl dec_X11_ringAt.2.2.1.2.2.2 (k_tag (tag := 0) rfl fun r11 s12 => ?_)
    refine V_istore (lv' := [(4, (0, r11)), (0, (2, x0)), (2, (0, x2)), (3, (0, x3)), (5, (0, x5))]) dec_X11_ringAt.2.2.2.1.1 (by decide) rfl ?_
    refine V_iinc (lv' := [(5, (0, (w32 (x5 + 1)))), (4, (0, r11)), (0, (2, x0)), (2, (0, x2)), (3, (0, x3))]) dec_X11_ringAt.2.2.2.1.2 4 rfl (by decide) rfl ?_
    refine V_goto (tgt := 44) dec_X11_ringAt.2.2.2.2.1 (by decide) ?_
    exact V_pick [2, 3, 4, 1, 0] rfl (hk44 s12 x0 x2 x3 r11 (w32 (x5 + 1)))
theorem X11_ringAt_b44_s (G : Gx) (l : Launch) (n : Nat) (s : St) (x0 x2 x3 x4 x5 : Int) : V G l mX11_ringAt 44 [(0, (2, x0)), (2, (0, x2)), (3, (0, x3)), (4, (0, x4)), (5, (0, x5))] [] s (X11_ringAt_b44 n s x0 x2 x3 x4 x5) :=
  V_iter (LV := fun a : St × Int × Int × Int × Int × Int => [(0, (2, a.2.1)), (2, (0, a.2.2.1)), (3, (0, a.2.2.2.1)), (4, (0, a.2.2.2.2.1)), (5, (0, a.2.2.2.2.2))]) (ST := fun a : St × Int × Int × Int × Int × Int => []) (SS := fun a : St × Int × Int × Int × Int × Int => a.1) (fun rec hrec a => X11_ringAt_b44_body_s G l (fun (s : St) (x0 x2 x3 x4 x5 : Int) => rec (s, x0, x2, x3, x4, x5)) (fun (s : St) (x0 x2 x3 x4 x5 : Int) => hrec (s, x0, x2, x3, x4, x5)) a.1 a.2.1 a.2.2.1 a.2.2.2.1 a.2.2.2.2.1 a.2.2.2.2.2) n (s, x0, x2, x3, x4, x5)
def X11_ringAt (s : St) (a0 a1 a2 a3 : Int) : Rs :=
  grd (isK s 21 a0) (bnd (X11_isNoPerson s a0 a1) (fun r1 s2 => bnd (X11_isNoNight s2 a2) (fun r3 s4 => grd (isK s4 21 a0) (bnd (X11_refused s4 a0 r1 r3) (fun r5 s6 => if r5 = 0 then (if a3 < 0 then (X11_ringAt_b32 s6 a0) else (grd (isK s6 21 a0) (bnd (X11_ringLength s6 a0 a1 a2) (fun r9 s10 => if a3 < r9 then (X11_ringAt_b44 FU s10 a0 a2 a3 a1 0) else (X11_ringAt_b32 s10 a0))))) else (some ((-1), s6)))))))
set_option maxRecDepth 100000 in
set_option maxHeartbeats 4000000 in
theorem X11_ringAt_s (G : Gx) (l : Launch) (s : St) (a0 a1 a2 a3 : Int) : Snd G l mX11_ringAt [(2, a0), (0, a1), (0, a2), (0, a3)] s (X11_ringAt s a0 a1 a2 a3) := by
  refine Snd.of (by decide +kernel) rfl ?_
  show V G l mX11_ringAt 0 [(0, (2, a0)), (1, (0, a1)), (2, (0, a2)), (3, (0, a3))] [] s _
  unfold X11_ringAt
  refine V_aload_n dec_X11_ringAt.1.1.1.1.1 0 rfl ?_
  refine V_aload_n dec_X11_ringAt.1.1.1.1.2 0 rfl ?_
  refine V_iload_n dec_X11_ringAt.1.1.1.2.1 1 rfl ?_
  refine V_callV0 (ci := 11) (a := a0) (As := [(0, a1)]) (st := [(2, a0)]) rfl rfl (X11_isNoPerson_s G l s a0 a1) cal_X11_isNoPerson rfl ml_X11_139 rfl rfl dec_X11_ringAt.1.1.1.2.2 (k_tag (tag := 0) rfl fun r1 s2 => ?_)
  refine V_iload_n dec_X11_ringAt.1.1.2.1.1 2 rfl ?_
  refine V_callS0 (As := [(0, a2)]) (st := [(0, r1), (2, a0)]) (host := "") rfl (X11_isNoNight_s G l s2 a2) cal_X11_isNoNight rfl (Or.inl ml_X11_187) rfl rfl dec_X11_ringAt.1.1.2.1.2 (k_tag (tag := 0) rfl fun r3 s4 => ?_)
  refine V_callV0 (ci := 11) (a := a0) (As := [(0, r1), (0, r3)]) (st := []) rfl rfl (X11_refused_s G l s4 a0 r1 r3) cal_X11_refused rfl ml_X11_92 rfl rfl dec_X11_ringAt.1.1.2.2.1 (k_tag (tag := 0) rfl fun r5 s6 => ?_)
  refine V_if_eq (tgt := 18) dec_X11_ringAt.1.1.2.2.2.1 (by decide) ?_ ?_
  · refine V_iload_n dec_X11_ringAt.1.2.1.1.2 3 rfl ?_
    refine V_if_lt (tgt := 32) dec_X11_ringAt.1.2.1.2.1 (by decide) ?_ ?_
    · exact V_pick [0] rfl (X11_ringAt_b32_s G l s6 a0)
    · refine V_iload_n dec_X11_ringAt.1.2.1.2.2.1 3 rfl ?_
      refine V_aload_n dec_X11_ringAt.1.2.1.2.2.2 0 rfl ?_
      refine V_iload_n dec_X11_ringAt.1.2.2.1.1 1 rfl ?_
      refine V_iload_n dec_X11_ringAt.1.2.2.1.2 2 rfl ?_
      refine V_callV0 (ci := 11) (a := a0) (As := [(0, a1), (0, a2)]) (st := [(0, a3)]) rfl rfl (X11_ringLength_s G l s6 a0 a1 a2) cal_X11_ringLength rfl ml_X11_271 rfl rfl dec_X11_ringAt.1.2.2.2.1 (k_tag (tag := 0) rfl fun r9 s10 => ?_)
      refine V_icmp_lt (tgt := 38) dec_X11_ringAt.1.2.2.2.2.1 (by decide) ?_ ?_
      · refine V_iload_n dec_X11_ringAt.2.1.1.2.2 1 rfl ?_
        refine V_istore (lv' := [(4, (0, a1)), (0, (2, a0)), (1, (0, a1)), (2, (0, a2)), (3, (0, a3))]) dec_X11_ringAt.2.1.2.1.1 (by decide) rfl ?_
        refine V_iconst dec_X11_ringAt.2.1.2.1.2 rfl ?_
        refine V_istore (lv' := [(5, (0, 0)), (4, (0, a1)), (0, (2, a0)), (1, (0, a1)), (2, (0, a2)), (3, (0, a3))]) dec_X11_ringAt.2.1.2.2.1 (by decide) rfl ?_
        exact V_pick [2, 4, 5, 1, 0] rfl (X11_ringAt_b44_s G l FU s10 a0 a2 a3 a1 0)
      · exact V_pick [0] rfl (X11_ringAt_b32_s G l s10 a0)
  · refine V_iconst dec_X11_ringAt.1.1.2.2.2.2 rfl ?_
    exact V_iret rfl dec_X11_ringAt.1.2.1.1.1
theorem dec_X9_nightsToGoRound : ((((decode cX9_nightsToGoRound 0 = .ok (.iconst 1, 1) ∧ decode cX9_nightsToGoRound 1 = .ok (.istore_n 2, 1)) ∧ (decode cX9_nightsToGoRound 2 = .ok (.iload_n 2, 1) ∧ decode cX9_nightsToGoRound 3 = .ok (.aload_n 0, 1))) ∧ ((decode cX9_nightsToGoRound 4 = .ok (.getfield 40, 3) ∧ decode cX9_nightsToGoRound 7 = .ok (.if_icmp .ge 21, 3)) ∧ (decode cX9_nightsToGoRound 10 = .ok (.aload_n 0, 1) ∧ (decode cX9_nightsToGoRound 11 = .ok (.iload_n 1, 1) ∧ decode cX9_nightsToGoRound 12 = .ok (.iload_n 2, 1))))) ∧ (((decode cX9_nightsToGoRound 13 = .ok (.imul, 1) ∧ decode cX9_nightsToGoRound 14 = .ok (.invokevirtual 73, 3)) ∧ (decode cX9_nightsToGoRound 17 = .ok (.ifCond .ne 5, 3) ∧ (decode cX9_nightsToGoRound 20 = .ok (.iload_n 2, 1) ∧ decode cX9_nightsToGoRound 21 = .ok (.ireturn, 1)))) ∧ ((decode cX9_nightsToGoRound 22 = .ok (.iinc 2 1, 3) ∧ decode cX9_nightsToGoRound 25 = .ok (.goto (-23), 3)) ∧ (decode cX9_nightsToGoRound 28 = .ok (.aload_n 0, 1) ∧ (decode cX9_nightsToGoRound 29 = .ok (.getfield 40, 3) ∧ decode cX9_nightsToGoRound 32 = .ok (.ireturn, 1)))))) := ⟨by decide +kernel, by decide +kernel⟩
def X9_nightsToGoRound_b2_body (rk2 : St → Int → Int → Int → Rs) (s : St) (x0 x1 x2 : Int) : Rs :=
  grd (isK s 19 x0) (if (gI s x0 0) ≤ x2 then (grd (isK s 19 x0) (some ((gI s x0 0), s))) else (grd (isK s 19 x0) (bnd (X9_around s x0 (w32 (x1 * x2))) (fun r1 s2 => if ¬ r1 = 0 then (rk2 s2 x0 x1 (w32 (x2 + 1))) else (some (x2, s2))))))
def X9_nightsToGoRound_b2 (n : Nat) (s : St) (x0 x1 x2 : Int) : Rs := iter (fun (rec : St × Int × Int × Int → Rs) (a : St × Int × Int × Int) => X9_nightsToGoRound_b2_body (fun (s : St) (x0 x1 x2 : Int) => rec (s, x0, x1, x2)) a.1 a.2.1 a.2.2.1 a.2.2.2) n (s, x0, x1, x2)
theorem X9_nightsToGoRound_b2_0 (s : St) (x0 x1 x2 : Int) : X9_nightsToGoRound_b2 0 s x0 x1 x2 = none := rfl
theorem X9_nightsToGoRound_b2_1 (n : Nat) (s : St) (x0 x1 x2 : Int) : X9_nightsToGoRound_b2 (n + 1) s x0 x1 x2 = X9_nightsToGoRound_b2_body (X9_nightsToGoRound_b2 n) s x0 x1 x2 := rfl
set_option maxRecDepth 100000 in
set_option maxHeartbeats 4000000 in
theorem X9_nightsToGoRound_b2_body_s (G : Gx) (l : Launch) (rk2 : St → Int → Int → Int → Rs) (hk2 : ∀ (s : St) (x0 x1 x2 : Int), V G l mX9_nightsToGoRound 2 [(0, (2, x0)), (1, (0, x1)), (2, (0, x2))] [] s (rk2 s x0 x1 x2)) (s : St) (x0 x1 x2 : Int) : V G l mX9_nightsToGoRound 2 [(0, (2, x0)), (1, (0, x1)), (2, (0, x2))] [] s (X9_nightsToGoRound_b2_body rk2 s x0 x1 x2) := by
  unfold X9_nightsToGoRound_b2_body
  refine V_iload_n dec_X9_nightsToGoRound.1.1.2.1 2 rfl ?_
  refine V_aload_n dec_X9_nightsToGoRound.1.1.2.2 0 rfl ?_
  refine V_getI 9 0 nf_9_0 ft_9_0 fl_X9_40 dec_X9_nightsToGoRound.1.2.1.1 ?_
  refine V_icmp_ge (tgt := 28) dec_X9_nightsToGoRound.1.2.1.2 (by decide) ?_ ?_
  · refine V_aload_n dec_X9_nightsToGoRound.2.2.2.1 0 rfl ?_
    refine V_getI 9 0 nf_9_0 ft_9_0 fl_X9_40 dec_X9_nightsToGoRound.2.2.2.2.1 ?_
    exact V_iret rfl dec_X9_nightsToGoRound.2.2.2.2.2
  · refine V_aload_n dec_X9_nightsToGoRound.1.2.2.1 0 rfl ?_
    refine V_iload_n dec_X9_nightsToGoRound.1.2.2.2.1 1 rfl ?_
    refine V_iload_n dec_X9_nightsToGoRound.1.2.2.2.2 2 rfl ?_
    refine V_imul dec_X9_nightsToGoRound.2.1.1.1 ?_
    refine V_callV0 (ci := 9) (a := x0) (As := [(0, (w32 (x1 * x2)))]) (st := []) rfl rfl (X9_around_s G l s x0 (w32 (x1 * x2))) cal_X9_around rfl ml_X9_73 rfl rfl dec_X9_nightsToGoRound.2.1.1.2 (k_tag (tag := 0) rfl fun r1 s2 => ?_)
    refine V_if_ne (tgt := 22) dec_X9_nightsToGoRound.2.1.2.1 (by decide) ?_ ?_
    · refine V_iinc (lv' := [(2, (0, (w32 (x2 + 1)))), (0, (2, x0)), (1, (0, x1))]) dec_X9_nightsToGoRound.2.2.1.1 2 rfl (by decide) rfl ?_
      refine V_goto (tgt := 2) dec_X9_nightsToGoRound.2.2.1.2 (by decide) ?_
      exact V_pick [1, 2, 0] rfl (hk2 s2 x0 x1 (w32 (x2 + 1)))
    · refine V_iload_n dec_X9_nightsToGoRound.2.1.2.2.1 2 rfl ?_
      exact V_iret rfl dec_X9_nightsToGoRound.2.1.2.2.2
theorem X9_nightsToGoRound_b2_s (G : Gx) (l : Launch) (n : Nat) (s : St) (x0 x1 x2 : Int) : V G l mX9_nightsToGoRound 2 [(0, (2, x0)), (1, (0, x1)), (2, (0, x2))] [] s (X9_nightsToGoRound_b2 n s x0 x1 x2) :=
  V_iter (LV := fun a : St × Int × Int × Int => [(0, (2, a.2.1)), (1, (0, a.2.2.1)), (2, (0, a.2.2.2))]) (ST := fun a : St × Int × Int × Int => []) (SS := fun a : St × Int × Int × Int => a.1) (fun rec hrec a => X9_nightsToGoRound_b2_body_s G l (fun (s : St) (x0 x1 x2 : Int) => rec (s, x0, x1, x2)) (fun (s : St) (x0 x1 x2 : Int) => hrec (s, x0, x1, x2)) a.1 a.2.1 a.2.2.1 a.2.2.2) n (s, x0, x1, x2)
def X9_nightsToGoRound (s : St) (a0 a1 : Int) : Rs :=
  X9_nightsToGoRound_b2 FU s a0 a1 1
set_option maxRecDepth 100000 in
set_option maxHeartbeats 4000000 in
theorem X9_nightsToGoRound_s (G : Gx) (l : Launch) (s : St) (a0 a1 : Int) : Snd G l mX9_nightsToGoRound [(2, a0), (0, a1)] s (X9_nightsToGoRound s a0 a1) := by
  refine Snd.of (by decide +kernel) rfl ?_
  show V G l mX9_nightsToGoRound 0 [(0, (2, a0)), (1, (0, a1))] [] s _
  unfold X9_nightsToGoRound
  refine V_iconst dec_X9_nightsToGoRound.1.1.1.1 rfl ?_
  refine V_istore_n (lv' := [(2, (0, 1)), (0, (2, a0)), (1, (0, a1))]) dec_X9_nightsToGoRound.1.1.1.2 (by decide) rfl ?_
  exact V_pick [1, 2, 0] rfl (X9_nightsToGoRound_b2_s G l FU s a0 a1 1)
theorem dec_X11_round : (((((decode cX11_round 0 = .ok (.aload_n 0, 1) ∧ (decode cX11_round 1 = .ok (.aload_n 0, 1) ∧ decode cX11_round 2 = .ok (.iload_n 1, 1))) ∧ (decode cX11_round 3 = .ok (.invokevirtual 160, 3) ∧ (decode cX11_round 6 = .ok (.iconst 0, 1) ∧ decode cX11_round 7 = .ok (.invokevirtual 92, 3)))) ∧ ((decode cX11_round 10 = .ok (.ifCond .eq 5, 3) ∧ (decode cX11_round 13 = .ok (.iconst (-1), 1) ∧ decode cX11_round 14 = .ok (.ireturn, 1))) ∧ (decode cX11_round 15 = .ok (.aload_n 0, 1) ∧ (decode cX11_round 16 = .ok (.getfield 36, 3) ∧ decode cX11_round 19 = .ok (.getfield 143, 3))))) ∧ (((decode cX11_round 22 = .ok (.getfield 166, 3) ∧ (decode cX11_round 25 = .ok (.iload_n 1, 1) ∧ decode cX11_round 26 = .ok (.iaload, 1))) ∧ (decode cX11_round 27 = .ok (.istore_n 2, 1) ∧ (decode cX11_round 28 = .ok (.aload_n 0, 1) ∧ decode cX11_round 29 = .ok (.getfield 27, 3)))) ∧ ((decode cX11_round 32 = .ok (.getfield 163, 3) ∧ (decode cX11_round 35 = .ok (.iload_n 1, 1) ∧ decode cX11_round 36 = .ok (.iaload, 1))) ∧ (decode cX11_round 37 = .ok (.iconst 3, 1) ∧ (decode cX11_round 38 = .ok (.if_icmp .ne 22, 3) ∧ decode cX11_round 41 = .ok (.aload_n 0, 1)))))) ∧ ((((decode cX11_round 42 = .ok (.getfield 27, 3) ∧ (decode cX11_round 45 = .ok (.iconst 2, 1) ∧ decode cX11_round 46 = .ok (.iload_n 2, 1))) ∧ (decode cX11_round 47 = .ok (.imul, 1) ∧ (decode cX11_round 48 = .ok (.invokevirtual 200, 3) ∧ decode cX11_round 51 = .ok (.ifCond .ne 7, 3)))) ∧ ((decode cX11_round 54 = .ok (.iconst 1, 1) ∧ (decode cX11_round 55 = .ok (.goto 4, 3) ∧ decode cX11_round 58 = .ok (.iconst 2, 1))) ∧ (decode cX11_round 59 = .ok (.ireturn, 1) ∧ (decode cX11_round 60 = .ok (.aload_n 0, 1) ∧ decode cX11_round 61 = .ok (.getfield 27, 3))))) ∧ (((decode cX11_round 64 = .ok (.getfield 163, 3) ∧ (decode cX11_round 67 = .ok (.iload_n 1, 1) ∧ decode cX11_round 68 = .ok (.iaload, 1))) ∧ (decode cX11_round 69 = .ok (.iconst 2, 1) ∧ (decode cX11_round 70 = .ok (.if_icmp .ne 14, 3) ∧ decode cX11_round 73 = .ok (.aload_n 0, 1)))) ∧ ((decode cX11_round 74 = .ok (.getfield 27, 3) ∧ (decode cX11_round 77 = .ok (.iload_n 2, 1) ∧ decode cX11_round 78 = .ok (.invokevirtual 219, 3))) ∧ (decode cX11_round 81 = .ok (.goto 4, 3) ∧ (decode cX11_round 84 = .ok (.iconst 1, 1) ∧ decode cX11_round 85 = .ok (.ireturn, 1))))))) := ⟨⟨by decide +kernel, by decide +kernel⟩, ⟨by decide +kernel, by decide +kernel⟩⟩
def X11_round_b85 (s : St) (k0 : Int) : Rs :=
  some (k0, s)
set_option maxRecDepth 100000 in
set_option maxHeartbeats 4000000 in
theorem X11_round_b85_s (G : Gx) (l : Launch) (s : St) (k0 : Int) : V G l mX11_round 85 [] [(0, k0)] s (X11_round_b85 s k0) := by
  unfold X11_round_b85
  exact V_iret rfl dec_X11_round.2.2.2.2.2.2
def X11_round_b59 (s : St) (k0 : Int) : Rs :=
  some (k0, s)
set_option maxRecDepth 100000 in
set_option maxHeartbeats 4000000 in
theorem X11_round_b59_s (G : Gx) (l : Launch) (s : St) (k0 : Int) : V G l mX11_round 59 [] [(0, k0)] s (X11_round_b59 s k0) := by
  unfold X11_round_b59
  exact V_iret rfl dec_X11_round.2.1.2.2.1
def X11_round (s : St) (a0 a1 : Int) : Rs :=
  grd (isK s 21 a0) (bnd (X11_isNoDead s a0 a1) (fun r1 s2 => grd (isK s2 21 a0) (bnd (X11_refused s2 a0 r1 0) (fun r3 s4 => if r3 = 0 then (grd (isK s4 21 a0) (grd (isK s4 20 (gR s4 a0 7)) (grd (isK s4 16 (gR s4 (gR s4 a0 7) 1)) (grd (isK s4 1 (gR s4 (gR s4 (gR s4 a0 7) 1) 2) ∧ 0 ≤ a1 ∧ a1 < ln s4 (gR s4 (gR s4 (gR s4 a0 7) 1) 2)) (letv (gI s4 (gR s4 (gR s4 (gR s4 a0 7) 1) 2) a1.toNat) (fun y5 => grd (isK s4 21 a0) (grd (isK s4 19 (gR s4 a0 6)) (grd (isK s4 1 (gR s4 (gR s4 a0 6) 7) ∧ 0 ≤ a1 ∧ a1 < ln s4 (gR s4 (gR s4 a0 6) 7)) (if ¬ (gI s4 (gR s4 (gR s4 a0 6) 7) a1.toNat) = (3 : Int) then (grd (isK s4 21 a0) (grd (isK s4 19 (gR s4 a0 6)) (grd (isK s4 1 (gR s4 (gR s4 a0 6) 7) ∧ 0 ≤ a1 ∧ a1 < ln s4 (gR s4 (gR s4 a0 6) 7)) (if ¬ (gI s4 (gR s4 (gR s4 a0 6) 7) a1.toNat) = (2 : Int) then (X11_round_b85 s4 1) else (grd (isK s4 21 a0) (grd (isK s4 19 (gR s4 a0 6)) (bnd (X9_nightsToGoRound s4 (gR s4 a0 6) y5) (fun r6 s7 => X11_round_b85 s7 r6)))))))) else (grd (isK s4 21 a0) (grd (isK s4 19 (gR s4 a0 6)) (bnd (X9_around s4 (gR s4 a0 6) (w32 (2 * y5))) (fun r8 s9 => if ¬ r8 = 0 then (X11_round_b59 s9 2) else (X11_round_b59 s9 1)))))))))))))) else (some ((-1), s4))))))
set_option maxRecDepth 100000 in
set_option maxHeartbeats 4000000 in
theorem X11_round_s (G : Gx) (l : Launch) (s : St) (a0 a1 : Int) : Snd G l mX11_round [(2, a0), (0, a1)] s (X11_round s a0 a1) := by
  refine Snd.of (by decide +kernel) rfl ?_
  show V G l mX11_round 0 [(0, (2, a0)), (1, (0, a1))] [] s _
  unfold X11_round
  refine V_aload_n dec_X11_round.1.1.1.1.1 0 rfl ?_
  refine V_aload_n dec_X11_round.1.1.1.1.2.1 0 rfl ?_
  refine V_iload_n dec_X11_round.1.1.1.1.2.2 1 rfl ?_
  refine V_callV0 (ci := 11) (a := a0) (As := [(0, a1)]) (st := [(2, a0)]) rfl rfl (X11_isNoDead_s G l s a0 a1) cal_X11_isNoDead rfl ml_X11_160 rfl rfl dec_X11_round.1.1.1.2.1 (k_tag (tag := 0) rfl fun r1 s2 => ?_)
  refine V_iconst dec_X11_round.1.1.1.2.2.1 rfl ?_
  refine V_callV0 (ci := 11) (a := a0) (As := [(0, r1), (0, 0)]) (st := []) rfl rfl (X11_refused_s G l s2 a0 r1 0) cal_X11_refused rfl ml_X11_92 rfl rfl dec_X11_round.1.1.1.2.2.2 (k_tag (tag := 0) rfl fun r3 s4 => ?_)
  refine V_if_eq (tgt := 15) dec_X11_round.1.1.2.1.1 (by decide) ?_ ?_
  · refine V_aload_n dec_X11_round.1.1.2.2.1 0 rfl ?_
    refine V_getR 11 7 nf_11_7 ft_11_7 fl_X11_36 dec_X11_round.1.1.2.2.2.1 ?_
    refine V_getR 10 1 nf_10_1 ft_10_1 fl_X11_143 dec_X11_round.1.1.2.2.2.2 ?_
    refine V_getR 6 2 nf_6_2 ft_6_2 fl_X11_166 dec_X11_round.1.2.1.1.1 ?_
    refine V_iload_n dec_X11_round.1.2.1.1.2.1 1 rfl ?_
    refine V_iald dec_X11_round.1.2.1.1.2.2 ?_
    refine V_letv fun y5 => ?_
    refine V_istore_n (lv' := [(2, (0, y5)), (0, (2, a0)), (1, (0, a1))]) dec_X11_round.1.2.1.2.1 (by decide) rfl ?_
    refine V_aload_n dec_X11_round.1.2.1.2.2.1 1 rfl ?_
    refine V_getR 11 6 nf_11_6 ft_11_6 fl_X11_27 dec_X11_round.1.2.1.2.2.2 ?_
    refine V_getR 9 7 nf_9_7 ft_9_7 fl_X11_163 dec_X11_round.1.2.2.1.1 ?_
    refine V_iload_n dec_X11_round.1.2.2.1.2.1 2 rfl ?_
    refine V_iald dec_X11_round.1.2.2.1.2.2 ?_
    refine V_iconst dec_X11_round.1.2.2.2.1 rfl ?_
    refine V_icmp_ne (tgt := 60) dec_X11_round.1.2.2.2.2.1 (by decide) ?_ ?_
    · refine V_aload_n dec_X11_round.2.1.2.2.2.1 1 rfl ?_
      refine V_getR 11 6 nf_11_6 ft_11_6 fl_X11_27 dec_X11_round.2.1.2.2.2.2 ?_
      refine V_getR 9 7 nf_9_7 ft_9_7 fl_X11_163 dec_X11_round.2.2.1.1.1 ?_
      refine V_iload_n dec_X11_round.2.2.1.1.2.1 2 rfl ?_
      refine V_iald dec_X11_round.2.2.1.1.2.2 ?_
      refine V_iconst dec_X11_round.2.2.1.2.1 rfl ?_
      refine V_icmp_ne (tgt := 84) dec_X11_round.2.2.1.2.2.1 (by decide) ?_ ?_
      · refine V_iconst dec_X11_round.2.2.2.2.2.1 rfl ?_
        exact V_pick [] rfl (X11_round_b85_s G l s4 1)
      · refine V_aload_n dec_X11_round.2.2.1.2.2.2 1 rfl ?_
        refine V_getR 11 6 nf_11_6 ft_11_6 fl_X11_27 dec_X11_round.2.2.2.1.1 ?_
        refine V_iload_n dec_X11_round.2.2.2.1.2.1 0 rfl ?_
        refine V_callV0 (ci := 9) (a := (gR s4 a0 6)) (As := [(0, y5)]) (st := []) rfl rfl (X9_nightsToGoRound_s G l s4 (gR s4 a0 6) y5) cal_X9_nightsToGoRound rfl ml_X11_219 rfl rfl dec_X11_round.2.2.2.1.2.2 (k_tag (tag := 0) rfl fun r6 s7 => ?_)
        refine V_goto (tgt := 85) dec_X11_round.2.2.2.2.1 (by decide) ?_
        exact V_pick [] rfl (X11_round_b85_s G l s7 r6)
    · refine V_aload_n dec_X11_round.1.2.2.2.2.2 1 rfl ?_
      refine V_getR 11 6 nf_11_6 ft_11_6 fl_X11_27 dec_X11_round.2.1.1.1.1 ?_
      refine V_iconst dec_X11_round.2.1.1.1.2.1 rfl ?_
      refine V_iload_n dec_X11_round.2.1.1.1.2.2 0 rfl ?_
      refine V_imul dec_X11_round.2.1.1.2.1 ?_
      refine V_callV0 (ci := 9) (a := (gR s4 a0 6)) (As := [(0, (w32 (2 * y5)))]) (st := []) rfl rfl (X9_around_s G l s4 (gR s4 a0 6) (w32 (2 * y5))) cal_X9_around rfl ml_X11_200 rfl rfl dec_X11_round.2.1.1.2.2.1 (k_tag (tag := 0) rfl fun r8 s9 => ?_)
      refine V_if_ne (tgt := 58) dec_X11_round.2.1.1.2.2.2 (by decide) ?_ ?_
      · refine V_iconst dec_X11_round.2.1.2.1.2.2 rfl ?_
        exact V_pick [] rfl (X11_round_b59_s G l s9 2)
      · refine V_iconst dec_X11_round.2.1.2.1.1 rfl ?_
        refine V_goto (tgt := 59) dec_X11_round.2.1.2.1.2.1 (by decide) ?_
        exact V_pick [] rfl (X11_round_b59_s G l s9 1)
  · refine V_iconst dec_X11_round.1.1.2.1.2.1 rfl ?_
    exact V_iret rfl dec_X11_round.1.1.2.1.2.2
theorem dec_X5_mostRight : ((((((decode cX5_mostRight 0 = .ok (.iconst 1, 1) ∧ decode cX5_mostRight 1 = .ok (.aload_n 0, 1)) ∧ (decode cX5_mostRight 2 = .ok (.getfield 30, 3) ∧ decode cX5_mostRight 5 = .ok (.ishl, 1))) ∧ ((decode cX5_mostRight 6 = .ok (.iconst 1, 1) ∧ decode cX5_mostRight 7 = .ok (.isub, 1)) ∧ (decode cX5_mostRight 8 = .ok (.istore_n 1, 1) ∧ decode cX5_mostRight 9 = .ok (.aload_n 0, 1)))) ∧ (((decode cX5_mostRight 10 = .ok (.getfield 15, 3) ∧ decode cX5_mostRight 13 = .ok (.iload_n 1, 1)) ∧ (decode cX5_mostRight 14 = .ok (.iconst 0, 1) ∧ decode cX5_mostRight 15 = .ok (.iastore, 1))) ∧ ((decode cX5_mostRight 16 = .ok (.iload_n 1, 1) ∧ decode cX5_mostRight 17 = .ok (.iconst 1, 1)) ∧ (decode cX5_mostRight 18 = .ok (.isub, 1) ∧ decode cX5_mostRight 19 = .ok (.istore_n 2, 1))))) ∧ ((((decode cX5_mostRight 20 = .ok (.iload_n 2, 1) ∧ decode cX5_mostRight 21 = .ok (.ifCond .lt 78, 3)) ∧ (decode cX5_mostRight 24 = .ok (.iload_n 2, 1) ∧ decode cX5_mostRight 25 = .ok (.invokestatic 54, 3))) ∧ ((decode cX5_mostRight 28 = .ok (.istore_n 3, 1) ∧ decode cX5_mostRight 29 = .ok (.iconst 0, 1)) ∧ (decode cX5_mostRight 30 = .ok (.istore 4, 2) ∧ decode cX5_mostRight 32 = .ok (.iconst 0, 1)))) ∧ (((decode cX5_mostRight 33 = .ok (.istore 5, 2) ∧ decode cX5_mostRight 35 = .ok (.iload 5, 2)) ∧ (decode cX5_mostRight 37 = .ok (.aload_n 0, 1) ∧ decode cX5_mostRight 38 = .ok (.getfield 30, 3))) ∧ ((decode cX5_mostRight 41 = .ok (.if_icmp .ge 44, 3) ∧ decode cX5_mostRight 44 = .ok (.iload_n 2, 1)) ∧ (decode cX5_mostRight 45 = .ok (.iconst 1, 1) ∧ decode cX5_mostRight 46 = .ok (.iload 5, 2)))))) ∧ (((((decode cX5_mostRight 48 = .ok (.ishl, 1) ∧ decode cX5_mostRight 49 = .ok (.iand, 1)) ∧ (decode cX5_mostRight 50 = .ok (.ifCond .ne 29, 3) ∧ decode cX5_mostRight 53 = .ok (.iload 4, 2))) ∧ ((decode cX5_mostRight 55 = .ok (.aload_n 0, 1) ∧ decode cX5_mostRight 56 = .ok (.iload_n 3, 1)) ∧ (decode cX5_mostRight 57 = .ok (.iload 5, 2) ∧ decode cX5_mostRight 59 = .ok (.invokevirtual 50, 3)))) ∧ (((decode cX5_mostRight 62 = .ok (.aload_n 0, 1) ∧ decode cX5_mostRight 63 = .ok (.getfield 15, 3)) ∧ (decode cX5_mostRight 66 = .ok (.iload_n 2, 1) ∧ decode cX5_mostRight 67 = .ok (.iconst 1, 1))) ∧ ((decode cX5_mostRight 68 = .ok (.iload 5, 2) ∧ decode cX5_mostRight 70 = .ok (.ishl, 1)) ∧ (decode cX5_mostRight 71 = .ok (.ior, 1) ∧ decode cX5_mostRight 72 = .ok (.iaload, 1))))) ∧ ((((decode cX5_mostRight 73 = .ok (.iadd, 1) ∧ decode cX5_mostRight 74 = .ok (.invokestatic 60, 3)) ∧ (decode cX5_mostRight 77 = .ok (.istore 4, 2) ∧ decode cX5_mostRight 79 = .ok (.iinc 5 1, 3))) ∧ ((decode cX5_mostRight 82 = .ok (.goto (-47), 3) ∧ decode cX5_mostRight 85 = .ok (.aload_n 0, 1)) ∧ (decode cX5_mostRight 86 = .ok (.getfield 15, 3) ∧ decode cX5_mostRight 89 = .ok (.iload_n 2, 1)))) ∧ (((decode cX5_mostRight 90 = .ok (.iload 4, 2) ∧ decode cX5_mostRight 92 = .ok (.iastore, 1)) ∧ (decode cX5_mostRight 93 = .ok (.iinc 2 (-1), 3) ∧ decode cX5_mostRight 96 = .ok (.goto (-76), 3))) ∧ ((decode cX5_mostRight 99 = .ok (.aload_n 0, 1) ∧ decode cX5_mostRight 100 = .ok (.getfield 15, 3)) ∧ (decode cX5_mostRight 103 = .ok (.iconst 0, 1) ∧ (decode cX5_mostRight 104 = .ok (.iaload, 1) ∧ decode cX5_mostRight 105 = .ok (.ireturn, 1)))))))) := ⟨⟨⟨by decide +kernel, by decide +kernel⟩, ⟨by decide +kernel, by decide +kernel⟩⟩, ⟨⟨by decide +kernel, by decide +kernel⟩, ⟨by decide +kernel, by decide +kernel⟩⟩⟩
def X5_mostRight_b79 (rk20 : St → Int → Int → Rs) (rk35 : St → Int → Int → Int → Int → Int → Rs) (s : St) (x0 x2 x3 x4 x5 : Int) : Rs :=
  rk35 s x0 x2 x3 x4 (w32 (x5 + 1))
set_option maxRecDepth 100000 in
set_option maxHeartbeats 4000000 in
theorem X5_mostRight_b79_s (G : Gx) (l : Launch) (rk20 : St → Int → Int → Rs) (rk35 : St → Int → Int → Int → Int → Int → Rs) (hk20 : ∀ (s : St) (x0 x2 : Int), V G l mX5_mostRight 20 [(0, (2, x0)), (2, (0, x2))] [] s (rk20 s x0 x2)) (hk35 : ∀ (s : St) (x0 x2 x3 x4 x5 : Int), V G l mX5_mostRight 35 [(0, (2, x0)), (2, (0, x2)), (3, (0, x3)), (4, (0, x4)), (5, (0, x5))] [] s (rk35 s x0 x2 x3 x4 x5)) (s : St) (x0 x2 x3 x4 x5 : Int) : V G l mX5_mostRight 79 [(0, (2, x0)), (2, (0, x2)), (3, (0, x3)), (4, (0, x4)), (5, (0, x5))] [] s (X5_mostRight_b79 rk20 rk35 s x0 x2 x3 x4 x5) := by
  unfold X5_mostRight_b79
  refine V_iinc (lv' := [(5, (0, (w32 (x5 + 1)))), (0, (2, x0)), (2, (0, x2)), (3, (0, x3)), (4, (0, x4))]) dec_X5_mostRight.2.2.1.1.2.2 4 rfl (by decide) rfl ?_
  refine V_goto (tgt := 35) dec_X5_mostRight.2.2.1.2.1.1 (by decide) ?_
  exact V_pick [1, 2, 3, 4, 0] rfl (hk35 s x0 x2 x3 x4 (w32 (x5 + 1)))
def X5_mostRight_b35_body (rk20 : St → Int → Int → Rs) (rk35 : St → Int → Int → Int → Int → Int → Rs) (s : St) (x0 x2 x3 x4 x5 : Int) : Rs :=
  grd (isK s 15 x0) (if (gI s x0 2) ≤ x5 then (grd (isK s 15 x0) (grd (isK s 1 (gR s x0 1) ∧ 0 ≤ x2 ∧ x2 < ln s (gR s x0 1)) (lets (pI s (gR s x0 1) x2.toNat x4) (fun s5 => rk20 s5 x0 (w32 (x2 + (-1))))))) else (if ¬ (and32 x2 (shl32 1 x5)) = 0 then (X5_mostRight_b79 rk20 rk35 s x0 x2 x3 x4 x5) else (grd (isK s 15 x0) (bnd (X5_worthOf s x0 x3 x5) (fun r6 s7 => grd (isK s7 15 x0) (grd (isK s7 1 (gR s7 x0 1) ∧ 0 ≤ (or32 x2 (shl32 1 x5)) ∧ (or32 x2 (shl32 1 x5)) < ln s7 (gR s7 x0 1)) (bnd (JM_max s7 x4 (w32 (r6 + (gI s7 (gR s7 x0 1) (or32 x2 (shl32 1 x5)).toNat)))) (fun r8 s9 => X5_mostRight_b79 rk20 rk35 s9 x0 x2 x3 r8 x5))))))))
def X5_mostRight_b35 (rk20 : St → Int → Int → Rs) (n : Nat) (s : St) (x0 x2 x3 x4 x5 : Int) : Rs := iter (fun (rec : St × Int × Int × Int × Int × Int → Rs) (a : St × Int × Int × Int × Int × Int) => X5_mostRight_b35_body rk20 (fun (s : St) (x0 x2 x3 x4 x5 : Int) => rec (s, x0, x2, x3, x4, x5)) a.1 a.2.1 a.2.2.1 a.2.2.2.1 a.2.2.2.2.1 a.2.2.2.2.2) n (s, x0, x2, x3, x4, x5)
theorem X5_mostRight_b35_0 (rk20 : St → Int → Int → Rs) (s : St) (x0 x2 x3 x4 x5 : Int) : X5_mostRight_b35 rk20 0 s x0 x2 x3 x4 x5 = none := rfl
theorem X5_mostRight_b35_1 (rk20 : St → Int → Int → Rs) (n : Nat) (s : St) (x0 x2 x3 x4 x5 : Int) : X5_mostRight_b35 rk20 (n + 1) s x0 x2 x3 x4 x5 = X5_mostRight_b35_body rk20 (X5_mostRight_b35 rk20 n) s x0 x2 x3 x4 x5 := rfl
set_option maxRecDepth 100000 in
set_option maxHeartbeats 4000000 in
theorem X5_mostRight_b35_body_s (G : Gx) (l : Launch) (rk20 : St → Int → Int → Rs) (rk35 : St → Int → Int → Int → Int → Int → Rs) (hk20 : ∀ (s : St) (x0 x2 : Int), V G l mX5_mostRight 20 [(0, (2, x0)), (2, (0, x2))] [] s (rk20 s x0 x2)) (hk35 : ∀ (s : St) (x0 x2 x3 x4 x5 : Int), V G l mX5_mostRight 35 [(0, (2, x0)), (2, (0, x2)), (3, (0, x3)), (4, (0, x4)), (5, (0, x5))] [] s (rk35 s x0 x2 x3 x4 x5)) (s : St) (x0 x2 x3 x4 x5 : Int) : V G l mX5_mostRight 35 [(0, (2, x0)), (2, (0, x2)), (3, (0, x3)), (4, (0, x4)), (5, (0, x5))] [] s (X5_mostRight_b35_body rk20 rk35 s x0 x2 x3 x4 x5) := by
  unfold X5_mostRight_b35_body
  refine V_iload dec_X5_mostRight.1.2.2.1.1.2 4 rfl ?_
  refine V_aload_n dec_X5_mostRight.1.2.2.1.2.1 0 rfl ?_
  refine V_getI 5 2 nf_5_2 ft_5_2 fl_X5_30 dec_X5_mostRight.1.2.2.1.2.2 ?_
  refine V_icmp_ge (tgt := 85) dec_X5_mostRight.1.2.2.2.1.1 (by decide) ?_ ?_
  · refine V_aload_n dec_X5_mostRight.2.2.1.2.1.2 0 rfl ?_
    refine V_getR 5 1 nf_5_1 ft_5_1 fl_X5_15 dec_X5_mostRight.2.2.1.2.2.1 ?_
    refine V_iload_n dec_X5_mostRight.2.2.1.2.2.2 1 rfl ?_
    refine V_iload dec_X5_mostRight.2.2.2.1.1.1 3 rfl ?_
    refine V_iast dec_X5_mostRight.2.2.2.1.1.2 ?_
    refine V_lets fun s5 => ?_
    refine V_iinc (lv' := [(2, (0, (w32 (x2 + (-1))))), (0, (2, x0)), (3, (0, x3)), (4, (0, x4)), (5, (0, x5))]) dec_X5_mostRight.2.2.2.1.2.1 1 rfl (by decide) rfl ?_
    refine V_goto (tgt := 20) dec_X5_mostRight.2.2.2.1.2.2 (by decide) ?_
    exact V_pick [1, 0] rfl (hk20 s5 x0 (w32 (x2 + (-1))))
  · refine V_iload_n dec_X5_mostRight.1.2.2.2.1.2 1 rfl ?_
    refine V_iconst dec_X5_mostRight.1.2.2.2.2.1 rfl ?_
    refine V_iload dec_X5_mostRight.1.2.2.2.2.2 4 rfl ?_
    refine V_ishl dec_X5_mostRight.2.1.1.1.1.1 ?_
    refine V_iand dec_X5_mostRight.2.1.1.1.1.2 ?_
    refine V_if_ne (tgt := 79) dec_X5_mostRight.2.1.1.1.2.1 (by decide) ?_ ?_
    · exact V_pick [0, 1, 2, 3, 4] rfl (X5_mostRight_b79_s G l rk20 rk35 hk20 hk35 s x0 x2 x3 x4 x5)
    · refine V_iload dec_X5_mostRight.2.1.1.1.2.2 3 rfl ?_
      refine V_aload_n dec_X5_mostRight.2.1.1.2.1.1 0 rfl ?_
      refine V_iload_n dec_X5_mostRight.2.1.1.2.1.2 2 rfl ?_
      refine V_iload dec_X5_mostRight.2.1.1.2.2.1 4 rfl ?_
      refine V_callV0 (ci := 5) (a := x0) (As := [(0, x3), (0, x5)]) (st := [(0, x4)]) rfl rfl (X5_worthOf_s G l s x0 x3 x5) cal_X5_worthOf rfl ml_X5_50 rfl rfl dec_X5_mostRight.2.1.1.2.2.2 (k_tag (tag := 0) rfl fun r6 s7 => ?_)
      refine V_aload_n dec_X5_mostRight.2.1.2.1.1.1 0 rfl ?_
      refine V_getR 5 1 nf_5_1 ft_5_1 fl_X5_15 dec_X5_mostRight.2.1.2.1.1.2 ?_
      refine V_iload_n dec_X5_mostRight.2.1.2.1.2.1 1 rfl ?_
      refine V_iconst dec_X5_mostRight.2.1.2.1.2.2 rfl ?_
      refine V_iload dec_X5_mostRight.2.1.2.2.1.1 4 rfl ?_
      refine V_ishl dec_X5_mostRight.2.1.2.2.1.2 ?_
      refine V_ior dec_X5_mostRight.2.1.2.2.2.1 ?_
      refine V_iald dec_X5_mostRight.2.1.2.2.2.2 ?_
      refine V_iadd dec_X5_mostRight.2.2.1.1.1.1 ?_
      refine V_callS0 (As := [(0, x4), (0, (w32 (r6 + (gI s7 (gR s7 x0 1) (or32 x2 (shl32 1 x5)).toNat))))]) (st := []) (host := "") rfl (JM_max_s G l s7 x4 (w32 (r6 + (gI s7 (gR s7 x0 1) (or32 x2 (shl32 1 x5)).toNat)))) cal_JM_max rfl (Or.inl ml_X5_60) rfl rfl dec_X5_mostRight.2.2.1.1.1.2 (k_tag (tag := 0) rfl fun r8 s9 => ?_)
      refine V_istore (lv' := [(4, (0, r8)), (0, (2, x0)), (2, (0, x2)), (3, (0, x3)), (5, (0, x5))]) dec_X5_mostRight.2.2.1.1.2.1 (by decide) rfl ?_
      exact V_pick [1, 2, 3, 0, 4] rfl (X5_mostRight_b79_s G l rk20 rk35 hk20 hk35 s9 x0 x2 x3 r8 x5)
theorem X5_mostRight_b35_s (G : Gx) (l : Launch) (rk20 : St → Int → Int → Rs) (hk20 : ∀ (s : St) (x0 x2 : Int), V G l mX5_mostRight 20 [(0, (2, x0)), (2, (0, x2))] [] s (rk20 s x0 x2)) (n : Nat) (s : St) (x0 x2 x3 x4 x5 : Int) : V G l mX5_mostRight 35 [(0, (2, x0)), (2, (0, x2)), (3, (0, x3)), (4, (0, x4)), (5, (0, x5))] [] s (X5_mostRight_b35 rk20 n s x0 x2 x3 x4 x5) :=
  V_iter (LV := fun a : St × Int × Int × Int × Int × Int => [(0, (2, a.2.1)), (2, (0, a.2.2.1)), (3, (0, a.2.2.2.1)), (4, (0, a.2.2.2.2.1)), (5, (0, a.2.2.2.2.2))]) (ST := fun a : St × Int × Int × Int × Int × Int => []) (SS := fun a : St × Int × Int × Int × Int × Int => a.1) (fun rec hrec a => X5_mostRight_b35_body_s G l rk20 (fun (s : St) (x0 x2 x3 x4 x5 : Int) => rec (s, x0, x2, x3, x4, x5)) hk20 (fun (s : St) (x0 x2 x3 x4 x5 : Int) => hrec (s, x0, x2, x3, x4, x5)) a.1 a.2.1 a.2.2.1 a.2.2.2.1 a.2.2.2.2.1 a.2.2.2.2.2) n (s, x0, x2, x3, x4, x5)
def X5_mostRight_b20_body (rk20 : St → Int → Int → Rs) (s : St) (x0 x2 : Int) : Rs :=
  if x2 < 0 then (grd (isK s 15 x0) (grd (isK s 1 (gR s x0 1) ∧ 0 ≤ (0 : Int) ∧ (0 : Int) < ln s (gR s x0 1)) (some ((gI s (gR s x0 1) (0 : Int).toNat), s)))) else (bnd (J6_bitCount_0f7a4 s x2) (fun r3 s4 => X5_mostRight_b35 rk20 FU s4 x0 x2 r3 0 0))
def X5_mostRight_b20 (n : Nat) (s : St) (x0 x2 : Int) : Rs := iter (fun (rec : St × Int × Int → Rs) (a : St × Int × Int) => X5_mostRight_b20_body (fun (s : St) (x0 x2 : Int) => rec (s, x0, x2)) a.1 a.2.1 a.2.2) n (s, x0, x2)
theorem X5_mostRight_b20_0 (s : St) (x0 x2 : Int) : X5_mostRight_b20 0 s x0 x2 = none := rfl
theorem X5_mostRight_b20_1 (n : Nat) (s : St) (x0 x2 : Int) : X5_mostRight_b20 (n + 1) s x0 x2 = X5_mostRight_b20_body (X5_mostRight_b20 n) s x0 x2 := rfl
set_option maxRecDepth 100000 in
set_option maxHeartbeats 4000000 in
theorem X5_mostRight_b20_body_s (G : Gx) (l : Launch) (rk20 : St → Int → Int → Rs) (hk20 : ∀ (s : St) (x0 x2 : Int), V G l mX5_mostRight 20 [(0, (2, x0)), (2, (0, x2))] [] s (rk20 s x0 x2)) (s : St) (x0 x2 : Int) : V G l mX5_mostRight 20 [(0, (2, x0)), (2, (0, x2))] [] s (X5_mostRight_b20_body rk20 s x0 x2) := by
  unfold X5_mostRight_b20_body
  refine V_iload_n dec_X5_mostRight.1.2.1.1.1.1 1 rfl ?_
  refine V_if_lt (tgt := 99) dec_X5_mostRight.1.2.1.1.1.2 (by decide) ?_ ?_
  · refine V_aload_n dec_X5_mostRight.2.2.2.2.1.1 0 rfl ?_
    refine V_getR 5 1 nf_5_1 ft_5_1 fl_X5_15 dec_X5_mostRight.2.2.2.2.1.2 ?_
    refine V_iconst dec_X5_mostRight.2.2.2.2.2.1 rfl ?_
    refine V_iald dec_X5_mostRight.2.2.2.2.2.2.1 ?_
    exact V_iret rfl dec_X5_mostRight.2.2.2.2.2.2.2
  · refine V_iload_n dec_X5_mostRight.1.2.1.1.2.1 1 rfl ?_
    refine V_callS0 (As := [(0, x2)]) (st := []) (host := "") rfl (J6_bitCount_0f7a4_s G l s x2) cal_J6_bitCount_0f7a4 rfl (Or.inl ml_X5_54) rfl rfl dec_X5_mostRight.1.2.1.1.2.2 (k_tag (tag := 0) rfl fun r3 s4 => ?_)
    refine V_istore_n (lv' := [(3, (0, r3)), (0, (2, x0)), (2, (0, x2))]) dec_X5_mostRight.1.2.1.2.1.1 (by decide) rfl ?_
    refine V_iconst dec_X5_mostRight.1.2.1.2.1.2 rfl ?_
    refine V_istore (lv' := [(4, (0, 0)), (3, (0, r3)), (0, (2, x0)), (2, (0, x2))]) dec_X5_mostRight.1.2.1.2.2.1 (by decide) rfl ?_
    refine V_iconst dec_X5_mostRight.1.2.1.2.2.2 rfl ?_
    refine V_istore (lv' := [(5, (0, 0)), (4, (0, 0)), (3, (0, r3)), (0, (2, x0)), (2, (0, x2))]) dec_X5_mostRight.1.2.2.1.1.1 (by decide) rfl ?_
    exact V_pick [3, 4, 2, 1, 0] rfl (X5_mostRight_b35_s G l rk20 hk20 FU s4 x0 x2 r3 0 0)
theorem X5_mostRight_b20_s (G : Gx) (l : Launch) (n : Nat) (s : St) (x0 x2 : Int) : V G l mX5_mostRight 20 [(0, (2, x0)), (2, (0, x2))] [] s (X5_mostRight_b20 n s x0 x2) :=
  V_iter (LV := fun a : St × Int × Int => [(0, (2, a.2.1)), (2, (0, a.2.2))]) (ST := fun a : St × Int × Int => []) (SS := fun a : St × Int × Int => a.1) (fun rec hrec a => X5_mostRight_b20_body_s G l (fun (s : St) (x0 x2 : Int) => rec (s, x0, x2)) (fun (s : St) (x0 x2 : Int) => hrec (s, x0, x2)) a.1 a.2.1 a.2.2) n (s, x0, x2)
def X5_mostRight (s : St) (a0 : Int) : Rs :=
  grd (isK s 15 a0) (letv (w32 ((shl32 1 (gI s a0 2)) - 1)) (fun y1 => grd (isK s 15 a0) (grd (isK s 1 (gR s a0 1) ∧ 0 ≤ y1 ∧ y1 < ln s (gR s a0 1)) (lets (pI s (gR s a0 1) y1.toNat 0) (fun s2 => X5_mostRight_b20 FU s2 a0 (w32 (y1 - 1)))))))
set_option maxRecDepth 100000 in
set_option maxHeartbeats 4000000 in
theorem X5_mostRight_s (G : Gx) (l : Launch) (s : St) (a0 : Int) : Snd G l mX5_mostRight [(2, a0)] s (X5_mostRight s a0) := by
  refine Snd.of (by decide +kernel) rfl ?_
  show V G l mX5_mostRight 0 [(0, (2, a0))] [] s _
  unfold X5_mostRight
  refine V_iconst dec_X5_mostRight.1.1.1.1.1.1 rfl ?_
  refine V_aload_n dec_X5_mostRight.1.1.1.1.1.2 0 rfl ?_
  refine V_getI 5 2 nf_5_2 ft_5_2 fl_X5_30 dec_X5_mostRight.1.1.1.1.2.1 ?_
  refine V_ishl dec_X5_mostRight.1.1.1.1.2.2 ?_
  refine V_iconst dec_X5_mostRight.1.1.1.2.1.1 rfl ?_
  refine V_isub dec_X5_mostRight.1.1.1.2.1.2 ?_
  refine V_letv fun y1 => ?_
  refine V_istore_n (lv' := [(1, (0, y1)), (0, (2, a0))]) dec_X5_mostRight.1.1.1.2.2.1 (by decide) rfl ?_
  refine V_aload_n dec_X5_mostRight.1.1.1.2.2.2 1 rfl ?_
  refine V_getR 5 1 nf_5_1 ft_5_1 fl_X5_15 dec_X5_mostRight.1.1.2.1.1.1 ?_
  refine V_iload_n dec_X5_mostRight.1.1.2.1.1.2 0 rfl ?_
  refine V_iconst dec_X5_mostRight.1.1.2.1.2.1 rfl ?_
  refine V_iast dec_X5_mostRight.1.1.2.1.2.2 ?_
  refine V_lets fun s2 => ?_
  refine V_iload_n dec_X5_mostRight.1.1.2.2.1.1 0 rfl ?_
  refine V_iconst dec_X5_mostRight.1.1.2.2.1.2 rfl ?_
  refine V_isub dec_X5_mostRight.1.1.2.2.2.1 ?_
  refine V_istore_n (lv' := [(2, (0, (w32 (y1 - 1)))), (1, (0, y1)), (0, (2, a0))]) dec_X5_mostRight.1.1.2.2.2.2 (by decide) rfl ?_
  exact V_pick [2, 0] rfl (X5_mostRight_b20_s G l FU s2 a0 (w32 (y1 - 1)))
theorem dec_X11_seat : ((((decode cX11_seat 0 = .ok (.aload_n 0, 1) ∧ decode cX11_seat 1 = .ok (.aload_n 0, 1)) ∧ (decode cX11_seat 2 = .ok (.invokevirtual 203, 3) ∧ decode cX11_seat 5 = .ok (.iload_n 1, 1))) ∧ ((decode cX11_seat 6 = .ok (.invokestatic 187, 3) ∧ decode cX11_seat 9 = .ok (.invokevirtual 92, 3)) ∧ (decode cX11_seat 12 = .ok (.ifCond .eq 5, 3) ∧ (decode cX11_seat 15 = .ok (.iconst (-1), 1) ∧ decode cX11_seat 16 = .ok (.ireturn, 1))))) ∧ (((decode cX11_seat 17 = .ok (.aload_n 0, 1) ∧ decode cX11_seat 18 = .ok (.getfield 46, 3)) ∧ (decode cX11_seat 21 = .ok (.aload_n 0, 1) ∧ (decode cX11_seat 22 = .ok (.getfield 36, 3) ∧ decode cX11_seat 25 = .ok (.iload_n 1, 1)))) ∧ ((decode cX11_seat 26 = .ok (.invokevirtual 241, 3) ∧ decode cX11_seat 29 = .ok (.aload_n 0, 1)) ∧ (decode cX11_seat 30 = .ok (.getfield 46, 3) ∧ (decode cX11_seat 33 = .ok (.invokevirtual 245, 3) ∧ decode cX11_seat 36 = .ok (.ireturn, 1)))))) := ⟨by decide +kernel, by decide +kernel⟩
def X11_seat (s : St) (a0 a1 : Int) : Rs :=
  grd (isK s 21 a0) (bnd (X11_isNoTown s a0) (fun r1 s2 => bnd (X11_isNoNight s2 a1) (fun r3 s4 => grd (isK s4 21 a0) (bnd (X11_refused s4 a0 r1 r3) (fun r5 s6 => if r5 = 0 then (grd (isK s6 21 a0) (grd (isK s6 21 a0) (grd (isK s6 15 (gR s6 a0 9)) (bnd (X5_weigh s6 (gR s6 a0 9) (gR s6 a0 7) a1) (fun r7 s8 => grd (isK s8 21 a0) (grd (isK s8 15 (gR s8 a0 9)) (bnd (X5_mostRight s8 (gR s8 a0 9)) (fun r9 s10 => some (r9, s10))))))))) else (some ((-1), s6)))))))
set_option maxRecDepth 100000 in
set_option maxHeartbeats 4000000 in
theorem X11_seat_s (G : Gx) (l : Launch) (s : St) (a0 a1 : Int) : Snd G l mX11_seat [(2, a0), (0, a1)] s (X11_seat s a0 a1) := by
  refine Snd.of (by decide +kernel) rfl ?_
  show V G l mX11_seat 0 [(0, (2, a0)), (1, (0, a1))] [] s _
  unfold X11_seat
  refine V_aload_n dec_X11_seat.1.1.1.1 0 rfl ?_
  refine V_aload_n dec_X11_seat.1.1.1.2 0 rfl ?_
  refine V_callV0 (ci := 11) (a := a0) (As := []) (st := [(2, a0)]) rfl rfl (X11_isNoTown_s G l s a0) cal_X11_isNoTown rfl ml_X11_203 rfl rfl dec_X11_seat.1.1.2.1 (k_tag (tag := 0) rfl fun r1 s2 => ?_)
  refine V_iload_n dec_X11_seat.1.1.2.2 1 rfl ?_
  refine V_callS0 (As := [(0, a1)]) (st := [(0, r1), (2, a0)]) (host := "") rfl (X11_isNoNight_s G l s2 a1) cal_X11_isNoNight rfl (Or.inl ml_X11_187) rfl rfl dec_X11_seat.1.2.1.1 (k_tag (tag := 0) rfl fun r3 s4 => ?_)
  refine V_callV0 (ci := 11) (a := a0) (As := [(0, r1), (0, r3)]) (st := []) rfl rfl (X11_refused_s G l s4 a0 r1 r3) cal_X11_refused rfl ml_X11_92 rfl rfl dec_X11_seat.1.2.1.2 (k_tag (tag := 0) rfl fun r5 s6 => ?_)
  refine V_if_eq (tgt := 17) dec_X11_seat.1.2.2.1 (by decide) ?_ ?_
  · refine V_aload_n dec_X11_seat.2.1.1.1 0 rfl ?_
    refine V_getR 11 9 nf_11_9 ft_11_9 fl_X11_46 dec_X11_seat.2.1.1.2 ?_
    refine V_aload_n dec_X11_seat.2.1.2.1 0 rfl ?_
    refine V_getR 11 7 nf_11_7 ft_11_7 fl_X11_36 dec_X11_seat.2.1.2.2.1 ?_
    refine V_iload_n dec_X11_seat.2.1.2.2.2 1 rfl ?_
    refine V_callV0 (ci := 5) (a := (gR s6 a0 9)) (As := [(2, (gR s6 a0 7)), (0, a1)]) (st := []) rfl rfl (X5_weigh_s G l s6 (gR s6 a0 9) (gR s6 a0 7) a1) cal_X5_weigh rfl ml_X11_241 rfl rfl dec_X11_seat.2.2.1.1 (k_void rfl fun r7 s8 => ?_)
    refine V_aload_n dec_X11_seat.2.2.1.2 0 rfl ?_
    refine V_getR 11 9 nf_11_9 ft_11_9 fl_X11_46 dec_X11_seat.2.2.2.1 ?_
    refine V_callV0 (ci := 5) (a := (gR s8 a0 9)) (As := []) (st := []) rfl rfl (X5_mostRight_s G l s8 (gR s8 a0 9)) cal_X5_mostRight rfl ml_X11_245 rfl rfl dec_X11_seat.2.2.2.2.1 (k_tag (tag := 0) rfl fun r9 s10 => ?_)
    exact V_iret rfl dec_X11_seat.2.2.2.2.2
  · refine V_iconst dec_X11_seat.1.2.2.2.1 rfl ?_
    exact V_iret rfl dec_X11_seat.1.2.2.2.2
theorem dec_X5_firstBestPlace : (((((decode cX5_firstBestPlace 0 = .ok (.iload_n 1, 1) ∧ (decode cX5_firstBestPlace 1 = .ok (.istore 4, 2) ∧ decode cX5_firstBestPlace 3 = .ok (.bipush 40, 2))) ∧ ((decode cX5_firstBestPlace 5 = .ok (.istore 5, 2) ∧ decode cX5_firstBestPlace 7 = .ok (.iconst 0, 1)) ∧ (decode cX5_firstBestPlace 8 = .ok (.istore 6, 2) ∧ decode cX5_firstBestPlace 10 = .ok (.iload 6, 2)))) ∧ ((decode cX5_firstBestPlace 12 = .ok (.aload_n 0, 1) ∧ (decode cX5_firstBestPlace 13 = .ok (.getfield 30, 3) ∧ decode cX5_firstBestPlace 16 = .ok (.if_icmp .ge 83, 3))) ∧ ((decode cX5_firstBestPlace 19 = .ok (.iload_n 2, 1) ∧ decode cX5_firstBestPlace 20 = .ok (.iconst 1, 1)) ∧ (decode cX5_firstBestPlace 21 = .ok (.iload 6, 2) ∧ decode cX5_firstBestPlace 23 = .ok (.ishl, 1))))) ∧ (((decode cX5_firstBestPlace 24 = .ok (.iand, 1) ∧ (decode cX5_firstBestPlace 25 = .ok (.ifCond .ne 35, 3) ∧ decode cX5_firstBestPlace 28 = .ok (.aload_n 0, 1))) ∧ ((decode cX5_firstBestPlace 29 = .ok (.iload_n 1, 1) ∧ decode cX5_firstBestPlace 30 = .ok (.iload 6, 2)) ∧ (decode cX5_firstBestPlace 32 = .ok (.invokevirtual 50, 3) ∧ decode cX5_firstBestPlace 35 = .ok (.aload_n 0, 1)))) ∧ ((decode cX5_firstBestPlace 36 = .ok (.getfield 15, 3) ∧ (decode cX5_firstBestPlace 39 = .ok (.iload_n 2, 1) ∧ decode cX5_firstBestPlace 40 = .ok (.iconst 1, 1))) ∧ ((decode cX5_firstBestPlace 41 = .ok (.iload 6, 2) ∧ decode cX5_firstBestPlace 43 = .ok (.ishl, 1)) ∧ (decode cX5_firstBestPlace 44 = .ok (.ior, 1) ∧ decode cX5_firstBestPlace 45 = .ok (.iaload, 1)))))) ∧ ((((decode cX5_firstBestPlace 46 = .ok (.iadd, 1) ∧ (decode cX5_firstBestPlace 47 = .ok (.aload_n 0, 1) ∧ decode cX5_firstBestPlace 48 = .ok (.getfield 15, 3))) ∧ ((decode cX5_firstBestPlace 51 = .ok (.iload_n 2, 1) ∧ decode cX5_firstBestPlace 52 = .ok (.iaload, 1)) ∧ (decode cX5_firstBestPlace 53 = .ok (.if_icmp .ne 7, 3) ∧ decode cX5_firstBestPlace 56 = .ok (.iconst 1, 1)))) ∧ ((decode cX5_firstBestPlace 57 = .ok (.goto 4, 3) ∧ (decode cX5_firstBestPlace 60 = .ok (.iconst 0, 1) ∧ decode cX5_firstBestPlace 61 = .ok (.istore 7, 2))) ∧ ((decode cX5_firstBestPlace 63 = .ok (.iload 7, 2) ∧ decode cX5_firstBestPlace 65 = .ok (.ifCond .eq 28, 3)) ∧ (decode cX5_firstBestPlace 68 = .ok (.aload_n 3, 1) ∧ decode cX5_firstBestPlace 69 = .ok (.getfield 38, 3))))) ∧ (((decode cX5_firstBestPlace 72 = .ok (.iload 6, 2) ∧ (decode cX5_firstBestPlace 74 = .ok (.iaload, 1) ∧ decode cX5_firstBestPlace 75 = .ok (.iload 5, 2))) ∧ ((decode cX5_firstBestPlace 77 = .ok (.if_icmp .ge 16, 3) ∧ decode cX5_firstBestPlace 80 = .ok (.aload_n 3, 1)) ∧ (decode cX5_firstBestPlace 81 = .ok (.getfield 38, 3) ∧ decode cX5_firstBestPlace 84 = .ok (.iload 6, 2)))) ∧ (((decode cX5_firstBestPlace 86 = .ok (.iaload, 1) ∧ decode cX5_firstBestPlace 87 = .ok (.istore 5, 2)) ∧ (decode cX5_firstBestPlace 89 = .ok (.iload 6, 2) ∧ decode cX5_firstBestPlace 91 = .ok (.istore 4, 2))) ∧ ((decode cX5_firstBestPlace 93 = .ok (.iinc 6 1, 3) ∧ decode cX5_firstBestPlace 96 = .ok (.goto (-86), 3)) ∧ (decode cX5_firstBestPlace 99 = .ok (.iload 4, 2) ∧ decode cX5_firstBestPlace 101 = .ok (.ireturn, 1))))))) := ⟨⟨⟨by decide +kernel, by decide +kernel⟩, ⟨by decide +kernel, by decide +kernel⟩⟩, ⟨⟨by decide +kernel, by decide +kernel⟩, ⟨by decide +kernel, by decide +kernel⟩⟩⟩
def X5_firstBestPlace_b93 (rk10 : St → Int → Int → Int → Int → Int → Int → Int → Rs) (s : St) (x0 x1 x2 x3 x4 x5 x6 : Int) : Rs :=
  rk10 s x0 x1 x2 x3 x4 x5 (w32 (x6 + 1))
set_option maxRecDepth 100000 in
set_option maxHeartbeats 4000000 in
theorem X5_firstBestPlace_b93_s (G : Gx) (l : Launch) (rk10 : St → Int → Int → Int → Int → Int → Int → Int → Rs) (hk10 : ∀ (s : St) (x0 x1 x2 x3 x4 x5 x6 : Int), V G l mX5_firstBestPlace 10 [(0, (2, x0)), (1, (0, x1)), (2, (0, x2)), (3, (2, x3)), (4, (0, x4)), (5, (0, x5)), (6, (0, x6))] [] s (rk10 s x0 x1 x2 x3 x4 x5 x6)) (s : St) (x0 x1 x2 x3 x4 x5 x6 : Int) : V G l mX5_firstBestPlace 93 [(0, (2, x0)), (1, (0, x1)), (2, (0, x2)), (3, (2, x3)), (4, (0, x4)), (5, (0, x5)), (6, (0, x6))] [] s (X5_firstBestPlace_b93 rk10 s x0 x1 x2 x3 x4 x5 x6) := by
  unfold X5_firstBestPlace_b93
  refine V_iinc (lv' := [(6, (0, (w32 (x6 + 1)))), (0, (2, x0)), (1, (0, x1)), (2, (0, x2)), (3, (2, x3)), (4, (0, x4)), (5, (0, x5))]) dec_X5_firstBestPlace.2.2.2.2.1.1 6 rfl (by decide) rfl ?_
  refine V_goto (tgt := 10) dec_X5_firstBestPlace.2.2.2.2.1.2 (by decide) ?_
  exact V_pick [1, 2, 3, 4, 5, 6, 0] rfl (hk10 s x0 x1 x2 x3 x4 x5 (w32 (x6 + 1)))
def X5_firstBestPlace_b61 (rk10 : St → Int → Int → Int → Int → Int → Int → Int → Rs) (s : St) (x0 x1 x2 x3 x4 x5 x6 k0 : Int) : Rs :=
  if k0 = 0 then (X5_firstBestPlace_b93 rk10 s x0 x1 x2 x3 x4 x5 x6) else (grd (isK s 16 x3) (grd (isK s 1 (gR s x3 1) ∧ 0 ≤ x6 ∧ x6 < ln s (gR s x3 1)) (if x5 ≤ (gI s (gR s x3 1) x6.toNat) then (X5_firstBestPlace_b93 rk10 s x0 x1 x2 x3 x4 x5 x6) else (grd (isK s 16 x3) (grd (isK s 1 (gR s x3 1) ∧ 0 ≤ x6 ∧ x6 < ln s (gR s x3 1)) (letv (gI s (gR s x3 1) x6.toNat) (fun y1 => X5_firstBestPlace_b93 rk10 s x0 x1 x2 x3 x6 y1 x6)))))))
set_option maxRecDepth 100000 in
set_option maxHeartbeats 4000000 in
theorem X5_firstBestPlace_b61_s (G : Gx) (l : Launch) (rk10 : St → Int → Int → Int → Int → Int → Int → Int → Rs) (hk10 : ∀ (s : St) (x0 x1 x2 x3 x4 x5 x6 : Int), V G l mX5_firstBestPlace 10 [(0, (2, x0)), (1, (0, x1)), (2, (0, x2)), (3, (2, x3)), (4, (0, x4)), (5, (0, x5)), (6, (0, x6))] [] s (rk10 s x0 x1 x2 x3 x4 x5 x6)) (s : St) (x0 x1 x2 x3 x4 x5 x6 k0 : Int) : V G l mX5_firstBestPlace 61 [(0, (2, x0)), (1, (0, x1)), (2, (0, x2)), (3, (2, x3)), (4, (0, x4)), (5, (0, x5)), (6, (0, x6))] [(0, k0)] s (X5_firstBestPlace_b61 rk10 s x0 x1 x2 x3 x4 x5 x6 k0) := by
  unfold X5_firstBestPlace_b61
  refine V_istore (lv' := [(7, (0, k0)), (0, (2, x0)), (1, (0, x1)), (2, (0, x2)), (3, (2, x3)), (4, (0, x4)), (5, (0, x5)), (6, (0, x6))]) dec_X5_firstBestPlace.2.1.2.1.2.2 (by decide) rfl ?_
  refine V_iload dec_X5_firstBestPlace.2.1.2.2.1.1 0 rfl ?_
  refine V_if_eq (tgt := 93) dec_X5_firstBestPlace.2.1.2.2.1.2 (by decide) ?_ ?_
  · exact V_pick [1, 2, 3, 4, 5, 6, 7] rfl (X5_firstBestPlace_b93_s G l rk10 hk10 s x0 x1 x2 x3 x4 x5 x6)
  · refine V_aload_n dec_X5_firstBestPlace.2.1.2.2.2.1 4 rfl ?_
    refine V_getR 6 1 nf_6_1 ft_6_1 fl_X5_38 dec_X5_firstBestPlace.2.1.2.2.2.2 ?_
    refine V_iload dec_X5_firstBestPlace.2.2.1.1.1 7 rfl ?_
    refine V_iald dec_X5_firstBestPlace.2.2.1.1.2.1 ?_
    refine V_iload dec_X5_firstBestPlace.2.2.1.1.2.2 6 rfl ?_
    refine V_icmp_ge (tgt := 93) dec_X5_firstBestPlace.2.2.1.2.1.1 (by decide) ?_ ?_
    · exact V_pick [1, 2, 3, 4, 5, 6, 7] rfl (X5_firstBestPlace_b93_s G l rk10 hk10 s x0 x1 x2 x3 x4 x5 x6)
    · refine V_aload_n dec_X5_firstBestPlace.2.2.1.2.1.2 4 rfl ?_
      refine V_getR 6 1 nf_6_1 ft_6_1 fl_X5_38 dec_X5_firstBestPlace.2.2.1.2.2.1 ?_
      refine V_iload dec_X5_firstBestPlace.2.2.1.2.2.2 7 rfl ?_
      refine V_iald dec_X5_firstBestPlace.2.2.2.1.1.1 ?_
      refine V_letv fun y1 => ?_
      refine V_istore (lv' := [(5, (0, y1)), (7, (0, k0)), (0, (2, x0)), (1, (0, x1)), (2, (0, x2)), (3, (2, x3)), (4, (0, x4)), (6, (0, x6))]) dec_X5_firstBestPlace.2.2.2.1.1.2 (by decide) rfl ?_
      refine V_iload dec_X5_firstBestPlace.2.2.2.1.2.1 7 rfl ?_
      refine V_istore (lv' := [(4, (0, x6)), (5, (0, y1)), (7, (0, k0)), (0, (2, x0)), (1, (0, x1)), (2, (0, x2)), (3, (2, x3)), (6, (0, x6))]) dec_X5_firstBestPlace.2.2.2.1.2.2 (by decide) rfl ?_
      exact V_pick [3, 4, 5, 6, 0, 1, 7] rfl (X5_firstBestPlace_b93_s G l rk10 hk10 s x0 x1 x2 x3 x6 y1 x6)
def X5_firstBestPlace_b60 (rk10 : St → Int → Int → Int → Int → Int → Int → Int → Rs) (s : St) (x0 x1 x2 x3 x4 x5 x6 : Int) : Rs :=
  X5_firstBestPlace_b61 rk10 s x0 x1 x2 x3 x4 x5 x6 0
set_option maxRecDepth 100000 in
set_option maxHeartbeats 4000000 in
theorem X5_firstBestPlace_b60_s (G : Gx) (l : Launch) (rk10 : St → Int → Int → Int → Int → Int → Int → Int → Rs) (hk10 : ∀ (s : St) (x0 x1 x2 x3 x4 x5 x6 : Int), V G l mX5_firstBestPlace 10 [(0, (2, x0)), (1, (0, x1)), (2, (0, x2)), (3, (2, x3)), (4, (0, x4)), (5, (0, x5)), (6, (0, x6))] [] s (rk10 s x0 x1 x2 x3 x4 x5 x6)) (s : St) (x0 x1 x2 x3 x4 x5 x6 : Int) : V G l mX5_firstBestPlace 60 [(0, (2, x0)), (1, (0, x1)), (2, (0, x2)), (3, (2, x3)), (4, (0, x4)), (5, (0, x5)), (6, (0, x6))] [] s (X5_firstBestPlace_b60 rk10 s x0 x1 x2 x3 x4 x5 x6) := by
  unfold X5_firstBestPlace_b60
  refine V_iconst dec_X5_firstBestPlace.2.1.2.1.2.1 rfl ?_
  exact V_pick [0, 1, 2, 3, 4, 5, 6] rfl (X5_firstBestPlace_b61_s G l rk10 hk10 s x0 x1 x2 x3 x4 x5 x6 0)
def X5_firstBestPlace_b10_body (rk10 : St → Int → Int → Int → Int → Int → Int → Int → Rs) (s : St) (x0 x1 x2 x3 x4 x5 x6 : Int) : Rs :=
  grd (isK s 15 x0) (if (gI s x0 2) ≤ x6 then (some (x4, s)) else (if ¬ (and32 x2 (shl32 1 x6)) = 0 then (X5_firstBestPlace_b60 rk10 s x0 x1 x2 x3 x4 x5 x6) else (grd (isK s 15 x0) (bnd (X5_worthOf s x0 x1 x6) (fun r2 s3 => grd (isK s3 15 x0) (grd (isK s3 1 (gR s3 x0 1) ∧ 0 ≤ (or32 x2 (shl32 1 x6)) ∧ (or32 x2 (shl32 1 x6)) < ln s3 (gR s3 x0 1)) (grd (isK s3 15 x0) (grd (isK s3 1 (gR s3 x0 1) ∧ 0 ≤ x2 ∧ x2 < ln s3 (gR s3 x0 1)) (if ¬ (w32 (r2 + (gI s3 (gR s3 x0 1) (or32 x2 (shl32 1 x6)).toNat))) = (gI s3 (gR s3 x0 1) x2.toNat) then (X5_firstBestPlace_b60 rk10 s3 x0 x1 x2 x3 x4 x5 x6) else (X5_firstBestPlace_b61 rk10 s3 x0 x1 x2 x3 x4 x5 x6 1))))))))))
def X5_firstBestPlace_b10 (n : Nat) (s : St) (x0 x1 x2 x3 x4 x5 x6 : Int) : Rs := iter (fun (rec : St × Int × Int × Int × Int × Int × Int × Int → Rs) (a : St × Int × Int × Int × Int × Int × Int × Int) => X5_firstBestPlace_b10_body (fun (s : St) (x0 x1 x2 x3 x4 x5 x6 : Int) => rec (s, x0, x1, x2, x3, x4, x5, x6)) a.1 a.2.1 a.2.2.1 a.2.2.2.1 a.2.2.2.2.1 a.2.2.2.2.2.1 a.2.2.2.2.2.2.1 a.2.2.2.2.2.2.2) n (s, x0, x1, x2, x3, x4, x5, x6)
theorem X5_firstBestPlace_b10_0 (s : St) (x0 x1 x2 x3 x4 x5 x6 : Int) : X5_firstBestPlace_b10 0 s x0 x1 x2 x3 x4 x5 x6 = none := rfl
theorem X5_firstBestPlace_b10_1 (n : Nat) (s : St) (x0 x1 x2 x3 x4 x5 x6 : Int) : X5_firstBestPlace_b10 (n + 1) s x0 x1 x2 x3 x4 x5 x6 = X5_firstBestPlace_b10_body (X5_firstBestPlace_b10 n) s x0 x1 x2 x3 x4 x5 x6 := rfl
set_option maxRecDepth 100000 in
set_option maxHeartbeats 4000000 in
theorem X5_firstBestPlace_b10_body_s (G : Gx) (l : Launch) (rk10 : St → Int → Int → Int → Int → Int → Int → Int → Rs) (hk10 : ∀ (s : St) (x0 x1 x2 x3 x4 x5 x6 : Int), V G l mX5_firstBestPlace 10 [(0, (2, x0)), (1, (0, x1)), (2, (0, x2)), (3, (2, x3)), (4, (0, x4)), (5, (0, x5)), (6, (0, x6))] [] s (rk10 s x0 x1 x2 x3 x4 x5 x6)) (s : St) (x0 x1 x2 x3 x4 x5 x6 : Int) : V G l mX5_firstBestPlace 10 [(0, (2, x0)), (1, (0, x1)), (2, (0, x2)), (3, (2, x3)), (4, (0, x4)), (5, (0, x5)), (6, (0, x6))] [] s (X5_firstBestPlace_b10_body rk10 s x0 x1 x2 x3 x4 x5 x6) := by
  unfold X5_firstBestPlace_b10_body
  refine V_iload dec_X5_firstBestPlace.1.1.1.2.2.2 6 rfl ?_
  refine V_aload_n dec_X5_firstBestPlace.1.1.2.1.1 0 rfl ?_
  refine V_getI 5 2 nf_5_2 ft_5_2 fl_X5_30 dec_X5_firstBestPlace.1.1.2.1.2.1 ?_
  refine V_icmp_ge (tgt := 99) dec_X5_firstBestPlace.1.1.2.1.2.2 (by decide) ?_ ?_
  · refine V_iload dec_X5_firstBestPlace.2.2.2.2.2.1 4 rfl ?_
    exact V_iret rfl dec_X5_firstBestPlace.2.2.2.2.2.2
  · refine V_iload_n dec_X5_firstBestPlace.1.1.2.2.1.1 2 rfl ?_
    refine V_iconst dec_X5_firstBestPlace.1.1.2.2.1.2 rfl ?_
    refine V_iload dec_X5_firstBestPlace.1.1.2.2.2.1 6 rfl ?_
    refine V_ishl dec_X5_firstBestPlace.1.1.2.2.2.2 ?_
    refine V_iand dec_X5_firstBestPlace.1.2.1.1.1 ?_
    refine V_if_ne (tgt := 60) dec_X5_firstBestPlace.1.2.1.1.2.1 (by decide) ?_ ?_
    · exact V_pick [0, 1, 2, 3, 4, 5, 6] rfl (X5_firstBestPlace_b60_s G l rk10 hk10 s x0 x1 x2 x3 x4 x5 x6)
    · refine V_aload_n dec_X5_firstBestPlace.1.2.1.1.2.2 0 rfl ?_
      refine V_iload_n dec_X5_firstBestPlace.1.2.1.2.1.1 1 rfl ?_
      refine V_iload dec_X5_firstBestPlace.1.2.1.2.1.2 6 rfl ?_
      refine V_callV0 (ci := 5) (a := x0) (As := [(0, x1), (0, x6)]) (st := []) rfl rfl (X5_worthOf_s G l s x0 x1 x6) cal_X5_worthOf rfl ml_X5_50 rfl rfl dec_X5_firstBestPlace.1.2.1.2.2.1 (k_tag (tag := 0) rfl fun r2 s3 => ?_)
      refine V_aload_n dec_X5_firstBestPlace.1.2.1.2.2.2 0 rfl ?_
      refine V_getR 5 1 nf_5_1 ft_5_1 fl_X5_15 dec_X5_firstBestPlace.1.2.2.1.1 ?_
      refine V_iload_n dec_X5_firstBestPlace.1.2.2.1.2.1 2 rfl ?_
      refine V_iconst dec_X5_firstBestPlace.1.2.2.1.2.2 rfl ?_
      refine V_iload dec_X5_firstBestPlace.1.2.2.2.1.1 6 rfl ?_
      refine V_ishl dec_X5_firstBestPlace.1.2.2.2.1.2 ?_
      refine V_ior dec_X5_firstBestPlace.1.2.2.2.2.1 ?_
      refine V_iald dec_X5_firstBestPlace.1.2.2.2.2.2 ?_
      refine V_iadd dec_X5_firstBestPlace.2.1.1.1.1 ?_
      refine V_aload_n dec_X5_firstBestPlace.2.1.1.1.2.1 0 rfl ?_
      refine V_getR 5 1 nf_5_1 ft_5_1 fl_X5_15 dec_X5_firstBestPlace.2.1.1.1.2.2 ?_
      refine V_iload_n dec_X5_firstBestPlace.2.1.1.2.1.1 2 rfl ?_
      refine V_iald dec_X5_firstBestPlace.2.1.1.2.1.2 ?_
      refine V_icmp_ne (tgt := 60) dec_X5_firstBestPlace.2.1.1.2.2.1 (by decide) ?_ ?_
      · exact V_pick [0, 1, 2, 3, 4, 5, 6] rfl (X5_firstBestPlace_b60_s G l rk10 hk10 s3 x0 x1 x2 x3 x4 x5 x6)
      · refine V_iconst dec_X5_firstBestPlace.2.1.1.2.2.2 rfl ?_
        refine V_goto (tgt := 61) dec_X5_firstBestPlace.2.1.2.1.1 (by decide) ?_
        exact V_pick [0, 1, 2, 3, 4, 5, 6] rfl (X5_firstBestPlace_b61_s G l rk10 hk10 s3 x0 x1 x2 x3 x4 x5 x6 1)
theorem X5_firstBestPlace_b10_s (G : Gx) (l : Launch) (n : Nat) (s : St) (x0 x1 x2 x3 x4 x5 x6 : Int) : V G l mX5_firstBestPlace 10 [(0, (2, x0)), (1, (0, x1)), (2, (0, x2)), (3, (2, x3)), (4, (0, x4)), (5, (0, x5)), (6, (0, x6))] [] s (X5_firstBestPlace_b10 n s x0 x1 x2 x3 x4 x5 x6) :=
  V_iter (LV := fun a : St × Int × Int × Int × Int × Int × Int × Int => [(0, (2, a.2.1)), (1, (0, a.2.2.1)), (2, (0, a.2.2.2.1)), (3, (2, a.2.2.2.2.1)), (4, (0, a.2.2.2.2.2.1)), (5, (0, a.2.2.2.2.2.2.1)), (6, (0, a.2.2.2.2.2.2.2))]) (ST := fun a : St × Int × Int × Int × Int × Int × Int × Int => []) (SS := fun a : St × Int × Int × Int × Int × Int × Int × Int => a.1) (fun rec hrec a => X5_firstBestPlace_b10_body_s G l (fun (s : St) (x0 x1 x2 x3 x4 x5 x6 : Int) => rec (s, x0, x1, x2, x3, x4, x5, x6)) (fun (s : St) (x0 x1 x2 x3 x4 x5 x6 : Int) => hrec (s, x0, x1, x2, x3, x4, x5, x6)) a.1 a.2.1 a.2.2.1 a.2.2.2.1 a.2.2.2.2.1 a.2.2.2.2.2.1 a.2.2.2.2.2.2.1 a.2.2.2.2.2.2.2) n (s, x0, x1, x2, x3, x4, x5, x6)
def X5_firstBestPlace (s : St) (a0 a1 a2 a3 : Int) : Rs :=
  X5_firstBestPlace_b10 FU s a0 a1 a2 a3 a1 40 0
set_option maxRecDepth 100000 in
set_option maxHeartbeats 4000000 in
theorem X5_firstBestPlace_s (G : Gx) (l : Launch) (s : St) (a0 a1 a2 a3 : Int) : Snd G l mX5_firstBestPlace [(2, a0), (0, a1), (0, a2), (2, a3)] s (X5_firstBestPlace s a0 a1 a2 a3) := by
  refine Snd.of (by decide +kernel) rfl ?_
  show V G l mX5_firstBestPlace 0 [(0, (2, a0)), (1, (0, a1)), (2, (0, a2)), (3, (2, a3))] [] s _
  unfold X5_firstBestPlace
  refine V_iload_n dec_X5_firstBestPlace.1.1.1.1.1 1 rfl ?_
  refine V_istore (lv' := [(4, (0, a1)), (0, (2, a0)), (1, (0, a1)), (2, (0, a2)), (3, (2, a3))]) dec_X5_firstBestPlace.1.1.1.1.2.1 (by decide) rfl ?_
  refine V_bipush dec_X5_firstBestPlace.1.1.1.1.2.2 rfl ?_
  refine V_istore (lv' := [(5, (0, 40)), (4, (0, a1)), (0, (2, a0)), (1, (0, a1)), (2, (0, a2)), (3, (2, a3))]) dec_X5_firstBestPlace.1.1.1.2.1.1 (by decide) rfl ?_
  refine V_iconst dec_X5_firstBestPlace.1.1.1.2.1.2 rfl ?_
  refine V_istore (lv' := [(6, (0, 0)), (5, (0, 40)), (4, (0, a1)), (0, (2, a0)), (1, (0, a1)), (2, (0, a2)), (3, (2, a3))]) dec_X5_firstBestPlace.1.1.1.2.2.1 (by decide) rfl ?_
  exact V_pick [3, 4, 5, 6, 2, 1, 0] rfl (X5_firstBestPlace_b10_s G l FU s a0 a1 a2 a3 a1 40 0)
theorem dec_X5_placeOf : ((((decode cX5_placeOf 0 = .ok (.aload_n 0, 1) ∧ (decode cX5_placeOf 1 = .ok (.invokevirtual 65, 3) ∧ decode cX5_placeOf 4 = .ok (.pop, 1))) ∧ ((decode cX5_placeOf 5 = .ok (.iconst 0, 1) ∧ decode cX5_placeOf 6 = .ok (.istore_n 3, 1)) ∧ (decode cX5_placeOf 7 = .ok (.iload_n 1, 1) ∧ decode cX5_placeOf 8 = .ok (.istore 4, 2)))) ∧ ((decode cX5_placeOf 10 = .ok (.iconst 0, 1) ∧ (decode cX5_placeOf 11 = .ok (.istore 5, 2) ∧ decode cX5_placeOf 13 = .ok (.iload 5, 2))) ∧ ((decode cX5_placeOf 15 = .ok (.iload_n 1, 1) ∧ decode cX5_placeOf 16 = .ok (.if_icmp .gt 26, 3)) ∧ (decode cX5_placeOf 19 = .ok (.aload_n 0, 1) ∧ decode cX5_placeOf 20 = .ok (.iload 5, 2))))) ∧ (((decode cX5_placeOf 22 = .ok (.iload_n 3, 1) ∧ (decode cX5_placeOf 23 = .ok (.aload_n 2, 1) ∧ decode cX5_placeOf 24 = .ok (.invokevirtual 69, 3))) ∧ ((decode cX5_placeOf 27 = .ok (.istore 4, 2) ∧ decode cX5_placeOf 29 = .ok (.iload_n 3, 1)) ∧ (decode cX5_placeOf 30 = .ok (.iconst 1, 1) ∧ decode cX5_placeOf 31 = .ok (.iload 4, 2)))) ∧ ((decode cX5_placeOf 33 = .ok (.ishl, 1) ∧ (decode cX5_placeOf 34 = .ok (.ior, 1) ∧ decode cX5_placeOf 35 = .ok (.istore_n 3, 1))) ∧ ((decode cX5_placeOf 36 = .ok (.iinc 5 1, 3) ∧ decode cX5_placeOf 39 = .ok (.goto (-26), 3)) ∧ (decode cX5_placeOf 42 = .ok (.iload 4, 2) ∧ decode cX5_placeOf 44 = .ok (.ireturn, 1)))))) := ⟨⟨by decide +kernel, by decide +kernel⟩, ⟨by decide +kernel, by decide +kernel⟩⟩
def X5_placeOf_b13_body (rk13 : St → Int → Int → Int → Int → Int → Int → Rs) (s : St) (x0 x1 x2 x3 x4 x5 : Int) : Rs :=
  if x1 < x5 then (some (x4, s)) else (grd (isK s 15 x0) (bnd (X5_firstBestPlace s x0 x5 x3 x2) (fun r3 s4 => rk13 s4 x0 x1 x2 (or32 x3 (shl32 1 r3)) r3 (w32 (x5 + 1)))))
def X5_placeOf_b13 (n : Nat) (s : St) (x0 x1 x2 x3 x4 x5 : Int) : Rs := iter (fun (rec : St × Int × Int × Int × Int × Int × Int → Rs) (a : St × Int × Int × Int × Int × Int × Int) => X5_placeOf_b13_body (fun (s : St) (x0 x1 x2 x3 x4 x5 : Int) => rec (s, x0, x1, x2, x3, x4, x5)) a.1 a.2.1 a.2.2.1 a.2.2.2.1 a.2.2.2.2.1 a.2.2.2.2.2.1 a.2.2.2.2.2.2) n (s, x0, x1, x2, x3, x4, x5)
theorem X5_placeOf_b13_0 (s : St) (x0 x1 x2 x3 x4 x5 : Int) : X5_placeOf_b13 0 s x0 x1 x2 x3 x4 x5 = none := rfl
theorem X5_placeOf_b13_1 (n : Nat) (s : St) (x0 x1 x2 x3 x4 x5 : Int) : X5_placeOf_b13 (n + 1) s x0 x1 x2 x3 x4 x5 = X5_placeOf_b13_body (X5_placeOf_b13 n) s x0 x1 x2 x3 x4 x5 := rfl
set_option maxRecDepth 100000 in
set_option maxHeartbeats 4000000 in
theorem X5_placeOf_b13_body_s (G : Gx) (l : Launch) (rk13 : St → Int → Int → Int → Int → Int → Int → Rs) (hk13 : ∀ (s : St) (x0 x1 x2 x3 x4 x5 : Int), V G l mX5_placeOf 13 [(0, (2, x0)), (1, (0, x1)), (2, (2, x2)), (3, (0, x3)), (4, (0, x4)), (5, (0, x5))] [] s (rk13 s x0 x1 x2 x3 x4 x5)) (s : St) (x0 x1 x2 x3 x4 x5 : Int) : V G l mX5_placeOf 13 [(0, (2, x0)), (1, (0, x1)), (2, (2, x2)), (3, (0, x3)), (4, (0, x4)), (5, (0, x5))] [] s (X5_placeOf_b13_body rk13 s x0 x1 x2 x3 x4 x5) := by
  unfold X5_placeOf_b13_body
  refine V_iload dec_X5_placeOf.1.2.1.2.2 5 rfl ?_
  refine V_iload_n dec_X5_placeOf.1.2.2.1.1 1 rfl ?_
  refine V_icmp_gt (tgt := 42) dec_X5_placeOf.1.2.2.1.2 (by decide) ?_ ?_
  · refine V_iload dec_X5_placeOf.2.2.2.2.1 4 rfl ?_
    exact V_iret rfl dec_X5_placeOf.2.2.2.2.2
  · refine V_aload_n dec_X5_placeOf.1.2.2.2.1 0 rfl ?_
    refine V_iload dec_X5_placeOf.1.2.2.2.2 5 rfl ?_
    refine V_iload_n dec_X5_placeOf.2.1.1.1 3 rfl ?_
    refine V_aload_n dec_X5_placeOf.2.1.1.2.1 2 rfl ?_
    refine V_callV0 (ci := 5) (a := x0) (As := [(0, x5), (0, x3), (2, x2)]) (st := []) rfl rfl (X5_firstBestPlace_s G l s x0 x5 x3 x2) cal_X5_firstBestPlace rfl ml_X5_69 rfl rfl dec_X5_placeOf.2.1.1.2.2 (k_tag (tag := 0) rfl fun r3 s4 => ?_)
    refine V_istore (lv' := [(4, (0, r3)), (0, (2, x0)), (1, (0, x1)), (2, (2, x2)), (3, (0, x3)), (5, (0, x5))]) dec_X5_placeOf.2.1.2.1.1 (by decide) rfl ?_
    refine V_iload_n dec_X5_placeOf.2.1.2.1.2 4 rfl ?_
    refine V_iconst dec_X5_placeOf.2.1.2.2.1 rfl ?_
    refine V_iload dec_X5_placeOf.2.1.2.2.2 0 rfl ?_
    refine V_ishl dec_X5_placeOf.2.2.1.1 ?_
    refine V_ior dec_X5_placeOf.2.2.1.2.1 ?_
    refine V_istore_n (lv' := [(3, (0, (or32 x3 (shl32 1 r3)))), (4, (0, r3)), (0, (2, x0)), (1, (0, x1)), (2, (2, x2)), (5, (0, x5))]) dec_X5_placeOf.2.2.1.2.2 (by decide) rfl ?_
    refine V_iinc (lv' := [(5, (0, (w32 (x5 + 1)))), (3, (0, (or32 x3 (shl32 1 r3)))), (4, (0, r3)), (0, (2, x0)), (1, (0, x1)), (2, (2, x2))]) dec_X5_placeOf.2.2.2.1.1 5 rfl (by decide) rfl ?_
    refine V_goto (tgt := 13) dec_X5_placeOf.2.2.2.1.2 (by decide) ?_
    exact V_pick [3, 4, 5, 1, 2, 0] rfl (hk13 s4 x0 x1 x2 (or32 x3 (shl32 1 r3)) r3 (w32 (x5 + 1)))
theorem X5_placeOf_b13_s (G : Gx) (l : Launch) (n : Nat) (s : St) (x0 x1 x2 x3 x4 x5 : Int) : V G l mX5_placeOf 13 [(0, (2, x0)), (1, (0, x1)), (2, (2, x2)), (3, (0, x3)), (4, (0, x4)), (5, (0, x5))] [] s (X5_placeOf_b13 n s x0 x1 x2 x3 x4 x5) :=
  V_iter (LV := fun a : St × Int × Int × Int × Int × Int × Int => [(0, (2, a.2.1)), (1, (0, a.2.2.1)), (2, (2, a.2.2.2.1)), (3, (0, a.2.2.2.2.1)), (4, (0, a.2.2.2.2.2.1)), (5, (0, a.2.2.2.2.2.2))]) (ST := fun a : St × Int × Int × Int × Int × Int × Int => []) (SS := fun a : St × Int × Int × Int × Int × Int × Int => a.1) (fun rec hrec a => X5_placeOf_b13_body_s G l (fun (s : St) (x0 x1 x2 x3 x4 x5 : Int) => rec (s, x0, x1, x2, x3, x4, x5)) (fun (s : St) (x0 x1 x2 x3 x4 x5 : Int) => hrec (s, x0, x1, x2, x3, x4, x5)) a.1 a.2.1 a.2.2.1 a.2.2.2.1 a.2.2.2.2.1 a.2.2.2.2.2.1 a.2.2.2.2.2.2) n (s, x0, x1, x2, x3, x4, x5)
def X5_placeOf (s : St) (a0 a1 a2 : Int) : Rs :=
  grd (isK s 15 a0) (bnd (X5_mostRight s a0) (fun r1 s2 => X5_placeOf_b13 FU s2 a0 a1 a2 0 a1 0))
set_option maxRecDepth 100000 in
set_option maxHeartbeats 4000000 in
theorem X5_placeOf_s (G : Gx) (l : Launch) (s : St) (a0 a1 a2 : Int) : Snd G l mX5_placeOf [(2, a0), (0, a1), (2, a2)] s (X5_placeOf s a0 a1 a2) := by
  refine Snd.of (by decide +kernel) rfl ?_
  show V G l mX5_placeOf 0 [(0, (2, a0)), (1, (0, a1)), (2, (2, a2))] [] s _
  unfold X5_placeOf
  refine V_aload_n dec_X5_placeOf.1.1.1.1 0 rfl ?_
  refine V_callV0 (ci := 5) (a := a0) (As := []) (st := []) rfl rfl (X5_mostRight_s G l s a0) cal_X5_mostRight rfl ml_X5_65 rfl rfl dec_X5_placeOf.1.1.1.2.1 (k_tag (tag := 0) rfl fun r1 s2 => ?_)
  refine V_pop (nl0 _) dec_X5_placeOf.1.1.1.2.2 ?_
  refine V_iconst dec_X5_placeOf.1.1.2.1.1 rfl ?_
  refine V_istore_n (lv' := [(3, (0, 0)), (0, (2, a0)), (1, (0, a1)), (2, (2, a2))]) dec_X5_placeOf.1.1.2.1.2 (by decide) rfl ?_
  refine V_iload_n dec_X5_placeOf.1.1.2.2.1 2 rfl ?_
  refine V_istore (lv' := [(4, (0, a1)), (3, (0, 0)), (0, (2, a0)), (1, (0, a1)), (2, (2, a2))]) dec_X5_placeOf.1.1.2.2.2 (by decide) rfl ?_
  refine V_iconst dec_X5_placeOf.1.2.1.1 rfl ?_
  refine V_istore (lv' := [(5, (0, 0)), (4, (0, a1)), (3, (0, 0)), (0, (2, a0)), (1, (0, a1)), (2, (2, a2))]) dec_X5_placeOf.1.2.1.2.1 (by decide) rfl ?_
  exact V_pick [3, 4, 5, 2, 1, 0] rfl (X5_placeOf_b13_s G l FU s2 a0 a1 a2 0 a1 0)
theorem dec_X11_seatAt : ((((decode cX11_seatAt 0 = .ok (.aload_n 0, 1) ∧ (decode cX11_seatAt 1 = .ok (.aload_n 0, 1) ∧ decode cX11_seatAt 2 = .ok (.iload_n 1, 1))) ∧ ((decode cX11_seatAt 3 = .ok (.invokevirtual 139, 3) ∧ decode cX11_seatAt 6 = .ok (.iload_n 2, 1)) ∧ (decode cX11_seatAt 7 = .ok (.invokestatic 187, 3) ∧ decode cX11_seatAt 10 = .ok (.invokevirtual 92, 3)))) ∧ ((decode cX11_seatAt 13 = .ok (.ifCond .eq 5, 3) ∧ (decode cX11_seatAt 16 = .ok (.iconst (-1), 1) ∧ decode cX11_seatAt 17 = .ok (.ireturn, 1))) ∧ ((decode cX11_seatAt 18 = .ok (.aload_n 0, 1) ∧ decode cX11_seatAt 19 = .ok (.getfield 46, 3)) ∧ (decode cX11_seatAt 22 = .ok (.aload_n 0, 1) ∧ decode cX11_seatAt 23 = .ok (.getfield 36, 3))))) ∧ (((decode cX11_seatAt 26 = .ok (.iload_n 2, 1) ∧ (decode cX11_seatAt 27 = .ok (.invokevirtual 241, 3) ∧ decode cX11_seatAt 30 = .ok (.aload_n 0, 1))) ∧ ((decode cX11_seatAt 31 = .ok (.getfield 36, 3) ∧ decode cX11_seatAt 34 = .ok (.getfield 143, 3)) ∧ (decode cX11_seatAt 37 = .ok (.getfield 146, 3) ∧ decode cX11_seatAt 40 = .ok (.aload_n 0, 1)))) ∧ (((decode cX11_seatAt 41 = .ok (.getfield 46, 3) ∧ decode cX11_seatAt 44 = .ok (.iload_n 1, 1)) ∧ (decode cX11_seatAt 45 = .ok (.aload_n 0, 1) ∧ decode cX11_seatAt 46 = .ok (.getfield 36, 3))) ∧ ((decode cX11_seatAt 49 = .ok (.getfield 143, 3) ∧ decode cX11_seatAt 52 = .ok (.invokevirtual 249, 3)) ∧ (decode cX11_seatAt 55 = .ok (.iaload, 1) ∧ decode cX11_seatAt 56 = .ok (.ireturn, 1)))))) := ⟨⟨by decide +kernel, by decide +kernel⟩, ⟨by decide +kernel, by decide +kernel⟩⟩
def X11_seatAt (s : St) (a0 a1 a2 : Int) : Rs :=
  grd (isK s 21 a0) (bnd (X11_isNoPerson s a0 a1) (fun r1 s2 => bnd (X11_isNoNight s2 a2) (fun r3 s4 => grd (isK s4 21 a0) (bnd (X11_refused s4 a0 r1 r3) (fun r5 s6 => if r5 = 0 then (grd (isK s6 21 a0) (grd (isK s6 21 a0) (grd (isK s6 15 (gR s6 a0 9)) (bnd (X5_weigh s6 (gR s6 a0 9) (gR s6 a0 7) a2) (fun r7 s8 => grd (isK s8 21 a0) (grd (isK s8 20 (gR s8 a0 7)) (grd (isK s8 16 (gR s8 (gR s8 a0 7) 1)) (grd (isK s8 21 a0) (grd (isK s8 21 a0) (grd (isK s8 20 (gR s8 a0 7)) (grd (isK s8 15 (gR s8 a0 9)) (bnd (X5_placeOf s8 (gR s8 a0 9) a1 (gR s8 (gR s8 a0 7) 1)) (fun r9 s10 => grd (isK s10 1 (gR s8 (gR s8 (gR s8 a0 7) 1) 1) ∧ 0 ≤ r9 ∧ r9 < ln s10 (gR s8 (gR s8 (gR s8 a0 7) 1) 1)) (some ((gI s10 (gR s8 (gR s8 (gR s8 a0 7) 1) 1) r9.toNat), s10))))))))))))))) else (some ((-1), s6)))))))
set_option maxRecDepth 100000 in
set_option maxHeartbeats 4000000 in
theorem X11_seatAt_s (G : Gx) (l : Launch) (s : St) (a0 a1 a2 : Int) : Snd G l mX11_seatAt [(2, a0), (0, a1), (0, a2)] s (X11_seatAt s a0 a1 a2) := by
  refine Snd.of (by decide +kernel) rfl ?_
  show V G l mX11_seatAt 0 [(0, (2, a0)), (1, (0, a1)), (2, (0, a2))] [] s _
  unfold X11_seatAt
  refine V_aload_n dec_X11_seatAt.1.1.1.1 0 rfl ?_
  refine V_aload_n dec_X11_seatAt.1.1.1.2.1 0 rfl ?_
  refine V_iload_n dec_X11_seatAt.1.1.1.2.2 1 rfl ?_
  refine V_callV0 (ci := 11) (a := a0) (As := [(0, a1)]) (st := [(2, a0)]) rfl rfl (X11_isNoPerson_s G l s a0 a1) cal_X11_isNoPerson rfl ml_X11_139 rfl rfl dec_X11_seatAt.1.1.2.1.1 (k_tag (tag := 0) rfl fun r1 s2 => ?_)
  refine V_iload_n dec_X11_seatAt.1.1.2.1.2 2 rfl ?_
  refine V_callS0 (As := [(0, a2)]) (st := [(0, r1), (2, a0)]) (host := "") rfl (X11_isNoNight_s G l s2 a2) cal_X11_isNoNight rfl (Or.inl ml_X11_187) rfl rfl dec_X11_seatAt.1.1.2.2.1 (k_tag (tag := 0) rfl fun r3 s4 => ?_)
  refine V_callV0 (ci := 11) (a := a0) (As := [(0, r1), (0, r3)]) (st := []) rfl rfl (X11_refused_s G l s4 a0 r1 r3) cal_X11_refused rfl ml_X11_92 rfl rfl dec_X11_seatAt.1.1.2.2.2 (k_tag (tag := 0) rfl fun r5 s6 => ?_)
  refine V_if_eq (tgt := 18) dec_X11_seatAt.1.2.1.1 (by decide) ?_ ?_
  · refine V_aload_n dec_X11_seatAt.1.2.2.1.1 0 rfl ?_
    refine V_getR 11 9 nf_11_9 ft_11_9 fl_X11_46 dec_X11_seatAt.1.2.2.1.2 ?_
    refine V_aload_n dec_X11_seatAt.1.2.2.2.1 0 rfl ?_
    refine V_getR 11 7 nf_11_7 ft_11_7 fl_X11_36 dec_X11_seatAt.1.2.2.2.2 ?_
    refine V_iload_n dec_X11_seatAt.2.1.1.1 2 rfl ?_
    refine V_callV0 (ci := 5) (a := (gR s6 a0 9)) (As := [(2, (gR s6 a0 7)), (0, a2)]) (st := []) rfl rfl (X5_weigh_s G l s6 (gR s6 a0 9) (gR s6 a0 7) a2) cal_X5_weigh rfl ml_X11_241 rfl rfl dec_X11_seatAt.2.1.1.2.1 (k_void rfl fun r7 s8 => ?_)
    refine V_aload_n dec_X11_seatAt.2.1.1.2.2 0 rfl ?_
    refine V_getR 11 7 nf_11_7 ft_11_7 fl_X11_36 dec_X11_seatAt.2.1.2.1.1 ?_
    refine V_getR 10 1 nf_10_1 ft_10_1 fl_X11_143 dec_X11_seatAt.2.1.2.1.2 ?_
    refine V_getR 6 1 nf_6_1 ft_6_1 fl_X11_146 dec_X11_seatAt.2.1.2.2.1 ?_
    refine V_aload_n dec_X11_seatAt.2.1.2.2.2 0 rfl ?_
    refine V_getR 11 9 nf_11_9 ft_11_9 fl_X11_46 dec_X11_seatAt.2.2.1.1.1 ?_
    refine V_iload_n dec_X11_seatAt.2.2.1.1.2 1 rfl ?_
    refine V_aload_n dec_X11_seatAt.2.2.1.2.1 0 rfl ?_
    refine V_getR 11 7 nf_11_7 ft_11_7 fl_X11_36 dec_X11_seatAt.2.2.1.2.2 ?_
    refine V_getR 10 1 nf_10_1 ft_10_1 fl_X11_143 dec_X11_seatAt.2.2.2.1.1 ?_
    refine V_callV0 (ci := 5) (a := (gR s8 a0 9)) (As := [(0, a1), (2, (gR s8 (gR s8 a0 7) 1))]) (st := [(2, (gR s8 (gR s8 (gR s8 a0 7) 1) 1))]) rfl rfl (X5_placeOf_s G l s8 (gR s8 a0 9) a1 (gR s8 (gR s8 a0 7) 1)) cal_X5_placeOf rfl ml_X11_249 rfl rfl dec_X11_seatAt.2.2.2.1.2 (k_tag (tag := 0) rfl fun r9 s10 => ?_)
    refine V_iald dec_X11_seatAt.2.2.2.2.1 ?_
    exact V_iret rfl dec_X11_seatAt.2.2.2.2.2
  · refine V_iconst dec_X11_seatAt.1.2.1.2.1 rfl ?_
    exact V_iret rfl dec_X11_seatAt.1.2.1.2.2
theorem dec_X11_silent : (((((decode cX11_silent 0 = .ok (.aload_n 0, 1) ∧ decode cX11_silent 1 = .ok (.aload_n 0, 1)) ∧ (decode cX11_silent 2 = .ok (.invokevirtual 203, 3) ∧ decode cX11_silent 5 = .ok (.iload_n 1, 1))) ∧ ((decode cX11_silent 6 = .ok (.invokestatic 187, 3) ∧ decode cX11_silent 9 = .ok (.invokevirtual 92, 3)) ∧ (decode cX11_silent 12 = .ok (.ifCond .eq 5, 3) ∧ decode cX11_silent 15 = .ok (.iconst (-1), 1)))) ∧ (((decode cX11_silent 16 = .ok (.ireturn, 1) ∧ decode cX11_silent 17 = .ok (.iconst 0, 1)) ∧ (decode cX11_silent 18 = .ok (.istore_n 2, 1) ∧ decode cX11_silent 19 = .ok (.iconst 0, 1))) ∧ ((decode cX11_silent 20 = .ok (.istore_n 3, 1) ∧ decode cX11_silent 21 = .ok (.iload_n 3, 1)) ∧ (decode cX11_silent 22 = .ok (.aload_n 0, 1) ∧ (decode cX11_silent 23 = .ok (.getfield 27, 3) ∧ decode cX11_silent 26 = .ok (.getfield 133, 3)))))) ∧ ((((decode cX11_silent 29 = .ok (.if_icmp .ge 27, 3) ∧ decode cX11_silent 32 = .ok (.aload_n 0, 1)) ∧ (decode cX11_silent 33 = .ok (.getfield 36, 3) ∧ decode cX11_silent 36 = .ok (.iload_n 3, 1))) ∧ ((decode cX11_silent 37 = .ok (.iload_n 1, 1) ∧ decode cX11_silent 38 = .ok (.invokevirtual 156, 3)) ∧ (decode cX11_silent 41 = .ok (.ifCond .ne 9, 3) ∧ decode cX11_silent 44 = .ok (.iload_n 2, 1)))) ∧ (((decode cX11_silent 45 = .ok (.iconst 1, 1) ∧ decode cX11_silent 46 = .ok (.iload_n 3, 1)) ∧ (decode cX11_silent 47 = .ok (.ishl, 1) ∧ decode cX11_silent 48 = .ok (.ior, 1))) ∧ ((decode cX11_silent 49 = .ok (.istore_n 2, 1) ∧ decode cX11_silent 50 = .ok (.iinc 3 1, 3)) ∧ (decode cX11_silent 53 = .ok (.goto (-32), 3) ∧ (decode cX11_silent 56 = .ok (.iload_n 2, 1) ∧ decode cX11_silent 57 = .ok (.ireturn, 1))))))) := ⟨⟨by decide +kernel, by decide +kernel⟩, ⟨by decide +kernel, by decide +kernel⟩⟩
def X11_silent_b50 (rk21 : St → Int → Int → Int → Int → Rs) (s : St) (x0 x1 x2 x3 : Int) : Rs :=
  rk21 s x0 x1 x2 (w32 (x3 + 1))
set_option maxRecDepth 100000 in
set_option maxHeartbeats 4000000 in
theorem X11_silent_b50_s (G : Gx) (l : Launch) (rk21 : St → Int → Int → Int → Int → Rs) (hk21 : ∀ (s : St) (x0 x1 x2 x3 : Int), V G l mX11_silent 21 [(0, (2, x0)), (1, (0, x1)), (2, (0, x2)), (3, (0, x3))] [] s (rk21 s x0 x1 x2 x3)) (s : St) (x0 x1 x2 x3 : Int) : V G l mX11_silent 50 [(0, (2, x0)), (1, (0, x1)), (2, (0, x2)), (3, (0, x3))] [] s (X11_silent_b50 rk21 s x0 x1 x2 x3) := by
  unfold X11_silent_b50
  refine V_iinc (lv' := [(3, (0, (w32 (x3 + 1)))), (0, (2, x0)), (1, (0, x1)), (2, (0, x2))]) dec_X11_silent.2.2.2.1.2 3 rfl (by decide) rfl ?_
  refine V_goto (tgt := 21) dec_X11_silent.2.2.2.2.1 (by decide) ?_
  exact V_pick [1, 2, 3, 0] rfl (hk21 s x0 x1 x2 (w32 (x3 + 1)))
def X11_silent_b21_body (rk21 : St → Int → Int → Int → Int → Rs) (s : St) (x0 x1 x2 x3 : Int) : Rs :=
  grd (isK s 21 x0) (grd (isK s 19 (gR s x0 6)) (if (gI s (gR s x0 6) 2) ≤ x3 then (some (x2, s)) else (grd (isK s 21 x0) (grd (isK s 20 (gR s x0 7)) (bnd (X10_heardBits s (gR s x0 7) x3 x1) (fun r7 s8 => if ¬ r7 = 0 then (X11_silent_b50 rk21 s8 x0 x1 x2 x3) else (X11_silent_b50 rk21 s8 x0 x1 (or32 x2 (shl32 1 x3)) x3)))))))
def X11_silent_b21 (n : Nat) (s : St) (x0 x1 x2 x3 : Int) : Rs := iter (fun (rec : St × Int × Int × Int × Int → Rs) (a : St × Int × Int × Int × Int) => X11_silent_b21_body (fun (s : St) (x0 x1 x2 x3 : Int) => rec (s, x0, x1, x2, x3)) a.1 a.2.1 a.2.2.1 a.2.2.2.1 a.2.2.2.2) n (s, x0, x1, x2, x3)
theorem X11_silent_b21_0 (s : St) (x0 x1 x2 x3 : Int) : X11_silent_b21 0 s x0 x1 x2 x3 = none := rfl
theorem X11_silent_b21_1 (n : Nat) (s : St) (x0 x1 x2 x3 : Int) : X11_silent_b21 (n + 1) s x0 x1 x2 x3 = X11_silent_b21_body (X11_silent_b21 n) s x0 x1 x2 x3 := rfl
set_option maxRecDepth 100000 in
set_option maxHeartbeats 4000000 in
theorem X11_silent_b21_body_s (G : Gx) (l : Launch) (rk21 : St → Int → Int → Int → Int → Rs) (hk21 : ∀ (s : St) (x0 x1 x2 x3 : Int), V G l mX11_silent 21 [(0, (2, x0)), (1, (0, x1)), (2, (0, x2)), (3, (0, x3))] [] s (rk21 s x0 x1 x2 x3)) (s : St) (x0 x1 x2 x3 : Int) : V G l mX11_silent 21 [(0, (2, x0)), (1, (0, x1)), (2, (0, x2)), (3, (0, x3))] [] s (X11_silent_b21_body rk21 s x0 x1 x2 x3) := by
  unfold X11_silent_b21_body
  refine V_iload_n dec_X11_silent.1.2.2.1.2 3 rfl ?_
  refine V_aload_n dec_X11_silent.1.2.2.2.1 0 rfl ?_
  refine V_getR 11 6 nf_11_6 ft_11_6 fl_X11_27 dec_X11_silent.1.2.2.2.2.1 ?_
  refine V_getI 9 2 nf_9_2 ft_9_2 fl_X11_133 dec_X11_silent.1.2.2.2.2.2 ?_
  refine V_icmp_ge (tgt := 56) dec_X11_silent.2.1.1.1.1 (by decide) ?_ ?_
  · refine V_iload_n dec_X11_silent.2.2.2.2.2.1 2 rfl ?_
    exact V_iret rfl dec_X11_silent.2.2.2.2.2.2
  · refine V_aload_n dec_X11_silent.2.1.1.1.2 0 rfl ?_
    refine V_getR 11 7 nf_11_7 ft_11_7 fl_X11_36 dec_X11_silent.2.1.1.2.1 ?_
    refine V_iload_n dec_X11_silent.2.1.1.2.2 3 rfl ?_
    refine V_iload_n dec_X11_silent.2.1.2.1.1 1 rfl ?_
    refine V_callV0 (ci := 10) (a := (gR s x0 7)) (As := [(0, x3), (0, x1)]) (st := []) rfl rfl (X10_heardBits_s G l s (gR s x0 7) x3 x1) cal_X10_heardBits rfl ml_X11_156 rfl rfl dec_X11_silent.2.1.2.1.2 (k_tag (tag := 0) rfl fun r7 s8 => ?_)
    refine V_if_ne (tgt := 50) dec_X11_silent.2.1.2.2.1 (by decide) ?_ ?_
    · exact V_pick [0, 1, 2, 3] rfl (X11_silent_b50_s G l rk21 hk21 s8 x0 x1 x2 x3)
    · refine V_iload_n dec_X11_silent.2.1.2.2.2 2 rfl ?_
      refine V_iconst dec_X11_silent.2.2.1.1.1 rfl ?_
      refine V_iload_n dec_X11_silent.2.2.1.1.2 3 rfl ?_
      refine V_ishl dec_X11_silent.2.2.1.2.1 ?_
      refine V_ior dec_X11_silent.2.2.1.2.2 ?_
      refine V_istore_n (lv' := [(2, (0, (or32 x2 (shl32 1 x3)))), (0, (2, x0)), (1, (0, x1)), (3, (0, x3))]) dec_X11_silent.2.2.2.1.1 (by decide) rfl ?_
      exact V_pick [1, 2, 0, 3] rfl (X11_silent_b50_s G l rk21 hk21 s8 x0 x1 (or32 x2 (shl32 1 x3)) x3)
theorem X11_silent_b21_s (G : Gx) (l : Launch) (n : Nat) (s : St) (x0 x1 x2 x3 : Int) : V G l mX11_silent 21 [(0, (2, x0)), (1, (0, x1)), (2, (0, x2)), (3, (0, x3))] [] s (X11_silent_b21 n s x0 x1 x2 x3) :=
  V_iter (LV := fun a : St × Int × Int × Int × Int => [(0, (2, a.2.1)), (1, (0, a.2.2.1)), (2, (0, a.2.2.2.1)), (3, (0, a.2.2.2.2))]) (ST := fun a : St × Int × Int × Int × Int => []) (SS := fun a : St × Int × Int × Int × Int => a.1) (fun rec hrec a => X11_silent_b21_body_s G l (fun (s : St) (x0 x1 x2 x3 : Int) => rec (s, x0, x1, x2, x3)) (fun (s : St) (x0 x1 x2 x3 : Int) => hrec (s, x0, x1, x2, x3)) a.1 a.2.1 a.2.2.1 a.2.2.2.1 a.2.2.2.2) n (s, x0, x1, x2, x3)
def X11_silent (s : St) (a0 a1 : Int) : Rs :=
  grd (isK s 21 a0) (bnd (X11_isNoTown s a0) (fun r1 s2 => bnd (X11_isNoNight s2 a1) (fun r3 s4 => grd (isK s4 21 a0) (bnd (X11_refused s4 a0 r1 r3) (fun r5 s6 => if r5 = 0 then (X11_silent_b21 FU s6 a0 a1 0 0) else (some ((-1), s6)))))))
set_option maxRecDepth 100000 in
set_option maxHeartbeats 4000000 in
theorem X11_silent_s (G : Gx) (l : Launch) (s : St) (a0 a1 : Int) : Snd G l mX11_silent [(2, a0), (0, a1)] s (X11_silent s a0 a1) := by
  refine Snd.of (by decide +kernel) rfl ?_
  show V G l mX11_silent 0 [(0, (2, a0)), (1, (0, a1))] [] s _
  unfold X11_silent
  refine V_aload_n dec_X11_silent.1.1.1.1.1 0 rfl ?_
  refine V_aload_n dec_X11_silent.1.1.1.1.2 0 rfl ?_
  refine V_callV0 (ci := 11) (a := a0) (As := []) (st := [(2, a0)]) rfl rfl (X11_isNoTown_s G l s a0) cal_X11_isNoTown rfl ml_X11_203 rfl rfl dec_X11_silent.1.1.1.2.1 (k_tag (tag := 0) rfl fun r1 s2 => ?_)
  refine V_iload_n dec_X11_silent.1.1.1.2.2 1 rfl ?_
  refine V_callS0 (As := [(0, a1)]) (st := [(0, r1), (2, a0)]) (host := "") rfl (X11_isNoNight_s G l s2 a1) cal_X11_isNoNight rfl (Or.inl ml_X11_187) rfl rfl dec_X11_silent.1.1.2.1.1 (k_tag (tag := 0) rfl fun r3 s4 => ?_)
  refine V_callV0 (ci := 11) (a := a0) (As := [(0, r1), (0, r3)]) (st := []) rfl rfl (X11_refused_s G l s4 a0 r1 r3) cal_X11_refused rfl ml_X11_92 rfl rfl dec_X11_silent.1.1.2.1.2 (k_tag (tag := 0) rfl fun r5 s6 => ?_)
  refine V_if_eq (tgt := 17) dec_X11_silent.1.1.2.2.1 (by decide) ?_ ?_
  · refine V_iconst dec_X11_silent.1.2.1.1.2 rfl ?_
    refine V_istore_n (lv' := [(2, (0, 0)), (0, (2, a0)), (1, (0, a1))]) dec_X11_silent.1.2.1.2.1 (by decide) rfl ?_
    refine V_iconst dec_X11_silent.1.2.1.2.2 rfl ?_
    refine V_istore_n (lv' := [(3, (0, 0)), (2, (0, 0)), (0, (2, a0)), (1, (0, a1))]) dec_X11_silent.1.2.2.1.1 (by decide) rfl ?_
    exact V_pick [2, 3, 1, 0] rfl (X11_silent_b21_s G l FU s6 a0 a1 0 0)
  · refine V_iconst dec_X11_silent.1.1.2.2.2 rfl ?_
    exact V_iret rfl dec_X11_silent.1.2.1.1.1
theorem dec_X11_size : (((((decode cX11_size 0 = .ok (.iload_n 1, 1) ∧ decode cX11_size 1 = .ok (.tableswitch 144 0 10 #[59, 67, 75, 83, 91, 99, 107, 115, 126, 134, 139], 59)) ∧ (decode cX11_size 60 = .ok (.aload_n 0, 1) ∧ (decode cX11_size 61 = .ok (.getfield 27, 3) ∧ decode cX11_size 64 = .ok (.getfield 228, 3)))) ∧ ((decode cX11_size 67 = .ok (.ireturn, 1) ∧ (decode cX11_size 68 = .ok (.aload_n 0, 1) ∧ decode cX11_size 69 = .ok (.getfield 27, 3))) ∧ (decode cX11_size 72 = .ok (.getfield 367, 3) ∧ (decode cX11_size 75 = .ok (.ireturn, 1) ∧ decode cX11_size 76 = .ok (.aload_n 0, 1))))) ∧ (((decode cX11_size 77 = .ok (.getfield 27, 3) ∧ (decode cX11_size 80 = .ok (.getfield 133, 3) ∧ decode cX11_size 83 = .ok (.ireturn, 1))) ∧ (decode cX11_size 84 = .ok (.aload_n 0, 1) ∧ (decode cX11_size 85 = .ok (.getfield 27, 3) ∧ decode cX11_size 88 = .ok (.getfield 225, 3)))) ∧ ((decode cX11_size 91 = .ok (.ireturn, 1) ∧ (decode cX11_size 92 = .ok (.aload_n 0, 1) ∧ decode cX11_size 93 = .ok (.getfield 36, 3))) ∧ (decode cX11_size 96 = .ok (.invokevirtual 369, 3) ∧ (decode cX11_size 99 = .ok (.ireturn, 1) ∧ decode cX11_size 100 = .ok (.aload_n 0, 1)))))) ∧ ((((decode cX11_size 101 = .ok (.getfield 27, 3) ∧ (decode cX11_size 104 = .ok (.getfield 287, 3) ∧ decode cX11_size 107 = .ok (.ireturn, 1))) ∧ (decode cX11_size 108 = .ok (.aload_n 0, 1) ∧ (decode cX11_size 109 = .ok (.getfield 27, 3) ∧ decode cX11_size 112 = .ok (.getfield 372, 3)))) ∧ ((decode cX11_size 115 = .ok (.ireturn, 1) ∧ (decode cX11_size 116 = .ok (.aload_n 0, 1) ∧ decode cX11_size 117 = .ok (.getfield 36, 3))) ∧ (decode cX11_size 120 = .ok (.getfield 143, 3) ∧ (decode cX11_size 123 = .ok (.getfield 153, 3) ∧ decode cX11_size 126 = .ok (.ireturn, 1))))) ∧ (((decode cX11_size 127 = .ok (.aload_n 0, 1) ∧ (decode cX11_size 128 = .ok (.getfield 74, 3) ∧ decode cX11_size 131 = .ok (.getfield 127, 3))) ∧ (decode cX11_size 134 = .ok (.ireturn, 1) ∧ (decode cX11_size 135 = .ok (.aload_n 0, 1) ∧ decode cX11_size 136 = .ok (.getfield 130, 3)))) ∧ ((decode cX11_size 139 = .ok (.ireturn, 1) ∧ (decode cX11_size 140 = .ok (.aload_n 0, 1) ∧ decode cX11_size 141 = .ok (.getfield 85, 3))) ∧ (decode cX11_size 144 = .ok (.ireturn, 1) ∧ (decode cX11_size 145 = .ok (.iconst (-1), 1) ∧ decode cX11_size 146 = .ok (.ireturn, 1))))))) := ⟨⟨by decide +kernel, by decide +kernel⟩, ⟨by decide +kernel, by decide +kernel⟩⟩
def X11_size (s : St) (a0 a1 : Int) : Rs :=
  swt a1 0 [grd (isK s 21 a0) (grd (isK s 19 (gR s a0 6)) (some ((gI s (gR s a0 6) 0), s))), grd (isK s 21 a0) (grd (isK s 19 (gR s a0 6)) (some ((gI s (gR s a0 6) 1), s))), grd (isK s 21 a0) (grd (isK s 19 (gR s a0 6)) (some ((gI s (gR s a0 6) 2), s))), grd (isK s 21 a0) (grd (isK s 19 (gR s a0 6)) (some ((gI s (gR s a0 6) 3), s))), grd (isK s 21 a0) (grd (isK s 20 (gR s a0 7)) (bnd (X10_mirrorCount s (gR s a0 7)) (fun r1 s2 => some (r1, s2)))), grd (isK s 21 a0) (grd (isK s 19 (gR s a0 6)) (some ((gI s (gR s a0 6) 4), s))), grd (isK s 21 a0) (grd (isK s 19 (gR s a0 6)) (some ((gI s (gR s a0 6) 5), s))), grd (isK s 21 a0) (grd (isK s 20 (gR s a0 7)) (grd (isK s 16 (gR s (gR s a0 7) 1)) (some ((gI s (gR s (gR s a0 7) 1) 0), s)))), grd (isK s 21 a0) (grd (isK s 13 (gR s a0 13)) (some ((gI s (gR s a0 13) 0), s))), grd (isK s 21 a0) (some ((gI s a0 15), s)), grd (isK s 21 a0) (some ((gI s a0 1), s))] (some ((-1), s))
set_option maxRecDepth 100000 in
set_option maxHeartbeats 4000000 in
theorem X11_size_s (G : Gx) (l : Launch) (s : St) (a0 a1 : Int) : Snd G l mX11_size [(2, a0), (0, a1)] s (X11_size s a0 a1) := by
  refine Snd.of (by decide +kernel) rfl ?_
  show V G l mX11_size 0 [(0, (2, a0)), (1, (0, a1))] [] s _
  unfold X11_size
  refine V_iload_n dec_X11_size.1.1.1.1.1 1 rfl ?_
  refine V_tsw (ts := [60, 68, 76, 84, 92, 100, 108, 116, 127, 135, 140]) (td := 145) dec_X11_size.1.1.1.1.2 (by decide) (by decide) (by decide) ⟨?_, ?_, ?_, ?_, ?_, ?_, ?_, ?_, ?_, ?_, ?_, trivial⟩ ?_
  · refine V_aload_n dec_X11_size.1.1.1.2.1 0 rfl ?_
    refine V_getR 11 6 nf_11_6 ft_11_6 fl_X11_27 dec_X11_size.1.1.1.2.2.1 ?_
    refine V_getI 9 0 nf_9_0 ft_9_0 fl_X11_228 dec_X11_size.1.1.1.2.2.2 ?_
    exact V_iret rfl dec_X11_size.1.1.2.1.1
  · refine V_aload_n dec_X11_size.1.1.2.1.2.1 0 rfl ?_
    refine V_getR 11 6 nf_11_6 ft_11_6 fl_X11_27 dec_X11_size.1.1.2.1.2.2 ?_
    refine V_getI 9 1 nf_9_1 ft_9_1 fl_X11_367 dec_X11_size.1.1.2.2.1 ?_
    exact V_iret rfl dec_X11_size.1.1.2.2.2.1
  · refine V_aload_n dec_X11_size.1.1.2.2.2.2 0 rfl ?_
    refine V_getR 11 6 nf_11_6 ft_11_6 fl_X11_27 dec_X11_size.1.2.1.1.1 ?_
    refine V_getI 9 2 nf_9_2 ft_9_2 fl_X11_133 dec_X11_size.1.2.1.1.2.1 ?_
    exact V_iret rfl dec_X11_size.1.2.1.1.2.2
  · refine V_aload_n dec_X11_size.1.2.1.2.1 0 rfl ?_
    refine V_getR 11 6 nf_11_6 ft_11_6 fl_X11_27 dec_X11_size.1.2.1.2.2.1 ?_
    refine V_getI 9 3 nf_9_3 ft_9_3 fl_X11_225 dec_X11_size.1.2.1.2.2.2 ?_
    exact V_iret rfl dec_X11_size.1.2.2.1.1
  · refine V_aload_n dec_X11_size.1.2.2.1.2.1 0 rfl ?_
    refine V_getR 11 7 nf_11_7 ft_11_7 fl_X11_36 dec_X11_size.1.2.2.1.2.2 ?_
    refine V_callV0 (ci := 10) (a := (gR s a0 7)) (As := []) (st := []) rfl rfl (X10_mirrorCount_s G l s (gR s a0 7)) cal_X10_mirrorCount rfl ml_X11_369 rfl rfl dec_X11_size.1.2.2.2.1 (k_tag (tag := 0) rfl fun r1 s2 => ?_)
    exact V_iret rfl dec_X11_size.1.2.2.2.2.1
  · refine V_aload_n dec_X11_size.1.2.2.2.2.2 0 rfl ?_
    refine V_getR 11 6 nf_11_6 ft_11_6 fl_X11_27 dec_X11_size.2.1.1.1.1 ?_
    refine V_getI 9 4 nf_9_4 ft_9_4 fl_X11_287 dec_X11_size.2.1.1.1.2.1 ?_
    exact V_iret rfl dec_X11_size.2.1.1.1.2.2
  · refine V_aload_n dec_X11_size.2.1.1.2.1 0 rfl ?_
    refine V_getR 11 6 nf_11_6 ft_11_6 fl_X11_27 dec_X11_size.2.1.1.2.2.1 ?_
    refine V_getI 9 5 nf_9_5 ft_9_5 fl_X11_372 dec_X11_size.2.1.1.2.2.2 ?_
    exact V_iret rfl dec_X11_size.2.1.2.1.1
  · refine V_aload_n dec_X11_size.2.1.2.1.2.1 0 rfl ?_
    refine V_getR 11 7 nf_11_7 ft_11_7 fl_X11_36 dec_X11_size.2.1.2.1.2.2 ?_
    refine V_getR 10 1 nf_10_1 ft_10_1 fl_X11_143 dec_X11_size.2.1.2.2.1 ?_
    refine V_getI 6 0 nf_6_0 ft_6_0 fl_X11_153 dec_X11_size.2.1.2.2.2.1 ?_
    exact V_iret rfl dec_X11_size.2.1.2.2.2.2
  · refine V_aload_n dec_X11_size.2.2.1.1.1 0 rfl ?_
    refine V_getR 11 13 nf_11_13 ft_11_13 fl_X11_74 dec_X11_size.2.2.1.1.2.1 ?_
    refine V_getI 3 0 nf_3_0 ft_3_0 fl_X11_127 dec_X11_size.2.2.1.1.2.2 ?_
    exact V_iret rfl dec_X11_size.2.2.1.2.1
  · refine V_aload_n dec_X11_size.2.2.1.2.2.1 0 rfl ?_
    refine V_getI 11 15 nf_11_15 ft_11_15 fl_X11_130 dec_X11_size.2.2.1.2.2.2 ?_
    exact V_iret rfl dec_X11_size.2.2.2.1.1
  · refine V_aload_n dec_X11_size.2.2.2.1.2.1 0 rfl ?_
    refine V_getI 11 1 nf_11_1 ft_11_1 fl_X11_85 dec_X11_size.2.2.2.1.2.2 ?_
    exact V_iret rfl dec_X11_size.2.2.2.2.1
  · refine V_iconst dec_X11_size.2.2.2.2.2.1 rfl ?_
    exact V_iret rfl dec_X11_size.2.2.2.2.2.2
theorem dec_X11_slipFor : (((((decode cX11_slipFor 0 = .ok (.aload_n 0, 1) ∧ decode cX11_slipFor 1 = .ok (.aload_n 0, 1)) ∧ (decode cX11_slipFor 2 = .ok (.iload_n 1, 1) ∧ decode cX11_slipFor 3 = .ok (.invokevirtual 160, 3))) ∧ ((decode cX11_slipFor 6 = .ok (.iload_n 2, 1) ∧ decode cX11_slipFor 7 = .ok (.invokestatic 187, 3)) ∧ (decode cX11_slipFor 10 = .ok (.invokevirtual 92, 3) ∧ decode cX11_slipFor 13 = .ok (.ifCond .eq 5, 3)))) ∧ (((decode cX11_slipFor 16 = .ok (.iconst (-1), 1) ∧ decode cX11_slipFor 17 = .ok (.ireturn, 1)) ∧ (decode cX11_slipFor 18 = .ok (.iconst 0, 1) ∧ decode cX11_slipFor 19 = .ok (.istore_n 3, 1))) ∧ ((decode cX11_slipFor 20 = .ok (.iload_n 3, 1) ∧ decode cX11_slipFor 21 = .ok (.bipush 39, 2)) ∧ (decode cX11_slipFor 23 = .ok (.if_icmp .gt 36, 3) ∧ (decode cX11_slipFor 26 = .ok (.aload_n 0, 1) ∧ decode cX11_slipFor 27 = .ok (.getfield 36, 3)))))) ∧ ((((decode cX11_slipFor 30 = .ok (.iload_n 1, 1) ∧ decode cX11_slipFor 31 = .ok (.iload_n 3, 1)) ∧ (decode cX11_slipFor 32 = .ok (.aload_n 0, 1) ∧ decode cX11_slipFor 33 = .ok (.getfield 36, 3))) ∧ ((decode cX11_slipFor 36 = .ok (.getfield 143, 3) ∧ decode cX11_slipFor 39 = .ok (.getfield 172, 3)) ∧ (decode cX11_slipFor 42 = .ok (.iload_n 1, 1) ∧ decode cX11_slipFor 43 = .ok (.iaload, 1)))) ∧ (((decode cX11_slipFor 44 = .ok (.iload_n 2, 1) ∧ decode cX11_slipFor 45 = .ok (.invokevirtual 234, 3)) ∧ (decode cX11_slipFor 48 = .ok (.ifCond .eq 5, 3) ∧ decode cX11_slipFor 51 = .ok (.iload_n 3, 1))) ∧ ((decode cX11_slipFor 52 = .ok (.ireturn, 1) ∧ decode cX11_slipFor 53 = .ok (.iinc 3 1, 3)) ∧ (decode cX11_slipFor 56 = .ok (.goto (-36), 3) ∧ (decode cX11_slipFor 59 = .ok (.bipush (-2), 2) ∧ decode cX11_slipFor 61 = .ok (.ireturn, 1))))))) := ⟨⟨by decide +kernel, by decide +kernel⟩, ⟨by decide +kernel, by decide +kernel⟩⟩
def X11_slipFor_b20_body (rk20 : St → Int → Int → Int → Int → Rs) (s : St) (x0 x1 x2 x3 : Int) : Rs :=
  if (39 : Int) < x3 then (some ((-2), s)) else (grd (isK s 21 x0) (grd (isK s 21 x0) (grd (isK s 20 (gR s x0 7)) (grd (isK s 16 (gR s (gR s x0 7) 1)) (grd (isK s 1 (gR s (gR s (gR s x0 7) 1) 3) ∧ 0 ≤ x1 ∧ x1 < ln s (gR s (gR s (gR s x0 7) 1) 3)) (grd (isK s 20 (gR s x0 7)) (bnd (X10_isRightWith s (gR s x0 7) x1 x3 (gI s (gR s (gR s (gR s x0 7) 1) 3) x1.toNat) x2) (fun r7 s8 => if r7 = 0 then (rk20 s8 x0 x1 x2 (w32 (x3 + 1))) else (some (x3, s8))))))))))
def X11_slipFor_b20 (n : Nat) (s : St) (x0 x1 x2 x3 : Int) : Rs := iter (fun (rec : St × Int × Int × Int × Int → Rs) (a : St × Int × Int × Int × Int) => X11_slipFor_b20_body (fun (s : St) (x0 x1 x2 x3 : Int) => rec (s, x0, x1, x2, x3)) a.1 a.2.1 a.2.2.1 a.2.2.2.1 a.2.2.2.2) n (s, x0, x1, x2, x3)
theorem X11_slipFor_b20_0 (s : St) (x0 x1 x2 x3 : Int) : X11_slipFor_b20 0 s x0 x1 x2 x3 = none := rfl
theorem X11_slipFor_b20_1 (n : Nat) (s : St) (x0 x1 x2 x3 : Int) : X11_slipFor_b20 (n + 1) s x0 x1 x2 x3 = X11_slipFor_b20_body (X11_slipFor_b20 n) s x0 x1 x2 x3 := rfl
set_option maxRecDepth 100000 in
set_option maxHeartbeats 4000000 in
theorem X11_slipFor_b20_body_s (G : Gx) (l : Launch) (rk20 : St → Int → Int → Int → Int → Rs) (hk20 : ∀ (s : St) (x0 x1 x2 x3 : Int), V G l mX11_slipFor 20 [(0, (2, x0)), (1, (0, x1)), (2, (0, x2)), (3, (0, x3))] [] s (rk20 s x0 x1 x2 x3)) (s : St) (x0 x1 x2 x3 : Int) : V G l mX11_slipFor 20 [(0, (2, x0)), (1, (0, x1)), (2, (0, x2)), (3, (0, x3))] [] s (X11_slipFor_b20_body rk20 s x0 x1 x2 x3) := by
  unfold X11_slipFor_b20_body
  refine V_iload_n dec_X11_slipFor.1.2.2.1.1 3 rfl ?_
  refine V_bipush dec_X11_slipFor.1.2.2.1.2 rfl ?_
  refine V_icmp_gt (tgt := 59) dec_X11_slipFor.1.2.2.2.1 (by decide) ?_ ?_
  · refine V_bipush dec_X11_slipFor.2.2.2.2.2.1 rfl ?_
    exact V_iret rfl dec_X11_slipFor.2.2.2.2.2.2
  · refine V_aload_n dec_X11_slipFor.1.2.2.2.2.1 0 rfl ?_
    refine V_getR 11 7 nf_11_7 ft_11_7 fl_X11_36 dec_X11_slipFor.1.2.2.2.2.2 ?_
    refine V_iload_n dec_X11_slipFor.2.1.1.1.1 1 rfl ?_
    refine V_iload_n dec_X11_slipFor.2.1.1.1.2 3 rfl ?_
    refine V_aload_n dec_X11_slipFor.2.1.1.2.1 0 rfl ?_
    refine V_getR 11 7 nf_11_7 ft_11_7 fl_X11_36 dec_X11_slipFor.2.1.1.2.2 ?_
    refine V_getR 10 1 nf_10_1 ft_10_1 fl_X11_143 dec_X11_slipFor.2.1.2.1.1 ?_
    refine V_getR 6 3 nf_6_3 ft_6_3 fl_X11_172 dec_X11_slipFor.2.1.2.1.2 ?_
    refine V_iload_n dec_X11_slipFor.2.1.2.2.1 1 rfl ?_
    refine V_iald dec_X11_slipFor.2.1.2.2.2 ?_
    refine V_iload_n dec_X11_slipFor.2.2.1.1.1 2 rfl ?_
    refine V_callV0 (ci := 10) (a := (gR s x0 7)) (As := [(0, x1), (0, x3), (0, (gI s (gR s (gR s (gR s x0 7) 1) 3) x1.toNat)), (0, x2)]) (st := []) rfl rfl (X10_isRightWith_s G l s (gR s x0 7) x1 x3 (gI s (gR s (gR s (gR s x0 7) 1) 3) x1.toNat) x2) cal_X10_isRightWith rfl ml_X11_234 rfl rfl dec_X11_slipFor.2.2.1.1.2 (k_tag (tag := 0) rfl fun r7 s8 => ?_)
    refine V_if_eq (tgt := 53) dec_X11_slipFor.2.2.1.2.1 (by decide) ?_ ?_
    · refine V_iinc (lv' := [(3, (0, (w32 (x3 + 1)))), (0, (2, x0)), (1, (0, x1)), (2, (0, x2))]) dec_X11_slipFor.2.2.2.1.2 3 rfl (by decide) rfl ?_
      refine V_goto (tgt := 20) dec_X11_slipFor.2.2.2.2.1 (by decide) ?_
      exact V_pick [1, 2, 3, 0] rfl (hk20 s8 x0 x1 x2 (w32 (x3 + 1)))
    · refine V_iload_n dec_X11_slipFor.2.2.1.2.2 3 rfl ?_
      exact V_iret rfl dec_X11_slipFor.2.2.2.1.1
theorem X11_slipFor_b20_s (G : Gx) (l : Launch) (n : Nat) (s : St) (x0 x1 x2 x3 : Int) : V G l mX11_slipFor 20 [(0, (2, x0)), (1, (0, x1)), (2, (0, x2)), (3, (0, x3))] [] s (X11_slipFor_b20 n s x0 x1 x2 x3) :=
  V_iter (LV := fun a : St × Int × Int × Int × Int => [(0, (2, a.2.1)), (1, (0, a.2.2.1)), (2, (0, a.2.2.2.1)), (3, (0, a.2.2.2.2))]) (ST := fun a : St × Int × Int × Int × Int => []) (SS := fun a : St × Int × Int × Int × Int => a.1) (fun rec hrec a => X11_slipFor_b20_body_s G l (fun (s : St) (x0 x1 x2 x3 : Int) => rec (s, x0, x1, x2, x3)) (fun (s : St) (x0 x1 x2 x3 : Int) => hrec (s, x0, x1, x2, x3)) a.1 a.2.1 a.2.2.1 a.2.2.2.1 a.2.2.2.2) n (s, x0, x1, x2, x3)
def X11_slipFor (s : St) (a0 a1 a2 : Int) : Rs :=
  grd (isK s 21 a0) (bnd (X11_isNoDead s a0 a1) (fun r1 s2 => bnd (X11_isNoNight s2 a2) (fun r3 s4 => grd (isK s4 21 a0) (bnd (X11_refused s4 a0 r1 r3) (fun r5 s6 => if r5 = 0 then (X11_slipFor_b20 FU s6 a0 a1 a2 0) else (some ((-1), s6)))))))
set_option maxRecDepth 100000 in
set_option maxHeartbeats 4000000 in
theorem X11_slipFor_s (G : Gx) (l : Launch) (s : St) (a0 a1 a2 : Int) : Snd G l mX11_slipFor [(2, a0), (0, a1), (0, a2)] s (X11_slipFor s a0 a1 a2) := by
  refine Snd.of (by decide +kernel) rfl ?_
  show V G l mX11_slipFor 0 [(0, (2, a0)), (1, (0, a1)), (2, (0, a2))] [] s _
  unfold X11_slipFor
  refine V_aload_n dec_X11_slipFor.1.1.1.1.1 0 rfl ?_
  refine V_aload_n dec_X11_slipFor.1.1.1.1.2 0 rfl ?_
  refine V_iload_n dec_X11_slipFor.1.1.1.2.1 1 rfl ?_
  refine V_callV0 (ci := 11) (a := a0) (As := [(0, a1)]) (st := [(2, a0)]) rfl rfl (X11_isNoDead_s G l s a0 a1) cal_X11_isNoDead rfl ml_X11_160 rfl rfl dec_X11_slipFor.1.1.1.2.2 (k_tag (tag := 0) rfl fun r1 s2 => ?_)
  refine V_iload_n dec_X11_slipFor.1.1.2.1.1 2 rfl ?_
  refine V_callS0 (As := [(0, a2)]) (st := [(0, r1), (2, a0)]) (host := "") rfl (X11_isNoNight_s G l s2 a2) cal_X11_isNoNight rfl (Or.inl ml_X11_187) rfl rfl dec_X11_slipFor.1.1.2.1.2 (k_tag (tag := 0) rfl fun r3 s4 => ?_)
  refine V_callV0 (ci := 11) (a := a0) (As := [(0, r1), (0, r3)]) (st := []) rfl rfl (X11_refused_s G l s4 a0 r1 r3) cal_X11_refused rfl ml_X11_92 rfl rfl dec_X11_slipFor.1.1.2.2.1 (k_tag (tag := 0) rfl fun r5 s6 => ?_)
  refine V_if_eq (tgt := 18) dec_X11_slipFor.1.1.2.2.2 (by decide) ?_ ?_
  · refine V_iconst dec_X11_slipFor.1.2.1.2.1 rfl ?_
    refine V_istore_n (lv' := [(3, (0, 0)), (0, (2, a0)), (1, (0, a1)), (2, (0, a2))]) dec_X11_slipFor.1.2.1.2.2 (by decide) rfl ?_
    exact V_pick [1, 2, 3, 0] rfl (X11_slipFor_b20_s G l FU s6 a0 a1 a2 0)
  · refine V_iconst dec_X11_slipFor.1.2.1.1.1 rfl ?_
    exact V_iret rfl dec_X11_slipFor.1.2.1.1.2
theorem dec_X11_steps : ((((decode cX11_steps 0 = .ok (.aload_n 0, 1) ∧ decode cX11_steps 1 = .ok (.aload_n 0, 1)) ∧ (decode cX11_steps 2 = .ok (.iload_n 1, 1) ∧ (decode cX11_steps 3 = .ok (.invokevirtual 175, 3) ∧ decode cX11_steps 6 = .ok (.ifCond .ne 11, 3)))) ∧ ((decode cX11_steps 9 = .ok (.aload_n 0, 1) ∧ (decode cX11_steps 10 = .ok (.iload_n 2, 1) ∧ decode cX11_steps 11 = .ok (.invokevirtual 175, 3))) ∧ (decode cX11_steps 14 = .ok (.ifCond .eq 7, 3) ∧ (decode cX11_steps 17 = .ok (.iconst 1, 1) ∧ decode cX11_steps 18 = .ok (.goto 4, 3))))) ∧ (((decode cX11_steps 21 = .ok (.iconst 0, 1) ∧ (decode cX11_steps 22 = .ok (.iconst 0, 1) ∧ decode cX11_steps 23 = .ok (.invokevirtual 92, 3))) ∧ (decode cX11_steps 26 = .ok (.ifCond .eq 5, 3) ∧ (decode cX11_steps 29 = .ok (.iconst (-1), 1) ∧ decode cX11_steps 30 = .ok (.ireturn, 1)))) ∧ ((decode cX11_steps 31 = .ok (.aload_n 0, 1) ∧ (decode cX11_steps 32 = .ok (.getfield 27, 3) ∧ decode cX11_steps 35 = .ok (.iload_n 1, 1))) ∧ (decode cX11_steps 36 = .ok (.iload_n 2, 1) ∧ (decode cX11_steps 37 = .ok (.invokevirtual 268, 3) ∧ decode cX11_steps 40 = .ok (.ireturn, 1)))))) := ⟨by decide +kernel, by decide +kernel⟩
def X11_steps_b22 (s : St) (x0 x1 x2 k0 k1 : Int) : Rs :=
  grd (isK s 21 k1) (bnd (X11_refused s k1 k0 0) (fun r3 s4 => if r3 = 0 then (grd (isK s4 21 x0) (grd (isK s4 19 (gR s4 x0 6)) (bnd (X9_distance s4 (gR s4 x0 6) x1 x2) (fun r5 s6 => some (r5, s6))))) else (some ((-1), s4))))
set_option maxRecDepth 100000 in
set_option maxHeartbeats 4000000 in
theorem X11_steps_b22_s (G : Gx) (l : Launch) (s : St) (x0 x1 x2 k0 k1 : Int) : V G l mX11_steps 22 [(0, (2, x0)), (1, (0, x1)), (2, (0, x2))] [(0, k0), (2, k1)] s (X11_steps_b22 s x0 x1 x2 k0 k1) := by
  unfold X11_steps_b22
  refine V_iconst dec_X11_steps.2.1.1.2.1 rfl ?_
  refine V_callV0 (ci := 11) (a := k1) (As := [(0, k0), (0, 0)]) (st := []) rfl rfl (X11_refused_s G l s k1 k0 0) cal_X11_refused rfl ml_X11_92 rfl rfl dec_X11_steps.2.1.1.2.2 (k_tag (tag := 0) rfl fun r3 s4 => ?_)
  refine V_if_eq (tgt := 31) dec_X11_steps.2.1.2.1 (by decide) ?_ ?_
  · refine V_aload_n dec_X11_steps.2.2.1.1 0 rfl ?_
    refine V_getR 11 6 nf_11_6 ft_11_6 fl_X11_27 dec_X11_steps.2.2.1.2.1 ?_
    refine V_iload_n dec_X11_steps.2.2.1.2.2 1 rfl ?_
    refine V_iload_n dec_X11_steps.2.2.2.1 2 rfl ?_
    refine V_callV0 (ci := 9) (a := (gR s4 x0 6)) (As := [(0, x1), (0, x2)]) (st := []) rfl rfl (X9_distance_s G l s4 (gR s4 x0 6) x1 x2) cal_X9_distance rfl ml_X11_268 rfl rfl dec_X11_steps.2.2.2.2.1 (k_tag (tag := 0) rfl fun r5 s6 => ?_)
    exact V_iret rfl dec_X11_steps.2.2.2.2.2
  · refine V_iconst dec_X11_steps.2.1.2.2.1 rfl ?_
    exact V_iret rfl dec_X11_steps.2.1.2.2.2
def X11_steps_b17 (s : St) (x0 x1 x2 k0 : Int) : Rs :=
  X11_steps_b22 s x0 x1 x2 1 k0
set_option maxRecDepth 100000 in
set_option maxHeartbeats 4000000 in
theorem X11_steps_b17_s (G : Gx) (l : Launch) (s : St) (x0 x1 x2 k0 : Int) : V G l mX11_steps 17 [(0, (2, x0)), (1, (0, x1)), (2, (0, x2))] [(2, k0)] s (X11_steps_b17 s x0 x1 x2 k0) := by
  unfold X11_steps_b17
  refine V_iconst dec_X11_steps.1.2.2.2.1 rfl ?_
  refine V_goto (tgt := 22) dec_X11_steps.1.2.2.2.2 (by decide) ?_
  exact V_pick [0, 1, 2] rfl (X11_steps_b22_s G l s x0 x1 x2 1 k0)
def X11_steps (s : St) (a0 a1 a2 : Int) : Rs :=
  grd (isK s 21 a0) (bnd (X11_isNoHouse s a0 a1) (fun r1 s2 => if ¬ r1 = 0 then (X11_steps_b17 s2 a0 a1 a2 a0) else (grd (isK s2 21 a0) (bnd (X11_isNoHouse s2 a0 a2) (fun r7 s8 => if r7 = 0 then (X11_steps_b22 s8 a0 a1 a2 0 a0) else (X11_steps_b17 s8 a0 a1 a2 a0))))))
set_option maxRecDepth 100000 in
set_option maxHeartbeats 4000000 in
theorem X11_steps_s (G : Gx) (l : Launch) (s : St) (a0 a1 a2 : Int) : Snd G l mX11_steps [(2, a0), (0, a1), (0, a2)] s (X11_steps s a0 a1 a2) := by
  refine Snd.of (by decide +kernel) rfl ?_
  show V G l mX11_steps 0 [(0, (2, a0)), (1, (0, a1)), (2, (0, a2))] [] s _
  unfold X11_steps
  refine V_aload_n dec_X11_steps.1.1.1.1 0 rfl ?_
  refine V_aload_n dec_X11_steps.1.1.1.2 0 rfl ?_
  refine V_iload_n dec_X11_steps.1.1.2.1 1 rfl ?_
  refine V_callV0 (ci := 11) (a := a0) (As := [(0, a1)]) (st := [(2, a0)]) rfl rfl (X11_isNoHouse_s G l s a0 a1) cal_X11_isNoHouse rfl ml_X11_175 rfl rfl dec_X11_steps.1.1.2.2.1 (k_tag (tag := 0) rfl fun r1 s2 => ?_)
  refine V_if_ne (tgt := 17) dec_X11_steps.1.1.2.2.2 (by decide) ?_ ?_
  · exact V_pick [0, 1, 2] rfl (X11_steps_b17_s G l s2 a0 a1 a2 a0)
  · refine V_aload_n dec_X11_steps.1.2.1.1 0 rfl ?_
    refine V_iload_n dec_X11_steps.1.2.1.2.1 2 rfl ?_
    refine V_callV0 (ci := 11) (a := a0) (As := [(0, a2)]) (st := [(2, a0)]) rfl rfl (X11_isNoHouse_s G l s2 a0 a2) cal_X11_isNoHouse rfl ml_X11_175 rfl rfl dec_X11_steps.1.2.1.2.2 (k_tag (tag := 0) rfl fun r7 s8 => ?_)
    refine V_if_eq (tgt := 21) dec_X11_steps.1.2.2.1 (by decide) ?_ ?_
    · refine V_iconst dec_X11_steps.2.1.1.1 rfl ?_
      exact V_pick [0, 1, 2] rfl (X11_steps_b22_s G l s8 a0 a1 a2 0 a0)
    · exact V_pick [0, 1, 2] rfl (X11_steps_b17_s G l s8 a0 a1 a2 a0)
theorem dec_X1_inAll : ((((decode cX1_inAll 0 = .ok (.aload_n 0, 1) ∧ (decode cX1_inAll 1 = .ok (.getfield 19, 3) ∧ decode cX1_inAll 4 = .ok (.ifCond .ne 7, 3))) ∧ (decode cX1_inAll 7 = .ok (.iconst 0, 1) ∧ (decode cX1_inAll 8 = .ok (.goto 4, 3) ∧ decode cX1_inAll 11 = .ok (.iconst (-1), 1)))) ∧ ((decode cX1_inAll 12 = .ok (.istore_n 1, 1) ∧ (decode cX1_inAll 13 = .ok (.iconst 0, 1) ∧ decode cX1_inAll 14 = .ok (.istore_n 2, 1))) ∧ (decode cX1_inAll 15 = .ok (.iload_n 2, 1) ∧ (decode cX1_inAll 16 = .ok (.aload_n 0, 1) ∧ decode cX1_inAll 17 = .ok (.getfield 19, 3))))) ∧ (((decode cX1_inAll 20 = .ok (.if_icmp .ge 18, 3) ∧ (decode cX1_inAll 23 = .ok (.iload_n 1, 1) ∧ decode cX1_inAll 24 = .ok (.aload_n 0, 1))) ∧ (decode cX1_inAll 25 = .ok (.getfield 9, 3) ∧ (decode cX1_inAll 28 = .ok (.iload_n 2, 1) ∧ decode cX1_inAll 29 = .ok (.iaload, 1)))) ∧ ((decode cX1_inAll 30 = .ok (.iand, 1) ∧ (decode cX1_inAll 31 = .ok (.istore_n 1, 1) ∧ decode cX1_inAll 32 = .ok (.iinc 2 1, 3))) ∧ (decode cX1_inAll 35 = .ok (.goto (-20), 3) ∧ (decode cX1_inAll 38 = .ok (.iload_n 1, 1) ∧ decode cX1_inAll 39 = .ok (.ireturn, 1)))))) := ⟨by decide +kernel, by decide +kernel⟩
def X1_inAll_b15_body (rk15 : St → Int → Int → Int → Rs) (s : St) (x0 x1 x2 : Int) : Rs :=
  grd (isK s 11 x0) (if (gI s x0 1) ≤ x2 then (some (x1, s)) else (grd (isK s 11 x0) (grd (isK s 1 (gR s x0 0) ∧ 0 ≤ x2 ∧ x2 < ln s (gR s x0 0)) (letv (and32 x1 (gI s (gR s x0 0) x2.toNat)) (fun y1 => rk15 s x0 y1 (w32 (x2 + 1)))))))
def X1_inAll_b15 (n : Nat) (s : St) (x0 x1 x2 : Int) : Rs := iter (fun (rec : St × Int × Int × Int → Rs) (a : St × Int × Int × Int) => X1_inAll_b15_body (fun (s : St) (x0 x1 x2 : Int) => rec (s, x0, x1, x2)) a.1 a.2.1 a.2.2.1 a.2.2.2) n (s, x0, x1, x2)
theorem X1_inAll_b15_0 (s : St) (x0 x1 x2 : Int) : X1_inAll_b15 0 s x0 x1 x2 = none := rfl
theorem X1_inAll_b15_1 (n : Nat) (s : St) (x0 x1 x2 : Int) : X1_inAll_b15 (n + 1) s x0 x1 x2 = X1_inAll_b15_body (X1_inAll_b15 n) s x0 x1 x2 := rfl
set_option maxRecDepth 100000 in
set_option maxHeartbeats 4000000 in
theorem X1_inAll_b15_body_s (G : Gx) (l : Launch) (rk15 : St → Int → Int → Int → Rs) (hk15 : ∀ (s : St) (x0 x1 x2 : Int), V G l mX1_inAll 15 [(0, (2, x0)), (1, (0, x1)), (2, (0, x2))] [] s (rk15 s x0 x1 x2)) (s : St) (x0 x1 x2 : Int) : V G l mX1_inAll 15 [(0, (2, x0)), (1, (0, x1)), (2, (0, x2))] [] s (X1_inAll_b15_body rk15 s x0 x1 x2) := by
  unfold X1_inAll_b15_body
  refine V_iload_n dec_X1_inAll.1.2.2.1 2 rfl ?_
  refine V_aload_n dec_X1_inAll.1.2.2.2.1 0 rfl ?_
  refine V_getI 1 1 nf_1_1 ft_1_1 fl_X1_19 dec_X1_inAll.1.2.2.2.2 ?_
  refine V_icmp_ge (tgt := 38) dec_X1_inAll.2.1.1.1 (by decide) ?_ ?_
  · refine V_iload_n dec_X1_inAll.2.2.2.2.1 1 rfl ?_
    exact V_iret rfl dec_X1_inAll.2.2.2.2.2
  · refine V_iload_n dec_X1_inAll.2.1.1.2.1 1 rfl ?_
    refine V_aload_n dec_X1_inAll.2.1.1.2.2 0 rfl ?_
    refine V_getR 1 0 nf_1_0 ft_1_0 fl_X1_9 dec_X1_inAll.2.1.2.1 ?_
    refine V_iload_n dec_X1_inAll.2.1.2.2.1 2 rfl ?_
    refine V_iald dec_X1_inAll.2.1.2.2.2 ?_
    refine V_iand dec_X1_inAll.2.2.1.1 ?_
    refine V_letv fun y1 => ?_
    refine V_istore_n (lv' := [(1, (0, y1)), (0, (2, x0)), (2, (0, x2))]) dec_X1_inAll.2.2.1.2.1 (by decide) rfl ?_
    refine V_iinc (lv' := [(2, (0, (w32 (x2 + 1)))), (1, (0, y1)), (0, (2, x0))]) dec_X1_inAll.2.2.1.2.2 2 rfl (by decide) rfl ?_
    refine V_goto (tgt := 15) dec_X1_inAll.2.2.2.1 (by decide) ?_
    exact V_pick [2, 1, 0] rfl (hk15 s x0 y1 (w32 (x2 + 1)))
theorem X1_inAll_b15_s (G : Gx) (l : Launch) (n : Nat) (s : St) (x0 x1 x2 : Int) : V G l mX1_inAll 15 [(0, (2, x0)), (1, (0, x1)), (2, (0, x2))] [] s (X1_inAll_b15 n s x0 x1 x2) :=
  V_iter (LV := fun a : St × Int × Int × Int => [(0, (2, a.2.1)), (1, (0, a.2.2.1)), (2, (0, a.2.2.2))]) (ST := fun a : St × Int × Int × Int => []) (SS := fun a : St × Int × Int × Int => a.1) (fun rec hrec a => X1_inAll_b15_body_s G l (fun (s : St) (x0 x1 x2 : Int) => rec (s, x0, x1, x2)) (fun (s : St) (x0 x1 x2 : Int) => hrec (s, x0, x1, x2)) a.1 a.2.1 a.2.2.1 a.2.2.2) n (s, x0, x1, x2)
def X1_inAll_b12 (s : St) (x0 k0 : Int) : Rs :=
  X1_inAll_b15 FU s x0 k0 0
set_option maxRecDepth 100000 in
set_option maxHeartbeats 4000000 in
theorem X1_inAll_b12_s (G : Gx) (l : Launch) (s : St) (x0 k0 : Int) : V G l mX1_inAll 12 [(0, (2, x0))] [(0, k0)] s (X1_inAll_b12 s x0 k0) := by
  unfold X1_inAll_b12
  refine V_istore_n (lv' := [(1, (0, k0)), (0, (2, x0))]) dec_X1_inAll.1.2.1.1 (by decide) rfl ?_
  refine V_iconst dec_X1_inAll.1.2.1.2.1 rfl ?_
  refine V_istore_n (lv' := [(2, (0, 0)), (1, (0, k0)), (0, (2, x0))]) dec_X1_inAll.1.2.1.2.2 (by decide) rfl ?_
  exact V_pick [2, 1, 0] rfl (X1_inAll_b15_s G l FU s x0 k0 0)
def X1_inAll (s : St) (a0 : Int) : Rs :=
  grd (isK s 11 a0) (if ¬ (gI s a0 1) = 0 then (X1_inAll_b12 s a0 (-1)) else (X1_inAll_b12 s a0 0))
set_option maxRecDepth 100000 in
set_option maxHeartbeats 4000000 in
theorem X1_inAll_s (G : Gx) (l : Launch) (s : St) (a0 : Int) : Snd G l mX1_inAll [(2, a0)] s (X1_inAll s a0) := by
  refine Snd.of (by decide +kernel) rfl ?_
  show V G l mX1_inAll 0 [(0, (2, a0))] [] s _
  unfold X1_inAll
  refine V_aload_n dec_X1_inAll.1.1.1.1 0 rfl ?_
  refine V_getI 1 1 nf_1_1 ft_1_1 fl_X1_19 dec_X1_inAll.1.1.1.2.1 ?_
  refine V_if_ne (tgt := 11) dec_X1_inAll.1.1.1.2.2 (by decide) ?_ ?_
  · refine V_iconst dec_X1_inAll.1.1.2.2.2 rfl ?_
    exact V_pick [0] rfl (X1_inAll_b12_s G l s a0 (-1))
  · refine V_iconst dec_X1_inAll.1.1.2.1 rfl ?_
    refine V_goto (tgt := 12) dec_X1_inAll.1.1.2.2.1 (by decide) ?_
    exact V_pick [0] rfl (X1_inAll_b12_s G l s a0 0)
theorem dec_X11_surely : (((decode cX11_surely 0 = .ok (.aload_n 0, 1) ∧ (decode cX11_surely 1 = .ok (.aload_n 0, 1) ∧ decode cX11_surely 2 = .ok (.invokevirtual 203, 3))) ∧ (decode cX11_surely 5 = .ok (.iconst 0, 1) ∧ (decode cX11_surely 6 = .ok (.invokevirtual 92, 3) ∧ decode cX11_surely 9 = .ok (.ifCond .eq 5, 3)))) ∧ ((decode cX11_surely 12 = .ok (.iconst (-1), 1) ∧ (decode cX11_surely 13 = .ok (.ireturn, 1) ∧ decode cX11_surely 14 = .ok (.aload_n 0, 1))) ∧ (decode cX11_surely 15 = .ok (.getfield 60, 3) ∧ (decode cX11_surely 18 = .ok (.invokevirtual 284, 3) ∧ decode cX11_surely 21 = .ok (.ireturn, 1))))) := by decide +kernel
def X11_surely (s : St) (a0 : Int) : Rs :=
  grd (isK s 21 a0) (bnd (X11_isNoTown s a0) (fun r1 s2 => grd (isK s2 21 a0) (bnd (X11_refused s2 a0 r1 0) (fun r3 s4 => if r3 = 0 then (grd (isK s4 21 a0) (grd (isK s4 11 (gR s4 a0 11)) (bnd (X1_inAll s4 (gR s4 a0 11)) (fun r5 s6 => some (r5, s6))))) else (some ((-1), s4))))))
set_option maxRecDepth 100000 in
set_option maxHeartbeats 4000000 in
theorem X11_surely_s (G : Gx) (l : Launch) (s : St) (a0 : Int) : Snd G l mX11_surely [(2, a0)] s (X11_surely s a0) := by
  refine Snd.of (by decide +kernel) rfl ?_
  show V G l mX11_surely 0 [(0, (2, a0))] [] s _
  unfold X11_surely
  refine V_aload_n dec_X11_surely.1.1.1 0 rfl ?_
  refine V_aload_n dec_X11_surely.1.1.2.1 0 rfl ?_
  refine V_callV0 (ci := 11) (a := a0) (As := []) (st := [(2, a0)]) rfl rfl (X11_isNoTown_s G l s a0) cal_X11_isNoTown rfl ml_X11_203 rfl rfl dec_X11_surely.1.1.2.2 (k_tag (tag := 0) rfl fun r1 s2 => ?_)
  refine V_iconst dec_X11_surely.1.2.1 rfl ?_
  refine V_callV0 (ci := 11) (a := a0) (As := [(0, r1), (0, 0)]) (st := []) rfl rfl (X11_refused_s G l s2 a0 r1 0) cal_X11_refused rfl ml_X11_92 rfl rfl dec_X11_surely.1.2.2.1 (k_tag (tag := 0) rfl fun r3 s4 => ?_)
  refine V_if_eq (tgt := 14) dec_X11_surely.1.2.2.2 (by decide) ?_ ?_
  · refine V_aload_n dec_X11_surely.2.1.2.2 0 rfl ?_
    refine V_getR 11 11 nf_11_11 ft_11_11 fl_X11_60 dec_X11_surely.2.2.1 ?_
    refine V_callV0 (ci := 1) (a := (gR s4 a0 11)) (As := []) (st := []) rfl rfl (X1_inAll_s G l s4 (gR s4 a0 11)) cal_X1_inAll rfl ml_X11_284 rfl rfl dec_X11_surely.2.2.2.1 (k_tag (tag := 0) rfl fun r5 s6 => ?_)
    exact V_iret rfl dec_X11_surely.2.2.2.2
  · refine V_iconst dec_X11_surely.2.1.1 rfl ?_
    exact V_iret rfl dec_X11_surely.2.1.2.1
theorem dec_X11_take : (((decode cX11_take 0 = .ok (.aload_n 0, 1) ∧ (decode cX11_take 1 = .ok (.aload_n 0, 1) ∧ decode cX11_take 2 = .ok (.iload_n 1, 1))) ∧ ((decode cX11_take 3 = .ok (.invokevirtual 160, 3) ∧ decode cX11_take 6 = .ok (.iconst 0, 1)) ∧ (decode cX11_take 7 = .ok (.invokevirtual 92, 3) ∧ decode cX11_take 10 = .ok (.ifCond .eq 5, 3)))) ∧ ((decode cX11_take 13 = .ok (.iconst 0, 1) ∧ (decode cX11_take 14 = .ok (.ireturn, 1) ∧ decode cX11_take 15 = .ok (.aload_n 0, 1))) ∧ ((decode cX11_take 16 = .ok (.iload_n 1, 1) ∧ decode cX11_take 17 = .ok (.bipush (-2), 2)) ∧ (decode cX11_take 19 = .ok (.invokevirtual 351, 3) ∧ decode cX11_take 22 = .ok (.ireturn, 1))))) := ⟨by decide +kernel, by decide +kernel⟩
def X11_take (s : St) (a0 a1 : Int) : Rs :=
  grd (isK s 21 a0) (bnd (X11_isNoDead s a0 a1) (fun r1 s2 => grd (isK s2 21 a0) (bnd (X11_refused s2 a0 r1 0) (fun r3 s4 => if r3 = 0 then (grd (isK s4 21 a0) (bnd (X11_changeMirror s4 a0 a1 (-2)) (fun r5 s6 => grd (r5 = 0 ∨ r5 = 1) (some (r5, s6))))) else (grd ((0 : Int) = 0 ∨ (0 : Int) = 1) (some (0, s4)))))))
set_option maxRecDepth 100000 in
set_option maxHeartbeats 4000000 in
theorem X11_take_s (G : Gx) (l : Launch) (s : St) (a0 a1 : Int) : Snd G l mX11_take [(2, a0), (0, a1)] s (X11_take s a0 a1) := by
  refine Snd.of (by decide +kernel) rfl ?_
  show V G l mX11_take 0 [(0, (2, a0)), (1, (0, a1))] [] s _
  unfold X11_take
  refine V_aload_n dec_X11_take.1.1.1 0 rfl ?_
  refine V_aload_n dec_X11_take.1.1.2.1 0 rfl ?_
  refine V_iload_n dec_X11_take.1.1.2.2 1 rfl ?_
  refine V_callV0 (ci := 11) (a := a0) (As := [(0, a1)]) (st := [(2, a0)]) rfl rfl (X11_isNoDead_s G l s a0 a1) cal_X11_isNoDead rfl ml_X11_160 rfl rfl dec_X11_take.1.2.1.1 (k_tag (tag := 0) rfl fun r1 s2 => ?_)
  refine V_iconst dec_X11_take.1.2.1.2 rfl ?_
  refine V_callV0 (ci := 11) (a := a0) (As := [(0, r1), (0, 0)]) (st := []) rfl rfl (X11_refused_s G l s2 a0 r1 0) cal_X11_refused rfl ml_X11_92 rfl rfl dec_X11_take.1.2.2.1 (k_tag (tag := 0) rfl fun r3 s4 => ?_)
  refine V_if_eq (tgt := 15) dec_X11_take.1.2.2.2 (by decide) ?_ ?_
  · refine V_aload_n dec_X11_take.2.1.2.2 0 rfl ?_
    refine V_iload_n dec_X11_take.2.2.1.1 1 rfl ?_
    refine V_bipush dec_X11_take.2.2.1.2 rfl ?_
    refine V_callV0 (ci := 11) (a := a0) (As := [(0, a1), (0, (-2))]) (st := []) rfl rfl (X11_changeMirror_s G l s4 a0 a1 (-2)) cal_X11_changeMirror rfl ml_X11_351 rfl rfl dec_X11_take.2.2.2.1 (k_tag (tag := 0) rfl fun r5 s6 => ?_)
    exact V_zret rfl dec_X11_take.2.2.2.2
  · refine V_iconst dec_X11_take.2.1.1 rfl ?_
    exact V_zret rfl dec_X11_take.2.1.2.1
theorem dec_X11_teach : (((((decode cX11_teach 0 = .ok (.aload_n 0, 1) ∧ decode cX11_teach 1 = .ok (.aload_n 0, 1)) ∧ (decode cX11_teach 2 = .ok (.iload_n 1, 1) ∧ (decode cX11_teach 3 = .ok (.invokevirtual 160, 3) ∧ decode cX11_teach 6 = .ok (.iload_n 2, 1)))) ∧ ((decode cX11_teach 7 = .ok (.ifCond .lt 9, 3) ∧ (decode cX11_teach 10 = .ok (.iload_n 2, 1) ∧ decode cX11_teach 11 = .ok (.bipush 39, 2))) ∧ (decode cX11_teach 13 = .ok (.if_icmp .le 7, 3) ∧ (decode cX11_teach 16 = .ok (.iconst 1, 1) ∧ decode cX11_teach 17 = .ok (.goto 4, 3))))) ∧ (((decode cX11_teach 20 = .ok (.iconst 0, 1) ∧ (decode cX11_teach 21 = .ok (.invokevirtual 92, 3) ∧ decode cX11_teach 24 = .ok (.ifCond .eq 5, 3))) ∧ (decode cX11_teach 27 = .ok (.iconst 0, 1) ∧ (decode cX11_teach 28 = .ok (.ireturn, 1) ∧ decode cX11_teach 29 = .ok (.aload_n 0, 1)))) ∧ ((decode cX11_teach 30 = .ok (.getfield 36, 3) ∧ (decode cX11_teach 33 = .ok (.getfield 143, 3) ∧ decode cX11_teach 36 = .ok (.getfield 166, 3))) ∧ (decode cX11_teach 39 = .ok (.iload_n 1, 1) ∧ (decode cX11_teach 40 = .ok (.iaload, 1) ∧ decode cX11_teach 41 = .ok (.istore_n 3, 1)))))) ∧ ((((decode cX11_teach 42 = .ok (.iload_n 3, 1) ∧ decode cX11_teach 43 = .ok (.iload_n 2, 1)) ∧ (decode cX11_teach 44 = .ok (.if_icmp .ne 10, 3) ∧ (decode cX11_teach 47 = .ok (.aload_n 0, 1) ∧ decode cX11_teach 48 = .ok (.iconst 5, 1)))) ∧ ((decode cX11_teach 49 = .ok (.putfield 136, 3) ∧ (decode cX11_teach 52 = .ok (.iconst 0, 1) ∧ decode cX11_teach 53 = .ok (.ireturn, 1))) ∧ (decode cX11_teach 54 = .ok (.aload_n 0, 1) ∧ (decode cX11_teach 55 = .ok (.getfield 74, 3) ∧ decode cX11_teach 58 = .ok (.iconst 3, 1))))) ∧ (((decode cX11_teach 59 = .ok (.iload_n 1, 1) ∧ (decode cX11_teach 60 = .ok (.iload_n 3, 1) ∧ decode cX11_teach 61 = .ok (.invokevirtual 347, 3))) ∧ (decode cX11_teach 64 = .ok (.aload_n 0, 1) ∧ (decode cX11_teach 65 = .ok (.getfield 36, 3) ∧ decode cX11_teach 68 = .ok (.getfield 143, 3)))) ∧ ((decode cX11_teach 71 = .ok (.getfield 166, 3) ∧ (decode cX11_teach 74 = .ok (.iload_n 1, 1) ∧ decode cX11_teach 75 = .ok (.iload_n 2, 1))) ∧ (decode cX11_teach 76 = .ok (.iastore, 1) ∧ (decode cX11_teach 77 = .ok (.iconst 1, 1) ∧ decode cX11_teach 78 = .ok (.ireturn, 1))))))) := ⟨⟨by decide +kernel, by decide +kernel⟩, ⟨by decide +kernel, by decide +kernel⟩⟩
def X11_teach_b21 (s : St) (x0 x1 x2 k0 k1 k2 : Int) : Rs :=
  grd (isK s 21 k2) (bnd (X11_refused s k2 k1 k0) (fun r3 s4 => if r3 = 0 then (grd (isK s4 21 x0) (grd (isK s4 20 (gR s4 x0 7)) (grd (isK s4 16 (gR s4 (gR s4 x0 7) 1)) (grd (isK s4 1 (gR s4 (gR s4 (gR s4 x0 7) 1) 2) ∧ 0 ≤ x1 ∧ x1 < ln s4 (gR s4 (gR s4 (gR s4 x0 7) 1) 2)) (letv (gI s4 (gR s4 (gR s4 (gR s4 x0 7) 1) 2) x1.toNat) (fun y5 => if ¬ y5 = x2 then (grd (isK s4 21 x0) (grd (isK s4 13 (gR s4 x0 13)) (bnd (X3_keep s4 (gR s4 x0 13) 3 x1 y5) (fun r6 s7 => grd (isK s7 21 x0) (grd (isK s7 20 (gR s7 x0 7)) (grd (isK s7 16 (gR s7 (gR s7 x0 7) 1)) (grd (isK s7 1 (gR s7 (gR s7 (gR s7 x0 7) 1) 2) ∧ 0 ≤ x1 ∧ x1 < ln s7 (gR s7 (gR s7 (gR s7 x0 7) 1) 2)) (lets (pI s7 (gR s7 (gR s7 (gR s7 x0 7) 1) 2) x1.toNat x2) (fun s8 => grd ((1 : Int) = 0 ∨ (1 : Int) = 1) (some (1, s8))))))))))) else (grd (isK s4 21 x0) (lets (pI s4 x0 2 5) (fun s9 => grd ((0 : Int) = 0 ∨ (0 : Int) = 1) (some (0, s9))))))))))) else (grd ((0 : Int) = 0 ∨ (0 : Int) = 1) (some (0, s4)))))
set_option maxRecDepth 100000 in
set_option maxHeartbeats 4000000 in
theorem X11_teach_b21_s (G : Gx) (l : Launch) (s : St) (x0 x1 x2 k0 k1 k2 : Int) : V G l mX11_teach 21 [(0, (2, x0)), (1, (0, x1)), (2, (0, x2))] [(0, k0), (0, k1), (2, k2)] s (X11_teach_b21 s x0 x1 x2 k0 k1 k2) := by
  unfold X11_teach_b21
  refine V_callV0 (ci := 11) (a := k2) (As := [(0, k1), (0, k0)]) (st := []) rfl rfl (X11_refused_s G l s k2 k1 k0) cal_X11_refused rfl ml_X11_92 rfl rfl dec_X11_teach.1.2.1.1.2.1 (k_tag (tag := 0) rfl fun r3 s4 => ?_)
  refine V_if_eq (tgt := 29) dec_X11_teach.1.2.1.1.2.2 (by decide) ?_ ?_
  · refine V_aload_n dec_X11_teach.1.2.1.2.2.2 0 rfl ?_
    refine V_getR 11 7 nf_11_7 ft_11_7 fl_X11_36 dec_X11_teach.1.2.2.1.1 ?_
    refine V_getR 10 1 nf_10_1 ft_10_1 fl_X11_143 dec_X11_teach.1.2.2.1.2.1 ?_
    refine V_getR 6 2 nf_6_2 ft_6_2 fl_X11_166 dec_X11_teach.1.2.2.1.2.2 ?_
    refine V_iload_n dec_X11_teach.1.2.2.2.1 1 rfl ?_
    refine V_iald dec_X11_teach.1.2.2.2.2.1 ?_
    refine V_letv fun y5 => ?_
    refine V_istore_n (lv' := [(3, (0, y5)), (0, (2, x0)), (1, (0, x1)), (2, (0, x2))]) dec_X11_teach.1.2.2.2.2.2 (by decide) rfl ?_
    refine V_iload_n dec_X11_teach.2.1.1.1.1 0 rfl ?_
    refine V_iload_n dec_X11_teach.2.1.1.1.2 3 rfl ?_
    refine V_icmp_ne (tgt := 54) dec_X11_teach.2.1.1.2.1 (by decide) ?_ ?_
    · refine V_aload_n dec_X11_teach.2.1.2.2.1 1 rfl ?_
      refine V_getR 11 13 nf_11_13 ft_11_13 fl_X11_74 dec_X11_teach.2.1.2.2.2.1 ?_
      refine V_iconst dec_X11_teach.2.1.2.2.2.2 rfl ?_
      refine V_iload_n dec_X11_teach.2.2.1.1.1 2 rfl ?_
      refine V_iload_n dec_X11_teach.2.2.1.1.2.1 0 rfl ?_
      refine V_callV0 (ci := 3) (a := (gR s4 x0 13)) (As := [(0, 3), (0, x1), (0, y5)]) (st := []) rfl rfl (X3_keep_s G l s4 (gR s4 x0 13) 3 x1 y5) cal_X3_keep rfl ml_X11_347 rfl rfl dec_X11_teach.2.2.1.1.2.2 (k_void rfl fun r6 s7 => ?_)
      refine V_aload_n dec_X11_teach.2.2.1.2.1 1 rfl ?_
      refine V_getR 11 7 nf_11_7 ft_11_7 fl_X11_36 dec_X11_teach.2.2.1.2.2.1 ?_
      refine V_getR 10 1 nf_10_1 ft_10_1 fl_X11_143 dec_X11_teach.2.2.1.2.2.2 ?_
      refine V_getR 6 2 nf_6_2 ft_6_2 fl_X11_166 dec_X11_teach.2.2.2.1.1 ?_
      refine V_iload_n dec_X11_teach.2.2.2.1.2.1 2 rfl ?_
      refine V_iload_n dec_X11_teach.2.2.2.1.2.2 3 rfl ?_
      refine V_iast dec_X11_teach.2.2.2.2.1 ?_
      refine V_lets fun s8 => ?_
      refine V_iconst dec_X11_teach.2.2.2.2.2.1 rfl ?_
      exact V_zret rfl dec_X11_teach.2.2.2.2.2.2
    · refine V_aload_n dec_X11_teach.2.1.1.2.2.1 1 rfl ?_
      refine V_iconst dec_X11_teach.2.1.1.2.2.2 rfl ?_
      refine V_putI (host := "") 11 2 nf_11_2 ty_11_2 (Or.inl ⟨fl_X11_136, Or.inl rfl⟩) dec_X11_teach.2.1.2.1.1 ?_
      refine V_lets fun s9 => ?_
      refine V_iconst dec_X11_teach.2.1.2.1.2.1 rfl ?_
      exact V_zret rfl dec_X11_teach.2.1.2.1.2.2
  · refine V_iconst dec_X11_teach.1.2.1.2.1 rfl ?_
    exact V_zret rfl dec_X11_teach.1.2.1.2.2.1
def X11_teach_b16 (s : St) (x0 x1 x2 k0 k1 : Int) : Rs :=
  X11_teach_b21 s x0 x1 x2 1 k0 k1
set_option maxRecDepth 100000 in
set_option maxHeartbeats 4000000 in
theorem X11_teach_b16_s (G : Gx) (l : Launch) (s : St) (x0 x1 x2 k0 k1 : Int) : V G l mX11_teach 16 [(0, (2, x0)), (1, (0, x1)), (2, (0, x2))] [(0, k0), (2, k1)] s (X11_teach_b16 s x0 x1 x2 k0 k1) := by
  unfold X11_teach_b16
  refine V_iconst dec_X11_teach.1.1.2.2.2.1 rfl ?_
  refine V_goto (tgt := 21) dec_X11_teach.1.1.2.2.2.2 (by decide) ?_
  exact V_pick [0, 1, 2] rfl (X11_teach_b21_s G l s x0 x1 x2 1 k0 k1)
def X11_teach (s : St) (a0 a1 a2 : Int) : Rs :=
  grd (isK s 21 a0) (bnd (X11_isNoDead s a0 a1) (fun r1 s2 => if a2 < 0 then (X11_teach_b16 s2 a0 a1 a2 r1 a0) else (if a2 ≤ (39 : Int) then (X11_teach_b21 s2 a0 a1 a2 0 r1 a0) else (X11_teach_b16 s2 a0 a1 a2 r1 a0))))
set_option maxRecDepth 100000 in
set_option maxHeartbeats 4000000 in
theorem X11_teach_s (G : Gx) (l : Launch) (s : St) (a0 a1 a2 : Int) : Snd G l mX11_teach [(2, a0), (0, a1), (0, a2)] s (X11_teach s a0 a1 a2) := by
  refine Snd.of (by decide +kernel) rfl ?_
  show V G l mX11_teach 0 [(0, (2, a0)), (1, (0, a1)), (2, (0, a2))] [] s _
  unfold X11_teach
  refine V_aload_n dec_X11_teach.1.1.1.1.1 0 rfl ?_
  refine V_aload_n dec_X11_teach.1.1.1.1.2 0 rfl ?_
  refine V_iload_n dec_X11_teach.1.1.1.2.1 1 rfl ?_
  refine V_callV0 (ci := 11) (a := a0) (As := [(0, a1)]) (st := [(2, a0)]) rfl rfl (X11_isNoDead_s G l s a0 a1) cal_X11_isNoDead rfl ml_X11_160 rfl rfl dec_X11_teach.1.1.1.2.2.1 (k_tag (tag := 0) rfl fun r1 s2 => ?_)
  refine V_iload_n dec_X11_teach.1.1.1.2.2.2 2 rfl ?_
  refine V_if_lt (tgt := 16) dec_X11_teach.1.1.2.1.1 (by decide) ?_ ?_
  · exact V_pick [0, 1, 2] rfl (X11_teach_b16_s G l s2 a0 a1 a2 r1 a0)
  · refine V_iload_n dec_X11_teach.1.1.2.1.2.1 2 rfl ?_
    refine V_bipush dec_X11_teach.1.1.2.1.2.2 rfl ?_
    refine V_icmp_le (tgt := 20) dec_X11_teach.1.1.2.2.1 (by decide) ?_ ?_
    · refine V_iconst dec_X11_teach.1.2.1.1.1 rfl ?_
      exact V_pick [0, 1, 2] rfl (X11_teach_b21_s G l s2 a0 a1 a2 0 r1 a0)
    · exact V_pick [0, 1, 2] rfl (X11_teach_b16_s G l s2 a0 a1 a2 r1 a0)
theorem dec_X11_together : (((((decode cX11_together 0 = .ok (.aload_n 0, 1) ∧ decode cX11_together 1 = .ok (.aload_n 0, 1)) ∧ (decode cX11_together 2 = .ok (.iload_n 1, 1) ∧ (decode cX11_together 3 = .ok (.invokevirtual 160, 3) ∧ decode cX11_together 6 = .ok (.ifCond .ne 16, 3)))) ∧ ((decode cX11_together 9 = .ok (.aload_n 0, 1) ∧ decode cX11_together 10 = .ok (.iload_n 2, 1)) ∧ (decode cX11_together 11 = .ok (.invokevirtual 160, 3) ∧ (decode cX11_together 14 = .ok (.ifCond .ne 8, 3) ∧ decode cX11_together 17 = .ok (.iload_n 1, 1))))) ∧ (((decode cX11_together 18 = .ok (.iload_n 2, 1) ∧ decode cX11_together 19 = .ok (.if_icmp .ne 7, 3)) ∧ (decode cX11_together 22 = .ok (.iconst 1, 1) ∧ (decode cX11_together 23 = .ok (.goto 4, 3) ∧ decode cX11_together 26 = .ok (.iconst 0, 1)))) ∧ ((decode cX11_together 27 = .ok (.iconst 0, 1) ∧ (decode cX11_together 28 = .ok (.invokevirtual 92, 3) ∧ decode cX11_together 31 = .ok (.ifCond .eq 5, 3))) ∧ (decode cX11_together 34 = .ok (.iconst (-1), 1) ∧ (decode cX11_together 35 = .ok (.ireturn, 1) ∧ decode cX11_together 36 = .ok (.iconst 0, 1)))))) ∧ ((((decode cX11_together 37 = .ok (.istore_n 3, 1) ∧ decode cX11_together 38 = .ok (.iload_n 3, 1)) ∧ (decode cX11_together 39 = .ok (.bipush 99, 2) ∧ (decode cX11_together 41 = .ok (.if_icmp .gt 32, 3) ∧ decode cX11_together 44 = .ok (.aload_n 0, 1)))) ∧ ((decode cX11_together 45 = .ok (.getfield 36, 3) ∧ decode cX11_together 48 = .ok (.iload_n 1, 1)) ∧ (decode cX11_together 49 = .ok (.iload_n 3, 1) ∧ (decode cX11_together 50 = .ok (.invokevirtual 197, 3) ∧ decode cX11_together 53 = .ok (.aload_n 0, 1))))) ∧ (((decode cX11_together 54 = .ok (.getfield 36, 3) ∧ decode cX11_together 57 = .ok (.iload_n 2, 1)) ∧ (decode cX11_together 58 = .ok (.iload_n 3, 1) ∧ (decode cX11_together 59 = .ok (.invokevirtual 197, 3) ∧ decode cX11_together 62 = .ok (.if_icmp .ne 5, 3)))) ∧ ((decode cX11_together 65 = .ok (.iload_n 3, 1) ∧ (decode cX11_together 66 = .ok (.ireturn, 1) ∧ decode cX11_together 67 = .ok (.iinc 3 1, 3))) ∧ (decode cX11_together 70 = .ok (.goto (-32), 3) ∧ (decode cX11_together 73 = .ok (.bipush (-2), 2) ∧ decode cX11_together 75 = .ok (.ireturn, 1))))))) := ⟨⟨by decide +kernel, by decide +kernel⟩, ⟨by decide +kernel, by decide +kernel⟩⟩
def X11_together_b38_body (rk38 : St → Int → Int → Int → Int → Rs) (s : St) (x0 x1 x2 x3 : Int) : Rs :=
  if (99 : Int) < x3 then (some ((-2), s)) else (grd (isK s 21 x0) (grd (isK s 20 (gR s x0 7)) (bnd (X10_listener s (gR s x0 7) x1 x3) (fun r5 s6 => grd (isK s6 21 x0) (grd (isK s6 20 (gR s6 x0 7)) (bnd (X10_listener s6 (gR s6 x0 7) x2 x3) (fun r7 s8 => if ¬ r5 = r7 then (rk38 s8 x0 x1 x2 (w32 (x3 + 1))) else (some (x3, s8)))))))))
def X11_together_b38 (n : Nat) (s : St) (x0 x1 x2 x3 : Int) : Rs := iter (fun (rec : St × Int × Int × Int × Int → Rs) (a : St × Int × Int × Int × Int) => X11_together_b38_body (fun (s : St) (x0 x1 x2 x3 : Int) => rec (s, x0, x1, x2, x3)) a.1 a.2.1 a.2.2.1 a.2.2.2.1 a.2.2.2.2) n (s, x0, x1, x2, x3)
theorem X11_together_b38_0 (s : St) (x0 x1 x2 x3 : Int) : X11_together_b38 0 s x0 x1 x2 x3 = none := rfl
theorem X11_together_b38_1 (n : Nat) (s : St) (x0 x1 x2 x3 : Int) : X11_together_b38 (n + 1) s x0 x1 x2 x3 = X11_together_b38_body (X11_together_b38 n) s x0 x1 x2 x3 := rfl
set_option maxRecDepth 100000 in
set_option maxHeartbeats 4000000 in
theorem X11_together_b38_body_s (G : Gx) (l : Launch) (rk38 : St → Int → Int → Int → Int → Rs) (hk38 : ∀ (s : St) (x0 x1 x2 x3 : Int), V G l mX11_together 38 [(0, (2, x0)), (1, (0, x1)), (2, (0, x2)), (3, (0, x3))] [] s (rk38 s x0 x1 x2 x3)) (s : St) (x0 x1 x2 x3 : Int) : V G l mX11_together 38 [(0, (2, x0)), (1, (0, x1)), (2, (0, x2)), (3, (0, x3))] [] s (X11_together_b38_body rk38 s x0 x1 x2 x3) := by
  unfold X11_together_b38_body
  refine V_iload_n dec_X11_together.2.1.1.1.2 3 rfl ?_
  refine V_bipush dec_X11_together.2.1.1.2.1 rfl ?_
  refine V_icmp_gt (tgt := 73) dec_X11_together.2.1.1.2.2.1 (by decide) ?_ ?_
  · refine V_bipush dec_X11_together.2.2.2.2.2.1 rfl ?_
    exact V_iret rfl dec_X11_together.2.2.2.2.2.2
  · refine V_aload_n dec_X11_together.2.1.1.2.2.2 0 rfl ?_
    refine V_getR 11 7 nf_11_7 ft_11_7 fl_X11_36 dec_X11_together.2.1.2.1.1 ?_
    refine V_iload_n dec_X11_together.2.1.2.1.2 1 rfl ?_
    refine V_iload_n dec_X11_together.2.1.2.2.1 3 rfl ?_
    refine V_callV0 (ci := 10) (a := (gR s x0 7)) (As := [(0, x1), (0, x3)]) (st := []) rfl rfl (X10_listener_s G l s (gR s x0 7) x1 x3) cal_X10_listener rfl ml_X11_197 rfl rfl dec_X11_together.2.1.2.2.2.1 (k_tag (tag := 0) rfl fun r5 s6 => ?_)
    refine V_aload_n dec_X11_together.2.1.2.2.2.2 0 rfl ?_
    refine V_getR 11 7 nf_11_7 ft_11_7 fl_X11_36 dec_X11_together.2.2.1.1.1 ?_
    refine V_iload_n dec_X11_together.2.2.1.1.2 2 rfl ?_
    refine V_iload_n dec_X11_together.2.2.1.2.1 3 rfl ?_
    refine V_callV0 (ci := 10) (a := (gR s6 x0 7)) (As := [(0, x2), (0, x3)]) (st := [(0, r5)]) rfl rfl (X10_listener_s G l s6 (gR s6 x0 7) x2 x3) cal_X10_listener rfl ml_X11_197 rfl rfl dec_X11_together.2.2.1.2.2.1 (k_tag (tag := 0) rfl fun r7 s8 => ?_)
    refine V_icmp_ne (tgt := 67) dec_X11_together.2.2.1.2.2.2 (by decide) ?_ ?_
    · refine V_iinc (lv' := [(3, (0, (w32 (x3 + 1)))), (0, (2, x0)), (1, (0, x1)), (2, (0, x2))]) dec_X11_together.2.2.2.1.2.2 3 rfl (by decide) rfl ?_
      refine V_goto (tgt := 38) dec_X11_together.2.2.2.2.1 (by decide) ?_
      exact V_pick [1, 2, 3, 0] rfl (hk38 s8 x0 x1 x2 (w32 (x3 + 1)))
    · refine V_iload_n dec_X11_together.2.2.2.1.1 3 rfl ?_
      exact V_iret rfl dec_X11_together.2.2.2.1.2.1
theorem X11_together_b38_s (G : Gx) (l : Launch) (n : Nat) (s : St) (x0 x1 x2 x3 : Int) : V G l mX11_together 38 [(0, (2, x0)), (1, (0, x1)), (2, (0, x2)), (3, (0, x3))] [] s (X11_together_b38 n s x0 x1 x2 x3) :=
  V_iter (LV := fun a : St × Int × Int × Int × Int => [(0, (2, a.2.1)), (1, (0, a.2.2.1)), (2, (0, a.2.2.2.1)), (3, (0, a.2.2.2.2))]) (ST := fun a : St × Int × Int × Int × Int => []) (SS := fun a : St × Int × Int × Int × Int => a.1) (fun rec hrec a => X11_together_b38_body_s G l (fun (s : St) (x0 x1 x2 x3 : Int) => rec (s, x0, x1, x2, x3)) (fun (s : St) (x0 x1 x2 x3 : Int) => hrec (s, x0, x1, x2, x3)) a.1 a.2.1 a.2.2.1 a.2.2.2.1 a.2.2.2.2) n (s, x0, x1, x2, x3)
def X11_together_b27 (s : St) (x0 x1 x2 k0 k1 : Int) : Rs :=
  grd (isK s 21 k1) (bnd (X11_refused s k1 k0 0) (fun r3 s4 => if r3 = 0 then (X11_together_b38 FU s4 x0 x1 x2 0) else (some ((-1), s4))))
set_option maxRecDepth 100000 in
set_option maxHeartbeats 4000000 in
theorem X11_together_b27_s (G : Gx) (l : Launch) (s : St) (x0 x1 x2 k0 k1 : Int) : V G l mX11_together 27 [(0, (2, x0)), (1, (0, x1)), (2, (0, x2))] [(0, k0), (2, k1)] s (X11_together_b27 s x0 x1 x2 k0 k1) := by
  unfold X11_together_b27
  refine V_iconst dec_X11_together.1.2.2.1.1 rfl ?_
  refine V_callV0 (ci := 11) (a := k1) (As := [(0, k0), (0, 0)]) (st := []) rfl rfl (X11_refused_s G l s k1 k0 0) cal_X11_refused rfl ml_X11_92 rfl rfl dec_X11_together.1.2.2.1.2.1 (k_tag (tag := 0) rfl fun r3 s4 => ?_)
  refine V_if_eq (tgt := 36) dec_X11_together.1.2.2.1.2.2 (by decide) ?_ ?_
  · refine V_iconst dec_X11_together.1.2.2.2.2.2 rfl ?_
    refine V_istore_n (lv' := [(3, (0, 0)), (0, (2, x0)), (1, (0, x1)), (2, (0, x2))]) dec_X11_together.2.1.1.1.1 (by decide) rfl ?_
    exact V_pick [1, 2, 3, 0] rfl (X11_together_b38_s G l FU s4 x0 x1 x2 0)
  · refine V_iconst dec_X11_together.1.2.2.2.1 rfl ?_
    exact V_iret rfl dec_X11_together.1.2.2.2.2.1
def X11_together_b22 (s : St) (x0 x1 x2 k0 : Int) : Rs :=
  X11_together_b27 s x0 x1 x2 1 k0
set_option maxRecDepth 100000 in
set_option maxHeartbeats 4000000 in
theorem X11_together_b22_s (G : Gx) (l : Launch) (s : St) (x0 x1 x2 k0 : Int) : V G l mX11_together 22 [(0, (2, x0)), (1, (0, x1)), (2, (0, x2))] [(2, k0)] s (X11_together_b22 s x0 x1 x2 k0) := by
  unfold X11_together_b22
  refine V_iconst dec_X11_together.1.2.1.2.1 rfl ?_
  refine V_goto (tgt := 27) dec_X11_together.1.2.1.2.2.1 (by decide) ?_
  exact V_pick [0, 1, 2] rfl (X11_together_b27_s G l s x0 x1 x2 1 k0)
def X11_together (s : St) (a0 a1 a2 : Int) : Rs :=
  grd (isK s 21 a0) (bnd (X11_isNoDead s a0 a1) (fun r1 s2 => if ¬ r1 = 0 then (X11_together_b22 s2 a0 a1 a2 a0) else (grd (isK s2 21 a0) (bnd (X11_isNoDead s2 a0 a2) (fun r9 s10 => if ¬ r9 = 0 then (X11_together_b22 s10 a0 a1 a2 a0) else (if ¬ a1 = a2 then (X11_together_b27 s10 a0 a1 a2 0 a0) else (X11_together_b22 s10 a0 a1 a2 a0)))))))
set_option maxRecDepth 100000 in
set_option maxHeartbeats 4000000 in
theorem X11_together_s (G : Gx) (l : Launch) (s : St) (a0 a1 a2 : Int) : Snd G l mX11_together [(2, a0), (0, a1), (0, a2)] s (X11_together s a0 a1 a2) := by
  refine Snd.of (by decide +kernel) rfl ?_
  show V G l mX11_together 0 [(0, (2, a0)), (1, (0, a1)), (2, (0, a2))] [] s _
  unfold X11_together
  refine V_aload_n dec_X11_together.1.1.1.1.1 0 rfl ?_
  refine V_aload_n dec_X11_together.1.1.1.1.2 0 rfl ?_
  refine V_iload_n dec_X11_together.1.1.1.2.1 1 rfl ?_
  refine V_callV0 (ci := 11) (a := a0) (As := [(0, a1)]) (st := [(2, a0)]) rfl rfl (X11_isNoDead_s G l s a0 a1) cal_X11_isNoDead rfl ml_X11_160 rfl rfl dec_X11_together.1.1.1.2.2.1 (k_tag (tag := 0) rfl fun r1 s2 => ?_)
  refine V_if_ne (tgt := 22) dec_X11_together.1.1.1.2.2.2 (by decide) ?_ ?_
  · exact V_pick [0, 1, 2] rfl (X11_together_b22_s G l s2 a0 a1 a2 a0)
  · refine V_aload_n dec_X11_together.1.1.2.1.1 0 rfl ?_
    refine V_iload_n dec_X11_together.1.1.2.1.2 2 rfl ?_
    refine V_callV0 (ci := 11) (a := a0) (As := [(0, a2)]) (st := [(2, a0)]) rfl rfl (X11_isNoDead_s G l s2 a0 a2) cal_X11_isNoDead rfl ml_X11_160 rfl rfl dec_X11_together.1.1.2.2.1 (k_tag (tag := 0) rfl fun r9 s10 => ?_)
    refine V_if_ne (tgt := 22) dec_X11_together.1.1.2.2.2.1 (by decide) ?_ ?_
    · exact V_pick [0, 1, 2] rfl (X11_together_b22_s G l s10 a0 a1 a2 a0)
    · refine V_iload_n dec_X11_together.1.1.2.2.2.2 1 rfl ?_
      refine V_iload_n dec_X11_together.1.2.1.1.1 2 rfl ?_
      refine V_icmp_ne (tgt := 26) dec_X11_together.1.2.1.1.2 (by decide) ?_ ?_
      · refine V_iconst dec_X11_together.1.2.1.2.2.2 rfl ?_
        exact V_pick [0, 1, 2] rfl (X11_together_b27_s G l s10 a0 a1 a2 0 a0)
      · exact V_pick [0, 1, 2] rfl (X11_together_b22_s G l s10 a0 a1 a2 a0)
theorem dec_X1_notSoBy : ((((decode cX1_notSoBy 0 = .ok (.iconst 0, 1) ∧ (decode cX1_notSoBy 1 = .ok (.istore_n 2, 1) ∧ decode cX1_notSoBy 2 = .ok (.iload_n 2, 1))) ∧ (decode cX1_notSoBy 3 = .ok (.aload_n 0, 1) ∧ (decode cX1_notSoBy 4 = .ok (.getfield 59, 3) ∧ decode cX1_notSoBy 7 = .ok (.if_icmp .ge 36, 3)))) ∧ ((decode cX1_notSoBy 10 = .ok (.aload_n 1, 1) ∧ (decode cX1_notSoBy 11 = .ok (.aload_n 0, 1) ∧ decode cX1_notSoBy 12 = .ok (.getfield 62, 3))) ∧ ((decode cX1_notSoBy 15 = .ok (.iload_n 2, 1) ∧ decode cX1_notSoBy 16 = .ok (.iaload, 1)) ∧ (decode cX1_notSoBy 17 = .ok (.aload_n 0, 1) ∧ decode cX1_notSoBy 18 = .ok (.getfield 65, 3))))) ∧ (((decode cX1_notSoBy 21 = .ok (.iload_n 2, 1) ∧ (decode cX1_notSoBy 22 = .ok (.iaload, 1) ∧ decode cX1_notSoBy 23 = .ok (.invokevirtual 68, 3))) ∧ ((decode cX1_notSoBy 26 = .ok (.aload_n 0, 1) ∧ decode cX1_notSoBy 27 = .ok (.getfield 72, 3)) ∧ (decode cX1_notSoBy 30 = .ok (.iload_n 2, 1) ∧ decode cX1_notSoBy 31 = .ok (.iaload, 1)))) ∧ ((decode cX1_notSoBy 32 = .ok (.if_icmp .eq 5, 3) ∧ (decode cX1_notSoBy 35 = .ok (.iload_n 2, 1) ∧ decode cX1_notSoBy 36 = .ok (.ireturn, 1))) ∧ ((decode cX1_notSoBy 37 = .ok (.iinc 2 1, 3) ∧ decode cX1_notSoBy 40 = .ok (.goto (-38), 3)) ∧ (decode cX1_notSoBy 43 = .ok (.bipush (-2), 2) ∧ decode cX1_notSoBy 45 = .ok (.ireturn, 1)))))) := ⟨⟨by decide +kernel, by decide +kernel⟩, ⟨by decide +kernel, by decide +kernel⟩⟩
def X1_notSoBy_b2_body (rk2 : St → Int → Int → Int → Rs) (s : St) (x0 x1 x2 : Int) : Rs :=
  grd (isK s 19 x0) (if (gI s x0 5) ≤ x2 then (some ((-2), s)) else (grd (isK s 19 x0) (grd (isK s 1 (gR s x0 12) ∧ 0 ≤ x2 ∧ x2 < ln s (gR s x0 12)) (grd (isK s 19 x0) (grd (isK s 1 (gR s x0 13) ∧ 0 ≤ x2 ∧ x2 < ln s (gR s x0 13)) (grd (isK s 20 x1) (bnd (X10_listener s x1 (gI s (gR s x0 12) x2.toNat) (gI s (gR s x0 13) x2.toNat)) (fun r1 s2 => grd (isK s2 19 x0) (grd (isK s2 1 (gR s2 x0 11) ∧ 0 ≤ x2 ∧ x2 < ln s2 (gR s2 x0 11)) (if r1 = (gI s2 (gR s2 x0 11) x2.toNat) then (rk2 s2 x0 x1 (w32 (x2 + 1))) else (some (x2, s2))))))))))))
def X1_notSoBy_b2 (n : Nat) (s : St) (x0 x1 x2 : Int) : Rs := iter (fun (rec : St × Int × Int × Int → Rs) (a : St × Int × Int × Int) => X1_notSoBy_b2_body (fun (s : St) (x0 x1 x2 : Int) => rec (s, x0, x1, x2)) a.1 a.2.1 a.2.2.1 a.2.2.2) n (s, x0, x1, x2)
theorem X1_notSoBy_b2_0 (s : St) (x0 x1 x2 : Int) : X1_notSoBy_b2 0 s x0 x1 x2 = none := rfl
theorem X1_notSoBy_b2_1 (n : Nat) (s : St) (x0 x1 x2 : Int) : X1_notSoBy_b2 (n + 1) s x0 x1 x2 = X1_notSoBy_b2_body (X1_notSoBy_b2 n) s x0 x1 x2 := rfl
set_option maxRecDepth 100000 in
set_option maxHeartbeats 4000000 in
theorem X1_notSoBy_b2_body_s (G : Gx) (l : Launch) (rk2 : St → Int → Int → Int → Rs) (hk2 : ∀ (s : St) (x0 x1 x2 : Int), V G l mX1_notSoBy 2 [(0, (2, x0)), (1, (2, x1)), (2, (0, x2))] [] s (rk2 s x0 x1 x2)) (s : St) (x0 x1 x2 : Int) : V G l mX1_notSoBy 2 [(0, (2, x0)), (1, (2, x1)), (2, (0, x2))] [] s (X1_notSoBy_b2_body rk2 s x0 x1 x2) := by
  unfold X1_notSoBy_b2_body
  refine V_iload_n dec_X1_notSoBy.1.1.1.2.2 2 rfl ?_
  refine V_aload_n dec_X1_notSoBy.1.1.2.1 0 rfl ?_
  refine V_getI 9 5 nf_9_5 ft_9_5 fl_X1_59 dec_X1_notSoBy.1.1.2.2.1 ?_
  refine V_icmp_ge (tgt := 43) dec_X1_notSoBy.1.1.2.2.2 (by decide) ?_ ?_
  · refine V_bipush dec_X1_notSoBy.2.2.2.2.1 rfl ?_
    exact V_iret rfl dec_X1_notSoBy.2.2.2.2.2
  · refine V_aload_n dec_X1_notSoBy.1.2.1.1 1 rfl ?_
    refine V_aload_n dec_X1_notSoBy.1.2.1.2.1 0 rfl ?_
    refine V_getR 9 12 nf_9_12 ft_9_12 fl_X1_62 dec_X1_notSoBy.1.2.1.2.2 ?_
    refine V_iload_n dec_X1_notSoBy.1.2.2.1.1 2 rfl ?_
    refine V_iald dec_X1_notSoBy.1.2.2.1.2 ?_
    refine V_aload_n dec_X1_notSoBy.1.2.2.2.1 0 rfl ?_
    refine V_getR 9 13 nf_9_13 ft_9_13 fl_X1_65 dec_X1_notSoBy.1.2.2.2.2 ?_
    refine V_iload_n dec_X1_notSoBy.2.1.1.1 2 rfl ?_
    refine V_iald dec_X1_notSoBy.2.1.1.2.1 ?_
    refine V_callV0 (ci := 10) (a := x1) (As := [(0, (gI s (gR s x0 12) x2.toNat)), (0, (gI s (gR s x0 13) x2.toNat))]) (st := []) rfl rfl (X10_listener_s G l s x1 (gI s (gR s x0 12) x2.toNat) (gI s (gR s x0 13) x2.toNat)) cal_X10_listener rfl ml_X1_68 rfl rfl dec_X1_notSoBy.2.1.1.2.2 (k_tag (tag := 0) rfl fun r1 s2 => ?_)
    refine V_aload_n dec_X1_notSoBy.2.1.2.1.1 0 rfl ?_
    refine V_getR 9 11 nf_9_11 ft_9_11 fl_X1_72 dec_X1_notSoBy.2.1.2.1.2 ?_
    refine V_iload_n dec_X1_notSoBy.2.1.2.2.1 2 rfl ?_
    refine V_iald dec_X1_notSoBy.2.1.2.2.2 ?_
    refine V_icmp_eq (tgt := 37) dec_X1_notSoBy.2.2.1.1 (by decide) ?_ ?_
    · refine V_iinc (lv' := [(2, (0, (w32 (x2 + 1)))), (0, (2, x0)), (1, (2, x1))]) dec_X1_notSoBy.2.2.2.1.1 2 rfl (by decide) rfl ?_
      refine V_goto (tgt := 2) dec_X1_notSoBy.2.2.2.1.2 (by decide) ?_
      exact V_pick [1, 2, 0] rfl (hk2 s2 x0 x1 (w32 (x2 + 1)))
    · refine V_iload_n dec_X1_notSoBy.2.2.1.2.1 2 rfl ?_
      exact V_iret rfl dec_X1_notSoBy.2.2.1.2.2
theorem X1_notSoBy_b2_s (G : Gx) (l : Launch) (n : Nat) (s : St) (x0 x1 x2 : Int) : V G l mX1_notSoBy 2 [(0, (2, x0)), (1, (2, x1)), (2, (0, x2))] [] s (X1_notSoBy_b2 n s x0 x1 x2) :=
  V_iter (LV := fun a : St × Int × Int × Int => [(0, (2, a.2.1)), (1, (2, a.2.2.1)), (2, (0, a.2.2.2))]) (ST := fun a : St × Int × Int × Int => []) (SS := fun a : St × Int × Int × Int => a.1) (fun rec hrec a => X1_notSoBy_b2_body_s G l (fun (s : St) (x0 x1 x2 : Int) => rec (s, x0, x1, x2)) (fun (s : St) (x0 x1 x2 : Int) => hrec (s, x0, x1, x2)) a.1 a.2.1 a.2.2.1 a.2.2.2) n (s, x0, x1, x2)
def X1_notSoBy (s : St) (a0 a1 : Int) : Rs :=
  X1_notSoBy_b2 FU s a0 a1 0
set_option maxRecDepth 100000 in
set_option maxHeartbeats 4000000 in
theorem X1_notSoBy_s (G : Gx) (l : Launch) (s : St) (a0 a1 : Int) : Snd G l mX1_notSoBy [(2, a0), (2, a1)] s (X1_notSoBy s a0 a1) := by
  refine Snd.of (by decide +kernel) rfl ?_
  show V G l mX1_notSoBy 0 [(0, (2, a0)), (1, (2, a1))] [] s _
  unfold X1_notSoBy
  refine V_iconst dec_X1_notSoBy.1.1.1.1 rfl ?_
  refine V_istore_n (lv' := [(2, (0, 0)), (0, (2, a0)), (1, (2, a1))]) dec_X1_notSoBy.1.1.1.2.1 (by decide) rfl ?_
  exact V_pick [1, 2, 0] rfl (X1_notSoBy_b2_s G l FU s a0 a1 0)
theorem dec_X1_suppose : ((((decode cX1_suppose 0 = .ok (.aload_n 1, 1) ∧ (decode cX1_suppose 1 = .ok (.aload_n 0, 1) ∧ decode cX1_suppose 2 = .ok (.getfield 35, 3))) ∧ ((decode cX1_suppose 5 = .ok (.invokevirtual 39, 3) ∧ decode cX1_suppose 8 = .ok (.iconst 0, 1)) ∧ (decode cX1_suppose 9 = .ok (.istore_n 3, 1) ∧ decode cX1_suppose 10 = .ok (.iload_n 3, 1)))) ∧ (((decode cX1_suppose 11 = .ok (.aload_n 0, 1) ∧ decode cX1_suppose 12 = .ok (.getfield 22, 3)) ∧ (decode cX1_suppose 15 = .ok (.if_icmp .ge 37, 3) ∧ decode cX1_suppose 18 = .ok (.iload_n 2, 1))) ∧ ((decode cX1_suppose 19 = .ok (.iconst 1, 1) ∧ decode cX1_suppose 20 = .ok (.iload_n 3, 1)) ∧ (decode cX1_suppose 21 = .ok (.ishl, 1) ∧ decode cX1_suppose 22 = .ok (.iand, 1))))) ∧ ((((decode cX1_suppose 23 = .ok (.ifCond .eq 23, 3) ∧ decode cX1_suppose 26 = .ok (.aload_n 1, 1)) ∧ (decode cX1_suppose 27 = .ok (.getfield 45, 3) ∧ decode cX1_suppose 30 = .ok (.getfield 48, 3))) ∧ ((decode cX1_suppose 33 = .ok (.aload_n 0, 1) ∧ decode cX1_suppose 34 = .ok (.getfield 53, 3)) ∧ (decode cX1_suppose 37 = .ok (.iload_n 3, 1) ∧ decode cX1_suppose 38 = .ok (.iaload, 1)))) ∧ (((decode cX1_suppose 39 = .ok (.aload_n 0, 1) ∧ decode cX1_suppose 40 = .ok (.getfield 56, 3)) ∧ (decode cX1_suppose 43 = .ok (.iload_n 3, 1) ∧ decode cX1_suppose 44 = .ok (.iaload, 1))) ∧ ((decode cX1_suppose 45 = .ok (.iastore, 1) ∧ decode cX1_suppose 46 = .ok (.iinc 3 1, 3)) ∧ (decode cX1_suppose 49 = .ok (.goto (-39), 3) ∧ decode cX1_suppose 52 = .ok (.return_, 1)))))) := ⟨⟨by decide +kernel, by decide +kernel⟩, ⟨by decide +kernel, by decide +kernel⟩⟩
def X1_suppose_b46 (rk10 : St → Int → Int → Int → Int → Rs) (s : St) (x0 x1 x2 x3 : Int) : Rs :=
  rk10 s x0 x1 x2 (w32 (x3 + 1))
set_option maxRecDepth 100000 in
set_option maxHeartbeats 4000000 in
theorem X1_suppose_b46_s (G : Gx) (l : Launch) (rk10 : St → Int → Int → Int → Int → Rs) (hk10 : ∀ (s : St) (x0 x1 x2 x3 : Int), V G l mX1_suppose 10 [(0, (2, x0)), (1, (2, x1)), (2, (0, x2)), (3, (0, x3))] [] s (rk10 s x0 x1 x2 x3)) (s : St) (x0 x1 x2 x3 : Int) : V G l mX1_suppose 46 [(0, (2, x0)), (1, (2, x1)), (2, (0, x2)), (3, (0, x3))] [] s (X1_suppose_b46 rk10 s x0 x1 x2 x3) := by
  unfold X1_suppose_b46
  refine V_iinc (lv' := [(3, (0, (w32 (x3 + 1)))), (0, (2, x0)), (1, (2, x1)), (2, (0, x2))]) dec_X1_suppose.2.2.2.1.2 3 rfl (by decide) rfl ?_
  refine V_goto (tgt := 10) dec_X1_suppose.2.2.2.2.1 (by decide) ?_
  exact V_pick [1, 2, 3, 0] rfl (hk10 s x0 x1 x2 (w32 (x3 + 1)))
def X1_suppose_b10_body (rk10 : St → Int → Int → Int → Int → Rs) (s : St) (x0 x1 x2 x3 : Int) : Rs :=
  grd (isK s 19 x0) (if (gI s x0 4) ≤ x3 then (some (0, s)) else (if (and32 x2 (shl32 1 x3)) = 0 then (X1_suppose_b46 rk10 s x0 x1 x2 x3) else (grd (isK s 20 x1) (grd (isK s 16 (gR s x1 1)) (grd (isK s 19 x0) (grd (isK s 1 (gR s x0 9) ∧ 0 ≤ x3 ∧ x3 < ln s (gR s x0 9)) (grd (isK s 19 x0) (grd (isK s 1 (gR s x0 10) ∧ 0 ≤ x3 ∧ x3 < ln s (gR s x0 10)) (grd (isK s 1 (gR s (gR s x1 1) 2) ∧ 0 ≤ (gI s (gR s x0 9) x3.toNat) ∧ (gI s (gR s x0 9) x3.toNat) < ln s (gR s (gR s x1 1) 2)) (lets (pI s (gR s (gR s x1 1) 2) (gI s (gR s x0 9) x3.toNat).toNat (gI s (gR s x0 10) x3.toNat)) (fun s3 => X1_suppose_b46 rk10 s3 x0 x1 x2 x3)))))))))))
def X1_suppose_b10 (n : Nat) (s : St) (x0 x1 x2 x3 : Int) : Rs := iter (fun (rec : St × Int × Int × Int × Int → Rs) (a : St × Int × Int × Int × Int) => X1_suppose_b10_body (fun (s : St) (x0 x1 x2 x3 : Int) => rec (s, x0, x1, x2, x3)) a.1 a.2.1 a.2.2.1 a.2.2.2.1 a.2.2.2.2) n (s, x0, x1, x2, x3)
theorem X1_suppose_b10_0 (s : St) (x0 x1 x2 x3 : Int) : X1_suppose_b10 0 s x0 x1 x2 x3 = none := rfl
theorem X1_suppose_b10_1 (n : Nat) (s : St) (x0 x1 x2 x3 : Int) : X1_suppose_b10 (n + 1) s x0 x1 x2 x3 = X1_suppose_b10_body (X1_suppose_b10 n) s x0 x1 x2 x3 := rfl
set_option maxRecDepth 100000 in
set_option maxHeartbeats 4000000 in
theorem X1_suppose_b10_body_s (G : Gx) (l : Launch) (rk10 : St → Int → Int → Int → Int → Rs) (hk10 : ∀ (s : St) (x0 x1 x2 x3 : Int), V G l mX1_suppose 10 [(0, (2, x0)), (1, (2, x1)), (2, (0, x2)), (3, (0, x3))] [] s (rk10 s x0 x1 x2 x3)) (s : St) (x0 x1 x2 x3 : Int) : V G l mX1_suppose 10 [(0, (2, x0)), (1, (2, x1)), (2, (0, x2)), (3, (0, x3))] [] s (X1_suppose_b10_body rk10 s x0 x1 x2 x3) := by
  unfold X1_suppose_b10_body
  refine V_iload_n dec_X1_suppose.1.1.2.2.2 3 rfl ?_
  refine V_aload_n dec_X1_suppose.1.2.1.1.1 0 rfl ?_
  refine V_getI 9 4 nf_9_4 ft_9_4 fl_X1_22 dec_X1_suppose.1.2.1.1.2 ?_
  refine V_icmp_ge (tgt := 52) dec_X1_suppose.1.2.1.2.1 (by decide) ?_ ?_
  · exact V_vret rfl dec_X1_suppose.2.2.2.2.2
  · refine V_iload_n dec_X1_suppose.1.2.1.2.2 2 rfl ?_
    refine V_iconst dec_X1_suppose.1.2.2.1.1 rfl ?_
    refine V_iload_n dec_X1_suppose.1.2.2.1.2 3 rfl ?_
    refine V_ishl dec_X1_suppose.1.2.2.2.1 ?_
    refine V_iand dec_X1_suppose.1.2.2.2.2 ?_
    refine V_if_eq (tgt := 46) dec_X1_suppose.2.1.1.1.1 (by decide) ?_ ?_
    · exact V_pick [0, 1, 2, 3] rfl (X1_suppose_b46_s G l rk10 hk10 s x0 x1 x2 x3)
    · refine V_aload_n dec_X1_suppose.2.1.1.1.2 1 rfl ?_
      refine V_getR 10 1 nf_10_1 ft_10_1 fl_X1_45 dec_X1_suppose.2.1.1.2.1 ?_
      refine V_getR 6 2 nf_6_2 ft_6_2 fl_X1_48 dec_X1_suppose.2.1.1.2.2 ?_
      refine V_aload_n dec_X1_suppose.2.1.2.1.1 0 rfl ?_
      refine V_getR 9 9 nf_9_9 ft_9_9 fl_X1_53 dec_X1_suppose.2.1.2.1.2 ?_
      refine V_iload_n dec_X1_suppose.2.1.2.2.1 3 rfl ?_
      refine V_iald dec_X1_suppose.2.1.2.2.2 ?_
      refine V_aload_n dec_X1_suppose.2.2.1.1.1 0 rfl ?_
      refine V_getR 9 10 nf_9_10 ft_9_10 fl_X1_56 dec_X1_suppose.2.2.1.1.2 ?_
      refine V_iload_n dec_X1_suppose.2.2.1.2.1 3 rfl ?_
      refine V_iald dec_X1_suppose.2.2.1.2.2 ?_
      refine V_iast dec_X1_suppose.2.2.2.1.1 ?_
      refine V_lets fun s3 => ?_
      exact V_pick [0, 1, 2, 3] rfl (X1_suppose_b46_s G l rk10 hk10 s3 x0 x1 x2 x3)
theorem X1_suppose_b10_s (G : Gx) (l : Launch) (n : Nat) (s : St) (x0 x1 x2 x3 : Int) : V G l mX1_suppose 10 [(0, (2, x0)), (1, (2, x1)), (2, (0, x2)), (3, (0, x3))] [] s (X1_suppose_b10 n s x0 x1 x2 x3) :=
  V_iter (LV := fun a : St × Int × Int × Int × Int => [(0, (2, a.2.1)), (1, (2, a.2.2.1)), (2, (0, a.2.2.2.1)), (3, (0, a.2.2.2.2))]) (ST := fun a : St × Int × Int × Int × Int => []) (SS := fun a : St × Int × Int × Int × Int => a.1) (fun rec hrec a => X1_suppose_b10_body_s G l (fun (s : St) (x0 x1 x2 x3 : Int) => rec (s, x0, x1, x2, x3)) (fun (s : St) (x0 x1 x2 x3 : Int) => hrec (s, x0, x1, x2, x3)) a.1 a.2.1 a.2.2.1 a.2.2.2.1 a.2.2.2.2) n (s, x0, x1, x2, x3)
def X1_suppose (s : St) (a0 a1 a2 : Int) : Rs :=
  grd (isK s 19 a0) (grd (isK s 20 a1) (bnd (X10_settle s a1 (gR s a0 6)) (fun r1 s2 => X1_suppose_b10 FU s2 a0 a1 a2 0)))
set_option maxRecDepth 100000 in
set_option maxHeartbeats 4000000 in
theorem X1_suppose_s (G : Gx) (l : Launch) (s : St) (a0 a1 a2 : Int) : Snd G l mX1_suppose [(2, a0), (2, a1), (0, a2)] s (X1_suppose s a0 a1 a2) := by
  refine Snd.of (by decide +kernel) rfl ?_
  show V G l mX1_suppose 0 [(0, (2, a0)), (1, (2, a1)), (2, (0, a2))] [] s _
  unfold X1_suppose
  refine V_aload_n dec_X1_suppose.1.1.1.1 1 rfl ?_
  refine V_aload_n dec_X1_suppose.1.1.1.2.1 0 rfl ?_
  refine V_getR 9 6 nf_9_6 ft_9_6 fl_X1_35 dec_X1_suppose.1.1.1.2.2 ?_
  refine V_callV0 (ci := 10) (a := a1) (As := [(2, (gR s a0 6))]) (st := []) rfl rfl (X10_settle_s G l s a1 (gR s a0 6)) cal_X10_settle rfl ml_X1_39 rfl rfl dec_X1_suppose.1.1.2.1.1 (k_void rfl fun r1 s2 => ?_)
  refine V_iconst dec_X1_suppose.1.1.2.1.2 rfl ?_
  refine V_istore_n (lv' := [(3, (0, 0)), (0, (2, a0)), (1, (2, a1)), (2, (0, a2))]) dec_X1_suppose.1.1.2.2.1 (by decide) rfl ?_
  exact V_pick [1, 2, 3, 0] rfl (X1_suppose_b10_s G l FU s2 a0 a1 a2 0)
theorem dec_X1_list : (((((decode cX1_list 0 = .ok (.aload_n 0, 1) ∧ decode cX1_list 1 = .ok (.iconst 0, 1)) ∧ (decode cX1_list 2 = .ok (.putfield 19, 3) ∧ (decode cX1_list 5 = .ok (.iconst 0, 1) ∧ decode cX1_list 6 = .ok (.istore_n 3, 1)))) ∧ ((decode cX1_list 7 = .ok (.iload_n 3, 1) ∧ decode cX1_list 8 = .ok (.iconst 1, 1)) ∧ (decode cX1_list 9 = .ok (.aload_n 1, 1) ∧ (decode cX1_list 10 = .ok (.getfield 22, 3) ∧ decode cX1_list 13 = .ok (.ishl, 1))))) ∧ (((decode cX1_list 14 = .ok (.if_icmp .ge 57, 3) ∧ decode cX1_list 17 = .ok (.aload_n 1, 1)) ∧ (decode cX1_list 18 = .ok (.aload_n 2, 1) ∧ (decode cX1_list 19 = .ok (.iload_n 3, 1) ∧ decode cX1_list 20 = .ok (.invokestatic 27, 3)))) ∧ ((decode cX1_list 23 = .ok (.aload_n 1, 1) ∧ decode cX1_list 24 = .ok (.aload_n 2, 1)) ∧ (decode cX1_list 25 = .ok (.invokestatic 31, 3) ∧ (decode cX1_list 28 = .ok (.istore 4, 2) ∧ decode cX1_list 30 = .ok (.iload_n 3, 1)))))) ∧ ((((decode cX1_list 31 = .ok (.ifCond .ne 9, 3) ∧ decode cX1_list 34 = .ok (.aload_n 0, 1)) ∧ (decode cX1_list 35 = .ok (.iload 4, 2) ∧ (decode cX1_list 37 = .ok (.putfield 15, 3) ∧ decode cX1_list 40 = .ok (.iload 4, 2)))) ∧ ((decode cX1_list 42 = .ok (.ifCond .ge 23, 3) ∧ decode cX1_list 45 = .ok (.aload_n 0, 1)) ∧ (decode cX1_list 46 = .ok (.getfield 9, 3) ∧ (decode cX1_list 49 = .ok (.aload_n 0, 1) ∧ decode cX1_list 50 = .ok (.getfield 19, 3))))) ∧ (((decode cX1_list 53 = .ok (.iload_n 3, 1) ∧ decode cX1_list 54 = .ok (.iastore, 1)) ∧ (decode cX1_list 55 = .ok (.aload_n 0, 1) ∧ (decode cX1_list 56 = .ok (.dup, 1) ∧ decode cX1_list 57 = .ok (.getfield 19, 3)))) ∧ ((decode cX1_list 60 = .ok (.iconst 1, 1) ∧ (decode cX1_list 61 = .ok (.iadd, 1) ∧ decode cX1_list 62 = .ok (.putfield 19, 3))) ∧ (decode cX1_list 65 = .ok (.iinc 3 1, 3) ∧ (decode cX1_list 68 = .ok (.goto (-61), 3) ∧ decode cX1_list 71 = .ok (.return_, 1))))))) := ⟨⟨by decide +kernel, by decide +kernel⟩, ⟨by decide +kernel, by decide +kernel⟩⟩
def X1_list_b65 (rk7 : St → Int → Int → Int → Int → Rs) (s : St) (x0 x1 x2 x3 : Int) : Rs :=
  rk7 s x0 x1 x2 (w32 (x3 + 1))
set_option maxRecDepth 100000 in
set_option maxHeartbeats 4000000 in
theorem X1_list_b65_s (G : Gx) (l : Launch) (rk7 : St → Int → Int → Int → Int → Rs) (hk7 : ∀ (s : St) (x0 x1 x2 x3 : Int), V G l mX1_list 7 [(0, (2, x0)), (1, (2, x1)), (2, (2, x2)), (3, (0, x3))] [] s (rk7 s x0 x1 x2 x3)) (s : St) (x0 x1 x2 x3 : Int) : V G l mX1_list 65 [(0, (2, x0)), (1, (2, x1)), (2, (2, x2)), (3, (0, x3))] [] s (X1_list_b65 rk7 s x0 x1 x2 x3) := by
  unfold X1_list_b65
  refine V_iinc (lv' := [(3, (0, (w32 (x3 + 1)))), (0, (2, x0)), (1, (2, x1)), (2, (2, x2))]) dec_X1_list.2.2.2.2.1 3 rfl (by decide) rfl ?_
  refine V_goto (tgt := 7) dec_X1_list.2.2.2.2.2.1 (by decide) ?_
  exact V_pick [1, 2, 3, 0] rfl (hk7 s x0 x1 x2 (w32 (x3 + 1)))
def X1_list_b40 (rk7 : St → Int → Int → Int → Int → Rs) (s : St) (x0 x1 x2 x3 x4 : Int) : Rs :=
  if 0 ≤ x4 then (X1_list_b65 rk7 s x0 x1 x2 x3) else (grd (isK s 11 x0) (grd (isK s 11 x0) (grd (isK s 1 (gR s x0 0) ∧ 0 ≤ (gI s x0 1) ∧ (gI s x0 1) < ln s (gR s x0 0)) (lets (pI s (gR s x0 0) (gI s x0 1).toNat x3) (fun s6 => grd (isK s6 11 x0) (grd (isK s6 11 x0) (lets (pI s6 x0 1 (w32 ((gI s6 x0 1) + 1))) (fun s7 => X1_list_b65 rk7 s7 x0 x1 x2 x3))))))))
set_option maxRecDepth 100000 in
set_option maxHeartbeats 4000000 in
theorem X1_list_b40_s (G : Gx) (l : Launch) (rk7 : St → Int → Int → Int → Int → Rs) (hk7 : ∀ (s : St) (x0 x1 x2 x3 : Int), V G l mX1_list 7 [(0, (2, x0)), (1, (2, x1)), (2, (2, x2)), (3, (0, x3))] [] s (rk7 s x0 x1 x2 x3)) (s : St) (x0 x1 x2 x3 x4 : Int) : V G l mX1_list 40 [(0, (2, x0)), (1, (2, x1)), (2, (2, x2)), (3, (0, x3)), (4, (0, x4))] [] s (X1_list_b40 rk7 s x0 x1 x2 x3 x4) := by
  unfold X1_list_b40
  refine V_iload dec_X1_list.2.1.1.2.2.2 4 rfl ?_
  refine V_if_ge (tgt := 65) dec_X1_list.2.1.2.1.1 (by decide) ?_ ?_
  · exact V_pick [0, 1, 2, 3] rfl (X1_list_b65_s G l rk7 hk7 s x0 x1 x2 x3)
  · refine V_aload_n dec_X1_list.2.1.2.1.2 0 rfl ?_
    refine V_getR 1 0 nf_1_0 ft_1_0 fl_X1_9 dec_X1_list.2.1.2.2.1 ?_
    refine V_aload_n dec_X1_list.2.1.2.2.2.1 0 rfl ?_
    refine V_getI 1 1 nf_1_1 ft_1_1 fl_X1_19 dec_X1_list.2.1.2.2.2.2 ?_
    refine V_iload_n dec_X1_list.2.2.1.1.1 3 rfl ?_
    refine V_iast dec_X1_list.2.2.1.1.2 ?_
    refine V_lets fun s6 => ?_
    refine V_aload_n dec_X1_list.2.2.1.2.1 0 rfl ?_
    refine V_dup (nl2 _) dec_X1_list.2.2.1.2.2.1 ?_
    refine V_getI 1 1 nf_1_1 ft_1_1 fl_X1_19 dec_X1_list.2.2.1.2.2.2 ?_
    refine V_iconst dec_X1_list.2.2.2.1.1 rfl ?_
    refine V_iadd dec_X1_list.2.2.2.1.2.1 ?_
    refine V_putI (host := "") 1 1 nf_1_1 ty_1_1 (Or.inl ⟨fl_X1_19, Or.inl rfl⟩) dec_X1_list.2.2.2.1.2.2 ?_
    refine V_lets fun s7 => ?_
    exact V_pick [0, 1, 2, 3] rfl (X1_list_b65_s G l rk7 hk7 s7 x0 x1 x2 x3)
def X1_list_b7_body (rk7 : St → Int → Int → Int → Int → Rs) (s : St) (x0 x1 x2 x3 : Int) : Rs :=
  grd (isK s 19 x1) (if (shl32 1 (gI s x1 4)) ≤ x3 then (some (0, s)) else (bnd (X1_suppose s x1 x2 x3) (fun r2 s3 => bnd (X1_notSoBy s3 x1 x2) (fun r4 s5 => if ¬ x3 = 0 then (X1_list_b40 rk7 s5 x0 x1 x2 x3 r4) else (grd (isK s5 11 x0) (lets (pI s5 x0 2 r4) (fun s8 => X1_list_b40 rk7 s8 x0 x1 x2 x3 r4)))))))
def X1_list_b7 (n : Nat) (s : St) (x0 x1 x2 x3 : Int) : Rs := iter (fun (rec : St × Int × Int × Int × Int → Rs) (a : St × Int × Int × Int × Int) => X1_list_b7_body (fun (s : St) (x0 x1 x2 x3 : Int) => rec (s, x0, x1, x2, x3)) a.1 a.2.1 a.2.2.1 a.2.2.2.1 a.2.2.2.2) n (s, x0, x1, x2, x3)
theorem X1_list_b7_0 (s : St) (x0 x1 x2 x3 : Int) : X1_list_b7 0 s x0 x1 x2 x3 = none := rfl
theorem X1_list_b7_1 (n : Nat) (s : St) (x0 x1 x2 x3 : Int) : X1_list_b7 (n + 1) s x0 x1 x2 x3 = X1_list_b7_body (X1_list_b7 n) s x0 x1 x2 x3 := rfl
set_option maxRecDepth 100000 in
set_option maxHeartbeats 4000000 in
theorem X1_list_b7_body_s (G : Gx) (l : Launch) (rk7 : St → Int → Int → Int → Int → Rs) (hk7 : ∀ (s : St) (x0 x1 x2 x3 : Int), V G l mX1_list 7 [(0, (2, x0)), (1, (2, x1)), (2, (2, x2)), (3, (0, x3))] [] s (rk7 s x0 x1 x2 x3)) (s : St) (x0 x1 x2 x3 : Int) : V G l mX1_list 7 [(0, (2, x0)), (1, (2, x1)), (2, (2, x2)), (3, (0, x3))] [] s (X1_list_b7_body rk7 s x0 x1 x2 x3) := by
  unfold X1_list_b7_body
  refine V_iload_n dec_X1_list.1.1.2.1.1 3 rfl ?_
  refine V_iconst dec_X1_list.1.1.2.1.2 rfl ?_
  refine V_aload_n dec_X1_list.1.1.2.2.1 1 rfl ?_
  refine V_getI 9 4 nf_9_4 ft_9_4 fl_X1_22 dec_X1_list.1.1.2.2.2.1 ?_
  refine V_ishl dec_X1_list.1.1.2.2.2.2 ?_
  refine V_icmp_ge (tgt := 71) dec_X1_list.1.2.1.1.1 (by decide) ?_ ?_
  · exact V_vret rfl dec_X1_list.2.2.2.2.2.2
  · refine V_aload_n dec_X1_list.1.2.1.1.2 1 rfl ?_
    refine V_aload_n dec_X1_list.1.2.1.2.1 2 rfl ?_
    refine V_iload_n dec_X1_list.1.2.1.2.2.1 3 rfl ?_
    refine V_callS0 (As := [(2, x1), (2, x2), (0, x3)]) (st := []) (host := "") rfl (X1_suppose_s G l s x1 x2 x3) cal_X1_suppose rfl (Or.inl ml_X1_27) rfl rfl dec_X1_list.1.2.1.2.2.2 (k_void rfl fun r2 s3 => ?_)
    refine V_aload_n dec_X1_list.1.2.2.1.1 1 rfl ?_
    refine V_aload_n dec_X1_list.1.2.2.1.2 2 rfl ?_
    refine V_callS0 (As := [(2, x1), (2, x2)]) (st := []) (host := "") rfl (X1_notSoBy_s G l s3 x1 x2) cal_X1_notSoBy rfl (Or.inl ml_X1_31) rfl rfl dec_X1_list.1.2.2.2.1 (k_tag (tag := 0) rfl fun r4 s5 => ?_)
    refine V_istore (lv' := [(4, (0, r4)), (0, (2, x0)), (1, (2, x1)), (2, (2, x2)), (3, (0, x3))]) dec_X1_list.1.2.2.2.2.1 (by decide) rfl ?_
    refine V_iload_n dec_X1_list.1.2.2.2.2.2 4 rfl ?_
    refine V_if_ne (tgt := 40) dec_X1_list.2.1.1.1.1 (by decide) ?_ ?_
    · exact V_pick [1, 2, 3, 4, 0] rfl (X1_list_b40_s G l rk7 hk7 s5 x0 x1 x2 x3 r4)
    · refine V_aload_n dec_X1_list.2.1.1.1.2 1 rfl ?_
      refine V_iload dec_X1_list.2.1.1.2.1 0 rfl ?_
      refine V_putI (host := "") 1 2 nf_1_2 ty_1_2 (Or.inl ⟨fl_X1_15, Or.inl rfl⟩) dec_X1_list.2.1.1.2.2.1 ?_
      refine V_lets fun s8 => ?_
      exact V_pick [1, 2, 3, 4, 0] rfl (X1_list_b40_s G l rk7 hk7 s8 x0 x1 x2 x3 r4)
theorem X1_list_b7_s (G : Gx) (l : Launch) (n : Nat) (s : St) (x0 x1 x2 x3 : Int) : V G l mX1_list 7 [(0, (2, x0)), (1, (2, x1)), (2, (2, x2)), (3, (0, x3))] [] s (X1_list_b7 n s x0 x1 x2 x3) :=
  V_iter (LV := fun a : St × Int × Int × Int × Int => [(0, (2, a.2.1)), (1, (2, a.2.2.1)), (2, (2, a.2.2.2.1)), (3, (0, a.2.2.2.2))]) (ST := fun a : St × Int × Int × Int × Int => []) (SS := fun a : St × Int × Int × Int × Int => a.1) (fun rec hrec a => X1_list_b7_body_s G l (fun (s : St) (x0 x1 x2 x3 : Int) => rec (s, x0, x1, x2, x3)) (fun (s : St) (x0 x1 x2 x3 : Int) => hrec (s, x0, x1, x2, x3)) a.1 a.2.1 a.2.2.1 a.2.2.2.1 a.2.2.2.2) n (s, x0, x1, x2, x3)
def X1_list (s : St) (a0 a1 a2 : Int) : Rs :=
  grd (isK s 11 a0) (lets (pI s a0 1 0) (fun s1 => X1_list_b7 FU s1 a0 a1 a2 0))
set_option maxRecDepth 100000 in
set_option maxHeartbeats 4000000 in
theorem X1_list_s (G : Gx) (l : Launch) (s : St) (a0 a1 a2 : Int) : Snd G l mX1_list [(2, a0), (2, a1), (2, a2)] s (X1_list s a0 a1 a2) := by
  refine Snd.of (by decide +kernel) rfl ?_
  show V G l mX1_list 0 [(0, (2, a0)), (1, (2, a1)), (2, (2, a2))] [] s _
  unfold X1_list
  refine V_aload_n dec_X1_list.1.1.1.1.1 0 rfl ?_
  refine V_iconst dec_X1_list.1.1.1.1.2 rfl ?_
  refine V_putI (host := "") 1 1 nf_1_1 ty_1_1 (Or.inl ⟨fl_X1_19, Or.inl rfl⟩) dec_X1_list.1.1.1.2.1 ?_
  refine V_lets fun s1 => ?_
  refine V_iconst dec_X1_list.1.1.1.2.2.1 rfl ?_
  refine V_istore_n (lv' := [(3, (0, 0)), (0, (2, a0)), (1, (2, a1)), (2, (2, a2))]) dec_X1_list.1.1.1.2.2.2 (by decide) rfl ?_
  exact V_pick [1, 2, 3, 0] rfl (X1_list_b7_s G l FU s1 a0 a1 a2 0)
theorem dec_X4_fail : (((decode cX4_fail 0 = .ok (.aload_n 0, 1) ∧ decode cX4_fail 1 = .ok (.getfield 36, 3)) ∧ (decode cX4_fail 4 = .ok (.ifCond .ne 13, 3) ∧ (decode cX4_fail 7 = .ok (.aload_n 0, 1) ∧ decode cX4_fail 8 = .ok (.iload_n 1, 1)))) ∧ ((decode cX4_fail 9 = .ok (.putfield 36, 3) ∧ decode cX4_fail 12 = .ok (.aload_n 0, 1)) ∧ (decode cX4_fail 13 = .ok (.iload_n 2, 1) ∧ (decode cX4_fail 14 = .ok (.putfield 18, 3) ∧ decode cX4_fail 17 = .ok (.return_, 1))))) := by decide +kernel
def X4_fail_b17 (s : St) : Rs :=
  some (0, s)
set_option maxRecDepth 100000 in
set_option maxHeartbeats 4000000 in
theorem X4_fail_b17_s (G : Gx) (l : Launch) (s : St) : V G l mX4_fail 17 [] [] s (X4_fail_b17 s) := by
  unfold X4_fail_b17
  exact V_vret rfl dec_X4_fail.2.2.2.2
def X4_fail (s : St) (a0 a1 a2 : Int) : Rs :=
  grd (isK s 14 a0) (if ¬ (gI s a0 1) = 0 then (X4_fail_b17 s) else (grd (isK s 14 a0) (lets (pI s a0 1 a1) (fun s1 => grd (isK s1 14 a0) (lets (pI s1 a0 2 a2) (fun s2 => X4_fail_b17 s2))))))
set_option maxRecDepth 100000 in
set_option maxHeartbeats 4000000 in
theorem X4_fail_s (G : Gx) (l : Launch) (s : St) (a0 a1 a2 : Int) : Snd G l mX4_fail [(2, a0), (0, a1), (0, a2)] s (X4_fail s a0 a1 a2) := by
  refine Snd.of (by decide +kernel) rfl ?_
  show V G l mX4_fail 0 [(0, (2, a0)), (1, (0, a1)), (2, (0, a2))] [] s _
  unfold X4_fail
  refine V_aload_n dec_X4_fail.1.1.1 0 rfl ?_
  refine V_getI 4 1 nf_4_1 ft_4_1 fl_X4_36 dec_X4_fail.1.1.2 ?_
  refine V_if_ne (tgt := 17) dec_X4_fail.1.2.1 (by decide) ?_ ?_
  · exact V_pick [] rfl (X4_fail_b17_s G l s)
  · refine V_aload_n dec_X4_fail.1.2.2.1 0 rfl ?_
    refine V_iload_n dec_X4_fail.1.2.2.2 1 rfl ?_
    refine V_putI (host := "") 4 1 nf_4_1 ty_4_1 (Or.inl ⟨fl_X4_36, Or.inl rfl⟩) dec_X4_fail.2.1.1 ?_
    refine V_lets fun s1 => ?_
    refine V_aload_n dec_X4_fail.2.1.2 0 rfl ?_
    refine V_iload_n dec_X4_fail.2.2.1 2 rfl ?_
    refine V_putI (host := "") 4 2 nf_4_2 ty_4_2 (Or.inl ⟨fl_X4_18, Or.inl rfl⟩) dec_X4_fail.2.2.2.1 ?_
    refine V_lets fun s2 => ?_
    exact V_pick [] rfl (X4_fail_b17_s G l s2)
theorem dec_J3_checkIndex_8e157 : (((decode cJ3_checkIndex_8e157 0 = .ok (.iload_n 0, 1) ∧ decode cJ3_checkIndex_8e157 1 = .ok (.ifCond .lt 8, 3)) ∧ (decode cJ3_checkIndex_8e157 4 = .ok (.iload_n 0, 1) ∧ decode cJ3_checkIndex_8e157 5 = .ok (.iload_n 1, 1))) ∧ ((decode cJ3_checkIndex_8e157 6 = .ok (.if_icmp .lt 10, 3) ∧ decode cJ3_checkIndex_8e157 9 = .ok (.aload_n 2, 1)) ∧ (decode cJ3_checkIndex_8e157 16 = .ok (.iload_n 0, 1) ∧ decode cJ3_checkIndex_8e157 17 = .ok (.ireturn, 1)))) := by decide +kernel
def J3_checkIndex_8e157_b9 (s : St) (x2 : Int) : Rs :=
  none
set_option maxRecDepth 100000 in
set_option maxHeartbeats 4000000 in
theorem J3_checkIndex_8e157_b9_s (G : Gx) (l : Launch) (s : St) (x2 : Int) : V G l mJ3_checkIndex_8e157 9 [(2, (2, x2))] [] s (J3_checkIndex_8e157_b9 s x2) := by
  unfold J3_checkIndex_8e157_b9
  exact V_none
def J3_checkIndex_8e157 (s : St) (a0 a1 a2 : Int) : Rs :=
  if a0 < 0 then (J3_checkIndex_8e157_b9 s a2) else (if a0 < a1 then (some (a0, s)) else (J3_checkIndex_8e157_b9 s a2))
set_option maxRecDepth 100000 in
set_option maxHeartbeats 4000000 in
theorem J3_checkIndex_8e157_s (G : Gx) (l : Launch) (s : St) (a0 a1 a2 : Int) : Snd G l mJ3_checkIndex_8e157 [(0, a0), (0, a1), (2, a2)] s (J3_checkIndex_8e157 s a0 a1 a2) := by
  refine Snd.of (by decide +kernel) rfl ?_
  show V G l mJ3_checkIndex_8e157 0 [(0, (0, a0)), (1, (0, a1)), (2, (2, a2))] [] s _
  unfold J3_checkIndex_8e157
  refine V_iload_n dec_J3_checkIndex_8e157.1.1.1 0 rfl ?_
  refine V_if_lt (tgt := 9) dec_J3_checkIndex_8e157.1.1.2 (by decide) ?_ ?_
  · exact V_pick [2] rfl (J3_checkIndex_8e157_b9_s G l s a2)
  · refine V_iload_n dec_J3_checkIndex_8e157.1.2.1 0 rfl ?_
    refine V_iload_n dec_J3_checkIndex_8e157.1.2.2 1 rfl ?_
    refine V_icmp_lt (tgt := 16) dec_J3_checkIndex_8e157.2.1.1 (by decide) ?_ ?_
    · refine V_iload_n dec_J3_checkIndex_8e157.2.2.1 0 rfl ?_
      exact V_iret rfl dec_J3_checkIndex_8e157.2.2.2
    · exact V_pick [2] rfl (J3_checkIndex_8e157_b9_s G l s a2)
theorem dec_J0_checkIndex_df160 : ((decode cJ0_checkIndex_df160 0 = .ok (.iload_n 0, 1) ∧ (decode cJ0_checkIndex_df160 1 = .ok (.iload_n 1, 1) ∧ decode cJ0_checkIndex_df160 2 = .ok (.getstatic 1053, 3))) ∧ (decode cJ0_checkIndex_df160 5 = .ok (.invokestatic 1059, 3) ∧ (decode cJ0_checkIndex_df160 8 = .ok (.pop, 1) ∧ decode cJ0_checkIndex_df160 9 = .ok (.return_, 1)))) := by decide +kernel
def J0_checkIndex_df160 (s : St) (a0 a1 : Int) : Rs :=
  bnd (J3_checkIndex_8e157 s a0 a1 0) (fun r1 s2 => some (0, s2))
set_option maxRecDepth 100000 in
set_option maxHeartbeats 4000000 in
theorem J0_checkIndex_df160_s (G : Gx) (l : Launch) (s : St) (a0 a1 : Int) : Snd G l mJ0_checkIndex_df160 [(0, a0), (0, a1)] s (J0_checkIndex_df160 s a0 a1) := by
  refine Snd.of (by decide +kernel) rfl ?_
  show V G l mJ0_checkIndex_df160 0 [(0, (0, a0)), (1, (0, a1))] [] s _
  unfold J0_checkIndex_df160
  refine V_iload_n dec_J0_checkIndex_df160.1.1 0 rfl ?_
  refine V_iload_n dec_J0_checkIndex_df160.1.2.1 1 rfl ?_
  refine V_gsF fl_J0_1053 dec_J0_checkIndex_df160.1.2.2 (fun z1 => ?_)
  refine V_callS0 (As := [(0, a0), (0, a1), (2, z1)]) (st := []) (host := "") rfl (J3_checkIndex_8e157_s G l s a0 a1 z1) cal_J3_checkIndex_8e157 rfl (Or.inl ml_J0_1059) rfl rfl dec_J0_checkIndex_df160.2.1 (k_tag (tag := 0) rfl fun r1 s2 => ?_)
  refine V_pop (nl0 _) dec_J0_checkIndex_df160.2.2.1 ?_
  exact V_vret rfl dec_J0_checkIndex_df160.2.2.2
theorem dec_J1_charAt_3b067 : (((decode cJ1_charAt_3b067 0 = .ok (.iload_n 1, 1) ∧ decode cJ1_charAt_3b067 1 = .ok (.aload_n 0, 1)) ∧ (decode cJ1_charAt_3b067 2 = .ok (.arraylength, 1) ∧ (decode cJ1_charAt_3b067 3 = .ok (.invokestatic 9, 3) ∧ decode cJ1_charAt_3b067 6 = .ok (.aload_n 0, 1)))) ∧ ((decode cJ1_charAt_3b067 7 = .ok (.iload_n 1, 1) ∧ (decode cJ1_charAt_3b067 8 = .ok (.baload, 1) ∧ decode cJ1_charAt_3b067 9 = .ok (.sipush 255, 3))) ∧ (decode cJ1_charAt_3b067 12 = .ok (.iand, 1) ∧ (decode cJ1_charAt_3b067 13 = .ok (.i2c, 1) ∧ decode cJ1_charAt_3b067 14 = .ok (.ireturn, 1))))) := by decide +kernel
def J1_charAt_3b067 (s : St) (a0 a1 : Int) : Rs :=
  grd (isSV a0) (bnd (J0_checkIndex_df160 s a1 (strLen (a0 - 1000))) (fun r1 s2 => grd (isSV a0 ∧ 0 ≤ a1 ∧ a1 < strLen (a0 - 1000)) (grd (0 ≤ (and32 (strAt (a0 - 1000) a1) 255) ∧ (and32 (strAt (a0 - 1000) a1) 255) ≤ 65535) (grd (0 ≤ (and32 (strAt (a0 - 1000) a1) 255) ∧ (and32 (strAt (a0 - 1000) a1) 255) ≤ 65535) (some ((and32 (strAt (a0 - 1000) a1) 255), s2))))))
set_option maxRecDepth 100000 in
set_option maxHeartbeats 4000000 in
theorem J1_charAt_3b067_s (G : Gx) (l : Launch) (s : St) (a0 a1 : Int) : Snd G l mJ1_charAt_3b067 [(2, a0), (0, a1)] s (J1_charAt_3b067 s a0 a1) := by
  refine Snd.of (by decide +kernel) rfl ?_
  show V G l mJ1_charAt_3b067 0 [(0, (2, a0)), (1, (0, a1))] [] s _
  unfold J1_charAt_3b067
  refine V_iload_n dec_J1_charAt_3b067.1.1.1 1 rfl ?_
  refine V_aload_n dec_J1_charAt_3b067.1.1.2 0 rfl ?_
  refine V_salen dec_J1_charAt_3b067.1.2.1 ?_
  refine V_callS0 (As := [(0, a1), (0, (strLen (a0 - 1000)))]) (st := []) (host := "") rfl (J0_checkIndex_df160_s G l s a1 (strLen (a0 - 1000))) cal_J0_checkIndex_df160 rfl (Or.inl ml_J1_9) rfl rfl dec_J1_charAt_3b067.1.2.2.1 (k_void rfl fun r1 s2 => ?_)
  refine V_aload_n dec_J1_charAt_3b067.1.2.2.2 0 rfl ?_
  refine V_iload_n dec_J1_charAt_3b067.2.1.1 1 rfl ?_
  refine V_sbald dec_J1_charAt_3b067.2.1.2.1 ?_
  refine V_sipush dec_J1_charAt_3b067.2.1.2.2 rfl ?_
  refine V_iand dec_J1_charAt_3b067.2.2.1 ?_
  refine V_i2c dec_J1_charAt_3b067.2.2.2.1 ?_
  exact V_cret rfl dec_J1_charAt_3b067.2.2.2.2
theorem dec_J0_isLatin1_aae02 : (((decode cJ0_isLatin1_aae02 0 = .ok (.getstatic 38, 3) ∧ decode cJ0_isLatin1_aae02 3 = .ok (.ifCond .eq 14, 3)) ∧ (decode cJ0_isLatin1_aae02 6 = .ok (.aload_n 0, 1) ∧ decode cJ0_isLatin1_aae02 7 = .ok (.getfield 15, 3))) ∧ ((decode cJ0_isLatin1_aae02 10 = .ok (.ifCond .ne 7, 3) ∧ decode cJ0_isLatin1_aae02 13 = .ok (.iconst 1, 1)) ∧ (decode cJ0_isLatin1_aae02 14 = .ok (.goto 4, 3) ∧ (decode cJ0_isLatin1_aae02 17 = .ok (.iconst 0, 1) ∧ decode cJ0_isLatin1_aae02 18 = .ok (.ireturn, 1))))) := by decide +kernel
def J0_isLatin1_aae02_b18 (s : St) (k0 : Int) : Rs :=
  grd (k0 = 0 ∨ k0 = 1) (some (k0, s))
set_option maxRecDepth 100000 in
set_option maxHeartbeats 4000000 in
theorem J0_isLatin1_aae02_b18_s (G : Gx) (l : Launch) (s : St) (k0 : Int) : V G l mJ0_isLatin1_aae02 18 [] [(0, k0)] s (J0_isLatin1_aae02_b18 s k0) := by
  unfold J0_isLatin1_aae02_b18
  exact V_zret rfl dec_J0_isLatin1_aae02.2.2.2.2
def J0_isLatin1_aae02_b17 (s : St) : Rs :=
  J0_isLatin1_aae02_b18 s 0
set_option maxRecDepth 100000 in
set_option maxHeartbeats 4000000 in
theorem J0_isLatin1_aae02_b17_s (G : Gx) (l : Launch) (s : St) : V G l mJ0_isLatin1_aae02 17 [] [] s (J0_isLatin1_aae02_b17 s) := by
  unfold J0_isLatin1_aae02_b17
  refine V_iconst dec_J0_isLatin1_aae02.2.2.2.1 rfl ?_
  exact V_pick [] rfl (J0_isLatin1_aae02_b18_s G l s 0)
def J0_isLatin1_aae02 (s : St) (a0 : Int) : Rs :=
  if (1 : Int) = 0 then (J0_isLatin1_aae02_b17 s) else (grd (isStr a0) (if ¬ (0 : Int) = 0 then (J0_isLatin1_aae02_b17 s) else (J0_isLatin1_aae02_b18 s 1)))
set_option maxRecDepth 100000 in
set_option maxHeartbeats 4000000 in
theorem J0_isLatin1_aae02_s (G : Gx) (l : Launch) (s : St) (a0 : Int) : Snd G l mJ0_isLatin1_aae02 [(2, a0)] s (J0_isLatin1_aae02 s a0) := by
  refine Snd.of (by decide +kernel) rfl ?_
  show V G l mJ0_isLatin1_aae02 0 [(0, (2, a0))] [] s _
  unfold J0_isLatin1_aae02
  refine V_gsC fl_J0_38 dec_J0_isLatin1_aae02.1.1.1 ?_
  refine V_if_eq (tgt := 17) dec_J0_isLatin1_aae02.1.1.2 (by decide) ?_ ?_
  · exact V_pick [] rfl (J0_isLatin1_aae02_b17_s G l s)
  · refine V_aload_n dec_J0_isLatin1_aae02.1.2.1 0 rfl ?_
    refine V_sgC fl_J0_15 dec_J0_isLatin1_aae02.1.2.2 ?_
    refine V_if_ne (tgt := 17) dec_J0_isLatin1_aae02.2.1.1 (by decide) ?_ ?_
    · exact V_pick [] rfl (J0_isLatin1_aae02_b17_s G l s)
    · refine V_iconst dec_J0_isLatin1_aae02.2.1.2 rfl ?_
      refine V_goto (tgt := 18) dec_J0_isLatin1_aae02.2.2.1 (by decide) ?_
      exact V_pick [] rfl (J0_isLatin1_aae02_b18_s G l s 1)
theorem dec_J0_charAt_5068e : (((decode cJ0_charAt_5068e 0 = .ok (.aload_n 0, 1) ∧ decode cJ0_charAt_5068e 1 = .ok (.invokevirtual 492, 3)) ∧ (decode cJ0_charAt_5068e 4 = .ok (.ifCond .eq 12, 3) ∧ decode cJ0_charAt_5068e 7 = .ok (.aload_n 0, 1))) ∧ ((decode cJ0_charAt_5068e 8 = .ok (.getfield 9, 3) ∧ decode cJ0_charAt_5068e 11 = .ok (.iload_n 1, 1)) ∧ (decode cJ0_charAt_5068e 12 = .ok (.invokestatic 495, 3) ∧ (decode cJ0_charAt_5068e 15 = .ok (.ireturn, 1) ∧ decode cJ0_charAt_5068e 16 = .ok (.aload_n 0, 1))))) := by decide +kernel
def J0_charAt_5068e (s : St) (a0 a1 : Int) : Rs :=
  grd (isStr a0) (bnd (J0_isLatin1_aae02 s a0) (fun r1 s2 => if r1 = 0 then (none) else (grd (isStr a0) (bnd (J1_charAt_3b067 s2 (a0 + 1000) a1) (fun r3 s4 => grd (0 ≤ r3 ∧ r3 ≤ 65535) (some (r3, s4)))))))
set_option maxRecDepth 100000 in
set_option maxHeartbeats 4000000 in
theorem J0_charAt_5068e_s (G : Gx) (l : Launch) (s : St) (a0 a1 : Int) : Snd G l mJ0_charAt_5068e [(2, a0), (0, a1)] s (J0_charAt_5068e s a0 a1) := by
  refine Snd.of (by decide +kernel) rfl ?_
  show V G l mJ0_charAt_5068e 0 [(0, (2, a0)), (1, (0, a1))] [] s _
  unfold J0_charAt_5068e
  refine V_aload_n dec_J0_charAt_5068e.1.1.1 0 rfl ?_
  refine V_callVs (a := a0) (As := []) (st := []) rfl rfl (J0_isLatin1_aae02_s G l s a0) cal_J0_isLatin1_aae02 rfl ml_J0_492 rfl rfl dec_J0_charAt_5068e.1.1.2 (k_tag (tag := 0) rfl fun r1 s2 => ?_)
  refine V_if_eq (tgt := 16) dec_J0_charAt_5068e.1.2.1 (by decide) ?_ ?_
  · exact V_none
  · refine V_aload_n dec_J0_charAt_5068e.1.2.2 0 rfl ?_
    refine V_sgV fl_J0_9 dec_J0_charAt_5068e.2.1.1 ?_
    refine V_iload_n dec_J0_charAt_5068e.2.1.2 1 rfl ?_
    refine V_callS0 (As := [(2, (a0 + 1000)), (0, a1)]) (st := []) (host := "") rfl (J1_charAt_3b067_s G l s2 (a0 + 1000) a1) cal_J1_charAt_3b067 rfl (Or.inl ml_J0_495) rfl rfl dec_J0_charAt_5068e.2.2.1 (k_tag (tag := 0) rfl fun r3 s4 => ?_)
    exact V_cret rfl dec_J0_charAt_5068e.2.2.2.1
theorem dec_J0_coder_7d493 : ((decode cJ0_coder_7d493 0 = .ok (.getstatic 38, 3) ∧ (decode cJ0_coder_7d493 3 = .ok (.ifCond .eq 10, 3) ∧ decode cJ0_coder_7d493 6 = .ok (.aload_n 0, 1))) ∧ ((decode cJ0_coder_7d493 7 = .ok (.getfield 15, 3) ∧ decode cJ0_coder_7d493 10 = .ok (.goto 4, 3)) ∧ (decode cJ0_coder_7d493 13 = .ok (.iconst 1, 1) ∧ decode cJ0_coder_7d493 14 = .ok (.ireturn, 1)))) := by decide +kernel
def J0_coder_7d493_b14 (s : St) (k0 : Int) : Rs :=
  grd (k0 = 0) (some (k0, s))
set_option maxRecDepth 100000 in
set_option maxHeartbeats 4000000 in
theorem J0_coder_7d493_b14_s (G : Gx) (l : Launch) (s : St) (k0 : Int) : V G l mJ0_coder_7d493 14 [] [(0, k0)] s (J0_coder_7d493_b14 s k0) := by
  unfold J0_coder_7d493_b14
  exact V_bret rfl dec_J0_coder_7d493.2.2.2
def J0_coder_7d493 (s : St) (a0 : Int) : Rs :=
  if (1 : Int) = 0 then (J0_coder_7d493_b14 s 1) else (grd (isStr a0) (J0_coder_7d493_b14 s 0))
set_option maxRecDepth 100000 in
set_option maxHeartbeats 4000000 in
theorem J0_coder_7d493_s (G : Gx) (l : Launch) (s : St) (a0 : Int) : Snd G l mJ0_coder_7d493 [(2, a0)] s (J0_coder_7d493 s a0) := by
  refine Snd.of (by decide +kernel) rfl ?_
  show V G l mJ0_coder_7d493 0 [(0, (2, a0))] [] s _
  unfold J0_coder_7d493
  refine V_gsC fl_J0_38 dec_J0_coder_7d493.1.1 ?_
  refine V_if_eq (tgt := 13) dec_J0_coder_7d493.1.2.1 (by decide) ?_ ?_
  · refine V_iconst dec_J0_coder_7d493.2.2.1 rfl ?_
    exact V_pick [] rfl (J0_coder_7d493_b14_s G l s 1)
  · refine V_aload_n dec_J0_coder_7d493.1.2.2 0 rfl ?_
    refine V_sgC fl_J0_15 dec_J0_coder_7d493.2.1.1 ?_
    refine V_goto (tgt := 14) dec_J0_coder_7d493.2.1.2 (by decide) ?_
    exact V_pick [] rfl (J0_coder_7d493_b14_s G l s 0)
theorem dec_J0_length_8abf5 : ((decode cJ0_length_8abf5 0 = .ok (.aload_n 0, 1) ∧ (decode cJ0_length_8abf5 1 = .ok (.getfield 9, 3) ∧ decode cJ0_length_8abf5 4 = .ok (.arraylength, 1))) ∧ ((decode cJ0_length_8abf5 5 = .ok (.aload_n 0, 1) ∧ decode cJ0_length_8abf5 6 = .ok (.invokevirtual 335, 3)) ∧ (decode cJ0_length_8abf5 9 = .ok (.ishr, 1) ∧ decode cJ0_length_8abf5 10 = .ok (.ireturn, 1)))) := by decide +kernel
def J0_length_8abf5 (s : St) (a0 : Int) : Rs :=
  grd (isStr a0) (grd (isSV (a0 + 1000)) (grd (isStr a0) (bnd (J0_coder_7d493 s a0) (fun r1 s2 => some ((shr32 (strLen ((a0 + 1000) - 1000)) r1), s2)))))
set_option maxRecDepth 100000 in
set_option maxHeartbeats 4000000 in
theorem J0_length_8abf5_s (G : Gx) (l : Launch) (s : St) (a0 : Int) : Snd G l mJ0_length_8abf5 [(2, a0)] s (J0_length_8abf5 s a0) := by
  refine Snd.of (by decide +kernel) rfl ?_
  show V G l mJ0_length_8abf5 0 [(0, (2, a0))] [] s _
  unfold J0_length_8abf5
  refine V_aload_n dec_J0_length_8abf5.1.1 0 rfl ?_
  refine V_sgV fl_J0_9 dec_J0_length_8abf5.1.2.1 ?_
  refine V_salen dec_J0_length_8abf5.1.2.2 ?_
  refine V_aload_n dec_J0_length_8abf5.2.1.1 0 rfl ?_
  refine V_callVs (a := a0) (As := []) (st := [(0, (strLen ((a0 + 1000) - 1000)))]) rfl rfl (J0_coder_7d493_s G l s a0) cal_J0_coder_7d493 rfl ml_J0_335 rfl rfl dec_J0_length_8abf5.2.1.2 (k_tag (tag := 0) rfl fun r1 s2 => ?_)
  refine V_ishr dec_J0_length_8abf5.2.2.1 ?_
  exact V_iret rfl dec_J0_length_8abf5.2.2.2
theorem dec_X8_isWord : (((((decode cX8_isWord 0 = .ok (.lconst 0, 1) ∧ decode cX8_isWord 1 = .ok (.lstore_n 2, 1)) ∧ (decode cX8_isWord 2 = .ok (.iconst 0, 1) ∧ decode cX8_isWord 3 = .ok (.istore 4, 2))) ∧ ((decode cX8_isWord 5 = .ok (.iload 4, 2) ∧ decode cX8_isWord 7 = .ok (.aload_n 1, 1)) ∧ (decode cX8_isWord 8 = .ok (.invokevirtual 51, 3) ∧ (decode cX8_isWord 11 = .ok (.if_icmp .ge 29, 3) ∧ decode cX8_isWord 14 = .ok (.lload_n 2, 1))))) ∧ (((decode cX8_isWord 15 = .ok (.ldc2_w 43, 3) ∧ decode cX8_isWord 18 = .ok (.lmul, 1)) ∧ (decode cX8_isWord 19 = .ok (.aload_n 1, 1) ∧ decode cX8_isWord 20 = .ok (.iload 4, 2))) ∧ ((decode cX8_isWord 22 = .ok (.invokevirtual 56, 3) ∧ decode cX8_isWord 25 = .ok (.i2l, 1)) ∧ (decode cX8_isWord 26 = .ok (.ladd, 1) ∧ (decode cX8_isWord 27 = .ok (.ldc2_w 45, 3) ∧ decode cX8_isWord 30 = .ok (.lsub, 1)))))) ∧ ((((decode cX8_isWord 31 = .ok (.lconst 1, 1) ∧ decode cX8_isWord 32 = .ok (.ladd, 1)) ∧ (decode cX8_isWord 33 = .ok (.lstore_n 2, 1) ∧ decode cX8_isWord 34 = .ok (.iinc 4 1, 3))) ∧ ((decode cX8_isWord 37 = .ok (.goto (-32), 3) ∧ decode cX8_isWord 40 = .ok (.aload_n 0, 1)) ∧ (decode cX8_isWord 41 = .ok (.getfield 36, 3) ∧ (decode cX8_isWord 44 = .ok (.iconst 1, 1) ∧ decode cX8_isWord 45 = .ok (.if_icmp .ne 16, 3))))) ∧ (((decode cX8_isWord 48 = .ok (.aload_n 0, 1) ∧ decode cX8_isWord 49 = .ok (.getfield 39, 3)) ∧ (decode cX8_isWord 52 = .ok (.lload_n 2, 1) ∧ decode cX8_isWord 53 = .ok (.lcmp, 1))) ∧ ((decode cX8_isWord 54 = .ok (.ifCond .ne 7, 3) ∧ decode cX8_isWord 57 = .ok (.iconst 1, 1)) ∧ (decode cX8_isWord 58 = .ok (.goto 4, 3) ∧ (decode cX8_isWord 61 = .ok (.iconst 0, 1) ∧ decode cX8_isWord 62 = .ok (.ireturn, 1))))))) := ⟨⟨by decide +kernel, by decide +kernel⟩, ⟨by decide +kernel, by decide +kernel⟩⟩
def X8_isWord_b62 (s : St) (k0 : Int) : Rs :=
  grd (k0 = 0 ∨ k0 = 1) (some (k0, s))
set_option maxRecDepth 100000 in
set_option maxHeartbeats 4000000 in
theorem X8_isWord_b62_s (G : Gx) (l : Launch) (s : St) (k0 : Int) : V G l mX8_isWord 62 [] [(0, k0)] s (X8_isWord_b62 s k0) := by
  unfold X8_isWord_b62
  exact V_zret rfl dec_X8_isWord.2.2.2.2.2.2
def X8_isWord_b61 (s : St) : Rs :=
  X8_isWord_b62 s 0
set_option maxRecDepth 100000 in
set_option maxHeartbeats 4000000 in
theorem X8_isWord_b61_s (G : Gx) (l : Launch) (s : St) : V G l mX8_isWord 61 [] [] s (X8_isWord_b61 s) := by
  unfold X8_isWord_b61
  refine V_iconst dec_X8_isWord.2.2.2.2.2.1 rfl ?_
  exact V_pick [] rfl (X8_isWord_b62_s G l s 0)
def X8_isWord_b5_body (rk5 : St → Int → Int → Int → Int → Rs) (s : St) (x0 x1 x2 x4 : Int) : Rs :=
  grd (isStr x1) (bnd (J0_length_8abf5 s x1) (fun r1 s2 => if r1 ≤ x4 then (grd (isK s2 18 x0) (if ¬ (gI s2 x0 0) = (1 : Int) then (X8_isWord_b61 s2) else (grd (isK s2 18 x0) (if ¬ (cmp3 (gI s2 x0 2) x2) = 0 then (X8_isWord_b61 s2) else (X8_isWord_b62 s2 1))))) else (grd (isStr x1) (bnd (J0_charAt_5068e s2 x1 x4) (fun r3 s4 => letv (w64 ((w64 ((w64 ((w64 (x2 * 27)) + r3)) - 97)) + 1)) (fun y5 => rk5 s4 x0 x1 y5 (w32 (x4 + 1))))))))
def X8_isWord_b5 (n : Nat) (s : St) (x0 x1 x2 x4 : Int) : Rs := iter (fun (rec : St × Int × Int × Int × Int → Rs) (a : St × Int × Int × Int × Int) => X8_isWord_b5_body (fun (s : St) (x0 x1 x2 x4 : Int) => rec (s, x0, x1, x2, x4)) a.1 a.2.1 a.2.2.1 a.2.2.2.1 a.2.2.2.2) n (s, x0, x1, x2, x4)
theorem X8_isWord_b5_0 (s : St) (x0 x1 x2 x4 : Int) : X8_isWord_b5 0 s x0 x1 x2 x4 = none := rfl
theorem X8_isWord_b5_1 (n : Nat) (s : St) (x0 x1 x2 x4 : Int) : X8_isWord_b5 (n + 1) s x0 x1 x2 x4 = X8_isWord_b5_body (X8_isWord_b5 n) s x0 x1 x2 x4 := rfl
set_option maxRecDepth 100000 in
set_option maxHeartbeats 4000000 in
theorem X8_isWord_b5_body_s (G : Gx) (l : Launch) (rk5 : St → Int → Int → Int → Int → Rs) (hk5 : ∀ (s : St) (x0 x1 x2 x4 : Int), V G l mX8_isWord 5 [(0, (2, x0)), (1, (2, x1)), (2, (1, x2)), (4, (0, x4))] [] s (rk5 s x0 x1 x2 x4)) (s : St) (x0 x1 x2 x4 : Int) : V G l mX8_isWord 5 [(0, (2, x0)), (1, (2, x1)), (2, (1, x2)), (4, (0, x4))] [] s (X8_isWord_b5_body rk5 s x0 x1 x2 x4) := by
  unfold X8_isWord_b5_body
  refine V_iload dec_X8_isWord.1.1.2.1.1 3 rfl ?_
  refine V_aload_n dec_X8_isWord.1.1.2.1.2 1 rfl ?_
  refine V_callVs (a := x1) (As := []) (st := [(0, x4)]) rfl rfl (J0_length_8abf5_s G l s x1) cal_J0_length_8abf5 rfl ml_X8_51 rfl rfl dec_X8_isWord.1.1.2.2.1 (k_tag (tag := 0) rfl fun r1 s2 => ?_)
  refine V_icmp_ge (tgt := 40) dec_X8_isWord.1.1.2.2.2.1 (by decide) ?_ ?_
  · refine V_aload_n dec_X8_isWord.2.1.2.1.2 0 rfl ?_
    refine V_getI 8 0 nf_8_0 ft_8_0 fl_X8_36 dec_X8_isWord.2.1.2.2.1 ?_
    refine V_iconst dec_X8_isWord.2.1.2.2.2.1 rfl ?_
    refine V_icmp_ne (tgt := 61) dec_X8_isWord.2.1.2.2.2.2 (by decide) ?_ ?_
    · exact V_pick [] rfl (X8_isWord_b61_s G l s2)
    · refine V_aload_n dec_X8_isWord.2.2.1.1.1 0 rfl ?_
      refine V_getL 8 2 nf_8_2 ft_8_2 fl_X8_39 dec_X8_isWord.2.2.1.1.2 ?_
      refine V_lload_n dec_X8_isWord.2.2.1.2.1 2 rfl ?_
      refine V_lcmp dec_X8_isWord.2.2.1.2.2 ?_
      refine V_if_ne (tgt := 61) dec_X8_isWord.2.2.2.1.1 (by decide) ?_ ?_
      · exact V_pick [] rfl (X8_isWord_b61_s G l s2)
      · refine V_iconst dec_X8_isWord.2.2.2.1.2 rfl ?_
        refine V_goto (tgt := 62) dec_X8_isWord.2.2.2.2.1 (by decide) ?_
        exact V_pick [] rfl (X8_isWord_b62_s G l s2 1)
  · refine V_lload_n dec_X8_isWord.1.1.2.2.2.2 2 rfl ?_
    refine V_ldc2 (n := 27) cw_X8_43 (by decide) dec_X8_isWord.1.2.1.1.1 ?_
    refine V_lmul dec_X8_isWord.1.2.1.1.2 ?_
    refine V_aload_n dec_X8_isWord.1.2.1.2.1 1 rfl ?_
    refine V_iload dec_X8_isWord.1.2.1.2.2 3 rfl ?_
    refine V_callVs (a := x1) (As := [(0, x4)]) (st := [(1, (w64 (x2 * 27)))]) rfl rfl (J0_charAt_5068e_s G l s2 x1 x4) cal_J0_charAt_5068e rfl ml_X8_56 rfl rfl dec_X8_isWord.1.2.2.1.1 (k_tag (tag := 0) rfl fun r3 s4 => ?_)
    refine V_i2l dec_X8_isWord.1.2.2.1.2 ?_
    refine V_ladd dec_X8_isWord.1.2.2.2.1 ?_
    refine V_ldc2 (n := 97) cw_X8_45 (by decide) dec_X8_isWord.1.2.2.2.2.1 ?_
    refine V_lsub dec_X8_isWord.1.2.2.2.2.2 ?_
    refine V_lconst (n := 1) dec_X8_isWord.2.1.1.1.1 (by decide) ?_
    refine V_ladd dec_X8_isWord.2.1.1.1.2 ?_
    refine V_letv fun y5 => ?_
    refine V_lstore_n (lv' := [(2, (1, y5)), (0, (2, x0)), (1, (2, x1)), (4, (0, x4))]) dec_X8_isWord.2.1.1.2.1 (by decide) rfl ?_
    refine V_iinc (lv' := [(4, (0, (w32 (x4 + 1)))), (2, (1, y5)), (0, (2, x0)), (1, (2, x1))]) dec_X8_isWord.2.1.1.2.2 3 rfl (by decide) rfl ?_
    refine V_goto (tgt := 5) dec_X8_isWord.2.1.2.1.1 (by decide) ?_
    exact V_pick [2, 3, 1, 0] rfl (hk5 s4 x0 x1 y5 (w32 (x4 + 1)))
theorem X8_isWord_b5_s (G : Gx) (l : Launch) (n : Nat) (s : St) (x0 x1 x2 x4 : Int) : V G l mX8_isWord 5 [(0, (2, x0)), (1, (2, x1)), (2, (1, x2)), (4, (0, x4))] [] s (X8_isWord_b5 n s x0 x1 x2 x4) :=
  V_iter (LV := fun a : St × Int × Int × Int × Int => [(0, (2, a.2.1)), (1, (2, a.2.2.1)), (2, (1, a.2.2.2.1)), (4, (0, a.2.2.2.2))]) (ST := fun a : St × Int × Int × Int × Int => []) (SS := fun a : St × Int × Int × Int × Int => a.1) (fun rec hrec a => X8_isWord_b5_body_s G l (fun (s : St) (x0 x1 x2 x4 : Int) => rec (s, x0, x1, x2, x4)) (fun (s : St) (x0 x1 x2 x4 : Int) => hrec (s, x0, x1, x2, x4)) a.1 a.2.1 a.2.2.1 a.2.2.2.1 a.2.2.2.2) n (s, x0, x1, x2, x4)
def X8_isWord (s : St) (a0 a1 : Int) : Rs :=
  X8_isWord_b5 FU s a0 a1 0 0
set_option maxRecDepth 100000 in
set_option maxHeartbeats 4000000 in
theorem X8_isWord_s (G : Gx) (l : Launch) (s : St) (a0 a1 : Int) : Snd G l mX8_isWord [(2, a0), (2, a1)] s (X8_isWord s a0 a1) := by
  refine Snd.of (by decide +kernel) rfl ?_
  show V G l mX8_isWord 0 [(0, (2, a0)), (1, (2, a1))] [] s _
  unfold X8_isWord
  refine V_lconst (n := 0) dec_X8_isWord.1.1.1.1.1 (by decide) ?_
  refine V_lstore_n (lv' := [(2, (1, 0)), (0, (2, a0)), (1, (2, a1))]) dec_X8_isWord.1.1.1.1.2 (by decide) rfl ?_
  refine V_iconst dec_X8_isWord.1.1.1.2.1 rfl ?_
  refine V_istore (lv' := [(4, (0, 0)), (2, (1, 0)), (0, (2, a0)), (1, (2, a1))]) dec_X8_isWord.1.1.1.2.2 (by decide) rfl ?_
  exact V_pick [2, 3, 1, 0] rfl (X8_isWord_b5_s G l FU s a0 a1 0 0)
theorem dec_X4_lineSort : (((((decode cX4_lineSort 0 = .ok (.aload_n 0, 1) ∧ decode cX4_lineSort 1 = .ok (.getfield 25, 3)) ∧ (decode cX4_lineSort 4 = .ok (.ldc 207, 2) ∧ (decode cX4_lineSort 6 = .ok (.invokevirtual 188, 3) ∧ decode cX4_lineSort 9 = .ok (.ifCond .eq 5, 3)))) ∧ ((decode cX4_lineSort 12 = .ok (.iconst 0, 1) ∧ (decode cX4_lineSort 13 = .ok (.ireturn, 1) ∧ decode cX4_lineSort 14 = .ok (.aload_n 0, 1))) ∧ (decode cX4_lineSort 15 = .ok (.getfield 25, 3) ∧ (decode cX4_lineSort 18 = .ok (.ldc 209, 2) ∧ decode cX4_lineSort 20 = .ok (.invokevirtual 188, 3))))) ∧ (((decode cX4_lineSort 23 = .ok (.ifCond .eq 5, 3) ∧ decode cX4_lineSort 26 = .ok (.iconst 1, 1)) ∧ (decode cX4_lineSort 27 = .ok (.ireturn, 1) ∧ (decode cX4_lineSort 28 = .ok (.aload_n 0, 1) ∧ decode cX4_lineSort 29 = .ok (.getfield 25, 3)))) ∧ ((decode cX4_lineSort 32 = .ok (.ldc 211, 2) ∧ (decode cX4_lineSort 34 = .ok (.invokevirtual 188, 3) ∧ decode cX4_lineSort 37 = .ok (.ifCond .eq 5, 3))) ∧ (decode cX4_lineSort 40 = .ok (.iconst 2, 1) ∧ (decode cX4_lineSort 41 = .ok (.ireturn, 1) ∧ decode cX4_lineSort 42 = .ok (.aload_n 0, 1)))))) ∧ ((((decode cX4_lineSort 43 = .ok (.getfield 25, 3) ∧ decode cX4_lineSort 46 = .ok (.ldc 212, 2)) ∧ (decode cX4_lineSort 48 = .ok (.invokevirtual 188, 3) ∧ (decode cX4_lineSort 51 = .ok (.ifCond .eq 5, 3) ∧ decode cX4_lineSort 54 = .ok (.iconst 3, 1)))) ∧ ((decode cX4_lineSort 55 = .ok (.ireturn, 1) ∧ (decode cX4_lineSort 56 = .ok (.aload_n 0, 1) ∧ decode cX4_lineSort 57 = .ok (.getfield 25, 3))) ∧ (decode cX4_lineSort 60 = .ok (.ldc 213, 2) ∧ (decode cX4_lineSort 62 = .ok (.invokevirtual 188, 3) ∧ decode cX4_lineSort 65 = .ok (.ifCond .eq 5, 3))))) ∧ (((decode cX4_lineSort 68 = .ok (.iconst 4, 1) ∧ decode cX4_lineSort 69 = .ok (.ireturn, 1)) ∧ (decode cX4_lineSort 70 = .ok (.aload_n 0, 1) ∧ (decode cX4_lineSort 71 = .ok (.getfield 25, 3) ∧ decode cX4_lineSort 74 = .ok (.ldc 214, 2)))) ∧ ((decode cX4_lineSort 76 = .ok (.invokevirtual 188, 3) ∧ (decode cX4_lineSort 79 = .ok (.ifCond .eq 7, 3) ∧ decode cX4_lineSort 82 = .ok (.iconst 5, 1))) ∧ (decode cX4_lineSort 83 = .ok (.goto 4, 3) ∧ (decode cX4_lineSort 86 = .ok (.iconst (-1), 1) ∧ decode cX4_lineSort 87 = .ok (.ireturn, 1))))))) := ⟨⟨by decide +kernel, by decide +kernel⟩, ⟨by decide +kernel, by decide +kernel⟩⟩
def X4_lineSort_b87 (s : St) (k0 : Int) : Rs :=
  some (k0, s)
set_option maxRecDepth 100000 in
set_option maxHeartbeats 4000000 in
theorem X4_lineSort_b87_s (G : Gx) (l : Launch) (s : St) (k0 : Int) : V G l mX4_lineSort 87 [] [(0, k0)] s (X4_lineSort_b87 s k0) := by
  unfold X4_lineSort_b87
  exact V_iret rfl dec_X4_lineSort.2.2.2.2.2.2
def X4_lineSort (s : St) (a0 : Int) : Rs :=
  grd (isK s 14 a0) (grd (isK s 18 (gR s a0 3)) (bnd (X8_isWord s (gR s a0 3) (1000000 + ((0 : Nat) : Int))) (fun r1 s2 => if r1 = 0 then (grd (isK s2 14 a0) (grd (isK s2 18 (gR s2 a0 3)) (bnd (X8_isWord s2 (gR s2 a0 3) (1000000 + ((3 : Nat) : Int))) (fun r3 s4 => if r3 = 0 then (grd (isK s4 14 a0) (grd (isK s4 18 (gR s4 a0 3)) (bnd (X8_isWord s4 (gR s4 a0 3) (1000000 + ((4 : Nat) : Int))) (fun r5 s6 => if r5 = 0 then (grd (isK s6 14 a0) (grd (isK s6 18 (gR s6 a0 3)) (bnd (X8_isWord s6 (gR s6 a0 3) (1000000 + ((5 : Nat) : Int))) (fun r7 s8 => if r7 = 0 then (grd (isK s8 14 a0) (grd (isK s8 18 (gR s8 a0 3)) (bnd (X8_isWord s8 (gR s8 a0 3) (1000000 + ((6 : Nat) : Int))) (fun r9 s10 => if r9 = 0 then (grd (isK s10 14 a0) (grd (isK s10 18 (gR s10 a0 3)) (bnd (X8_isWord s10 (gR s10 a0 3) (1000000 + ((7 : Nat) : Int))) (fun r11 s12 => if r11 = 0 then (X4_lineSort_b87 s12 (-1)) else (X4_lineSort_b87 s12 5))))) else (some (4, s10)))))) else (some (3, s8)))))) else (some (2, s6)))))) else (some (1, s4)))))) else (some (0, s2)))))
set_option maxRecDepth 100000 in
set_option maxHeartbeats 4000000 in
theorem X4_lineSort_s (G : Gx) (l : Launch) (s : St) (a0 : Int) : Snd G l mX4_lineSort [(2, a0)] s (X4_lineSort s a0) := by
  refine Snd.of (by decide +kernel) rfl ?_
  show V G l mX4_lineSort 0 [(0, (2, a0))] [] s _
  unfold X4_lineSort
  refine V_aload_n dec_X4_lineSort.1.1.1.1.1 0 rfl ?_
  refine V_getR 4 3 nf_4_3 ft_4_3 fl_X4_25 dec_X4_lineSort.1.1.1.1.2 ?_
  refine V_ldcS 0 _ rfl rfl rfl dec_X4_lineSort.1.1.1.2.1 ?_
  refine V_callV0 (ci := 8) (a := (gR s a0 3)) (As := [(2, (1000000 + ((0 : Nat) : Int)))]) (st := []) rfl rfl (X8_isWord_s G l s (gR s a0 3) (1000000 + ((0 : Nat) : Int))) cal_X8_isWord rfl ml_X4_188 rfl rfl dec_X4_lineSort.1.1.1.2.2.1 (k_tag (tag := 0) rfl fun r1 s2 => ?_)
  refine V_if_eq (tgt := 14) dec_X4_lineSort.1.1.1.2.2.2 (by decide) ?_ ?_
  · refine V_aload_n dec_X4_lineSort.1.1.2.1.2.2 0 rfl ?_
    refine V_getR 4 3 nf_4_3 ft_4_3 fl_X4_25 dec_X4_lineSort.1.1.2.2.1 ?_
    refine V_ldcS 3 _ rfl rfl rfl dec_X4_lineSort.1.1.2.2.2.1 ?_
    refine V_callV0 (ci := 8) (a := (gR s2 a0 3)) (As := [(2, (1000000 + ((3 : Nat) : Int)))]) (st := []) rfl rfl (X8_isWord_s G l s2 (gR s2 a0 3) (1000000 + ((3 : Nat) : Int))) cal_X8_isWord rfl ml_X4_188 rfl rfl dec_X4_lineSort.1.1.2.2.2.2 (k_tag (tag := 0) rfl fun r3 s4 => ?_)
    refine V_if_eq (tgt := 28) dec_X4_lineSort.1.2.1.1.1 (by decide) ?_ ?_
    · refine V_aload_n dec_X4_lineSort.1.2.1.2.2.1 0 rfl ?_
      refine V_getR 4 3 nf_4_3 ft_4_3 fl_X4_25 dec_X4_lineSort.1.2.1.2.2.2 ?_
      refine V_ldcS 4 _ rfl rfl rfl dec_X4_lineSort.1.2.2.1.1 ?_
      refine V_callV0 (ci := 8) (a := (gR s4 a0 3)) (As := [(2, (1000000 + ((4 : Nat) : Int)))]) (st := []) rfl rfl (X8_isWord_s G l s4 (gR s4 a0 3) (1000000 + ((4 : Nat) : Int))) cal_X8_isWord rfl ml_X4_188 rfl rfl dec_X4_lineSort.1.2.2.1.2.1 (k_tag (tag := 0) rfl fun r5 s6 => ?_)
      refine V_if_eq (tgt := 42) dec_X4_lineSort.1.2.2.1.2.2 (by decide) ?_ ?_
      · refine V_aload_n dec_X4_lineSort.1.2.2.2.2.2 0 rfl ?_
        refine V_getR 4 3 nf_4_3 ft_4_3 fl_X4_25 dec_X4_lineSort.2.1.1.1.1 ?_
        refine V_ldcS 5 _ rfl rfl rfl dec_X4_lineSort.2.1.1.1.2 ?_
        refine V_callV0 (ci := 8) (a := (gR s6 a0 3)) (As := [(2, (1000000 + ((5 : Nat) : Int)))]) (st := []) rfl rfl (X8_isWord_s G l s6 (gR s6 a0 3) (1000000 + ((5 : Nat) : Int))) cal_X8_isWord rfl ml_X4_188 rfl rfl dec_X4_lineSort.2.1.1.2.1 (k_tag (tag := 0) rfl fun r7 s8 => ?_)
        refine V_if_eq (tgt := 56) dec_X4_lineSort.2.1.1.2.2.1 (by decide) ?_ ?_
        · refine V_aload_n dec_X4_lineSort.2.1.2.1.2.1 0 rfl ?_
          refine V_getR 4 3 nf_4_3 ft_4_3 fl_X4_25 dec_X4_lineSort.2.1.2.1.2.2 ?_
          refine V_ldcS 6 _ rfl rfl rfl dec_X4_lineSort.2.1.2.2.1 ?_
          refine V_callV0 (ci := 8) (a := (gR s8 a0 3)) (As := [(2, (1000000 + ((6 : Nat) : Int)))]) (st := []) rfl rfl (X8_isWord_s G l s8 (gR s8 a0 3) (1000000 + ((6 : Nat) : Int))) cal_X8_isWord rfl ml_X4_188 rfl rfl dec_X4_lineSort.2.1.2.2.2.1 (k_tag (tag := 0) rfl fun r9 s10 => ?_)
          refine V_if_eq (tgt := 70) dec_X4_lineSort.2.1.2.2.2.2 (by decide) ?_ ?_
          · refine V_aload_n dec_X4_lineSort.2.2.1.2.1 0 rfl ?_
            refine V_getR 4 3 nf_4_3 ft_4_3 fl_X4_25 dec_X4_lineSort.2.2.1.2.2.1 ?_
            refine V_ldcS 7 _ rfl rfl rfl dec_X4_lineSort.2.2.1.2.2.2 ?_
            refine V_callV0 (ci := 8) (a := (gR s10 a0 3)) (As := [(2, (1000000 + ((7 : Nat) : Int)))]) (st := []) rfl rfl (X8_isWord_s G l s10 (gR s10 a0 3) (1000000 + ((7 : Nat) : Int))) cal_X8_isWord rfl ml_X4_188 rfl rfl dec_X4_lineSort.2.2.2.1.1 (k_tag (tag := 0) rfl fun r11 s12 => ?_)
            refine V_if_eq (tgt := 86) dec_X4_lineSort.2.2.2.1.2.1 (by decide) ?_ ?_
            · refine V_iconst dec_X4_lineSort.2.2.2.2.2.1 rfl ?_
              exact V_pick [] rfl (X4_lineSort_b87_s G l s12 (-1))
            · refine V_iconst dec_X4_lineSort.2.2.2.1.2.2 rfl ?_
              refine V_goto (tgt := 87) dec_X4_lineSort.2.2.2.2.1 (by decide) ?_
              exact V_pick [] rfl (X4_lineSort_b87_s G l s12 5)
          · refine V_iconst dec_X4_lineSort.2.2.1.1.1 rfl ?_
            exact V_iret rfl dec_X4_lineSort.2.2.1.1.2
        · refine V_iconst dec_X4_lineSort.2.1.1.2.2.2 rfl ?_
          exact V_iret rfl dec_X4_lineSort.2.1.2.1.1
      · refine V_iconst dec_X4_lineSort.1.2.2.2.1 rfl ?_
        exact V_iret rfl dec_X4_lineSort.1.2.2.2.2.1
    · refine V_iconst dec_X4_lineSort.1.2.1.1.2 rfl ?_
      exact V_iret rfl dec_X4_lineSort.1.2.1.2.1
  · refine V_iconst dec_X4_lineSort.1.1.2.1.1 rfl ?_
    exact V_iret rfl dec_X4_lineSort.1.1.2.1.2.1
theorem dec_X8_sortAt : (((((decode cX8_sortAt 0 = .ok (.iload_n 1, 1) ∧ decode cX8_sortAt 1 = .ok (.ifCond .lt 11, 3)) ∧ (decode cX8_sortAt 4 = .ok (.iload_n 1, 1) ∧ (decode cX8_sortAt 5 = .ok (.aload_n 0, 1) ∧ decode cX8_sortAt 6 = .ok (.getfield 19, 3)))) ∧ ((decode cX8_sortAt 9 = .ok (.if_icmp .lt 5, 3) ∧ decode cX8_sortAt 12 = .ok (.iconst 0, 1)) ∧ (decode cX8_sortAt 13 = .ok (.ireturn, 1) ∧ (decode cX8_sortAt 14 = .ok (.aload_n 0, 1) ∧ decode cX8_sortAt 15 = .ok (.getfield 7, 3))))) ∧ (((decode cX8_sortAt 18 = .ok (.iload_n 1, 1) ∧ decode cX8_sortAt 19 = .ok (.baload, 1)) ∧ (decode cX8_sortAt 20 = .ok (.istore_n 2, 1) ∧ (decode cX8_sortAt 21 = .ok (.iload_n 2, 1) ∧ decode cX8_sortAt 22 = .ok (.bipush 97, 2)))) ∧ ((decode cX8_sortAt 24 = .ok (.if_icmp .lt 11, 3) ∧ decode cX8_sortAt 27 = .ok (.iload_n 2, 1)) ∧ (decode cX8_sortAt 28 = .ok (.bipush 122, 2) ∧ (decode cX8_sortAt 30 = .ok (.if_icmp .gt 5, 3) ∧ decode cX8_sortAt 33 = .ok (.iconst 1, 1)))))) ∧ ((((decode cX8_sortAt 34 = .ok (.ireturn, 1) ∧ decode cX8_sortAt 35 = .ok (.iload_n 2, 1)) ∧ (decode cX8_sortAt 36 = .ok (.bipush 48, 2) ∧ (decode cX8_sortAt 38 = .ok (.if_icmp .lt 11, 3) ∧ decode cX8_sortAt 41 = .ok (.iload_n 2, 1)))) ∧ ((decode cX8_sortAt 42 = .ok (.bipush 57, 2) ∧ decode cX8_sortAt 44 = .ok (.if_icmp .gt 5, 3)) ∧ (decode cX8_sortAt 47 = .ok (.iconst 2, 1) ∧ (decode cX8_sortAt 48 = .ok (.ireturn, 1) ∧ decode cX8_sortAt 49 = .ok (.iload_n 2, 1))))) ∧ (((decode cX8_sortAt 50 = .ok (.bipush 59, 2) ∧ decode cX8_sortAt 52 = .ok (.if_icmp .ne 5, 3)) ∧ (decode cX8_sortAt 55 = .ok (.iconst 3, 1) ∧ (decode cX8_sortAt 56 = .ok (.ireturn, 1) ∧ decode cX8_sortAt 57 = .ok (.iload_n 2, 1)))) ∧ ((decode cX8_sortAt 58 = .ok (.bipush 32, 2) ∧ (decode cX8_sortAt 60 = .ok (.if_icmp .ne 7, 3) ∧ decode cX8_sortAt 63 = .ok (.iconst 5, 1))) ∧ (decode cX8_sortAt 64 = .ok (.goto 4, 3) ∧ (decode cX8_sortAt 67 = .ok (.iconst 4, 1) ∧ decode cX8_sortAt 68 = .ok (.ireturn, 1))))))) := ⟨⟨by decide +kernel, by decide +kernel⟩, ⟨by decide +kernel, by decide +kernel⟩⟩
def X8_sortAt_b12 (s : St) : Rs :=
  some (0, s)
set_option maxRecDepth 100000 in
set_option maxHeartbeats 4000000 in
theorem X8_sortAt_b12_s (G : Gx) (l : Launch) (s : St) : V G l mX8_sortAt 12 [] [] s (X8_sortAt_b12 s) := by
  unfold X8_sortAt_b12
  refine V_iconst dec_X8_sortAt.1.1.2.1.2 rfl ?_
  exact V_iret rfl dec_X8_sortAt.1.1.2.2.1
def X8_sortAt_b68 (s : St) (k0 : Int) : Rs :=
  some (k0, s)
set_option maxRecDepth 100000 in
set_option maxHeartbeats 4000000 in
theorem X8_sortAt_b68_s (G : Gx) (l : Launch) (s : St) (k0 : Int) : V G l mX8_sortAt 68 [] [(0, k0)] s (X8_sortAt_b68 s k0) := by
  unfold X8_sortAt_b68
  exact V_iret rfl dec_X8_sortAt.2.2.2.2.2.2
def X8_sortAt_b49 (s : St) (x2 : Int) : Rs :=
  if ¬ x2 = (59 : Int) then (if ¬ x2 = (32 : Int) then (X8_sortAt_b68 s 4) else (X8_sortAt_b68 s 5)) else (some (3, s))
set_option maxRecDepth 100000 in
set_option maxHeartbeats 4000000 in
theorem X8_sortAt_b49_s (G : Gx) (l : Launch) (s : St) (x2 : Int) : V G l mX8_sortAt 49 [(2, (0, x2))] [] s (X8_sortAt_b49 s x2) := by
  unfold X8_sortAt_b49
  refine V_iload_n dec_X8_sortAt.2.1.2.2.2.2 0 rfl ?_
  refine V_bipush dec_X8_sortAt.2.2.1.1.1 rfl ?_
  refine V_icmp_ne (tgt := 57) dec_X8_sortAt.2.2.1.1.2 (by decide) ?_ ?_
  · refine V_iload_n dec_X8_sortAt.2.2.1.2.2.2 0 rfl ?_
    refine V_bipush dec_X8_sortAt.2.2.2.1.1 rfl ?_
    refine V_icmp_ne (tgt := 67) dec_X8_sortAt.2.2.2.1.2.1 (by decide) ?_ ?_
    · refine V_iconst dec_X8_sortAt.2.2.2.2.2.1 rfl ?_
      exact V_pick [] rfl (X8_sortAt_b68_s G l s 4)
    · refine V_iconst dec_X8_sortAt.2.2.2.1.2.2 rfl ?_
      refine V_goto (tgt := 68) dec_X8_sortAt.2.2.2.2.1 (by decide) ?_
      exact V_pick [] rfl (X8_sortAt_b68_s G l s 5)
  · refine V_iconst dec_X8_sortAt.2.2.1.2.1 rfl ?_
    exact V_iret rfl dec_X8_sortAt.2.2.1.2.2.1
def X8_sortAt_b35 (s : St) (x2 : Int) : Rs :=
  if x2 < (48 : Int) then (X8_sortAt_b49 s x2) else (if (57 : Int) < x2 then (X8_sortAt_b49 s x2) else (some (2, s)))
set_option maxRecDepth 100000 in
set_option maxHeartbeats 4000000 in
theorem X8_sortAt_b35_s (G : Gx) (l : Launch) (s : St) (x2 : Int) : V G l mX8_sortAt 35 [(2, (0, x2))] [] s (X8_sortAt_b35 s x2) := by
  unfold X8_sortAt_b35
  refine V_iload_n dec_X8_sortAt.2.1.1.1.2 0 rfl ?_
  refine V_bipush dec_X8_sortAt.2.1.1.2.1 rfl ?_
  refine V_icmp_lt (tgt := 49) dec_X8_sortAt.2.1.1.2.2.1 (by decide) ?_ ?_
  · exact V_pick [0] rfl (X8_sortAt_b49_s G l s x2)
  · refine V_iload_n dec_X8_sortAt.2.1.1.2.2.2 0 rfl ?_
    refine V_bipush dec_X8_sortAt.2.1.2.1.1 rfl ?_
    refine V_icmp_gt (tgt := 49) dec_X8_sortAt.2.1.2.1.2 (by decide) ?_ ?_
    · exact V_pick [0] rfl (X8_sortAt_b49_s G l s x2)
    · refine V_iconst dec_X8_sortAt.2.1.2.2.1 rfl ?_
      exact V_iret rfl dec_X8_sortAt.2.1.2.2.2.1
def X8_sortAt (s : St) (a0 a1 : Int) : Rs :=
  if a1 < 0 then (X8_sortAt_b12 s) else (grd (isK s 18 a0) (if a1 < (gI s a0 4) then (grd (isK s 18 a0) (grd (isK s 2 (gR s a0 3) ∧ 0 ≤ a1 ∧ a1 < ln s (gR s a0 3)) (letv (gI s (gR s a0 3) a1.toNat) (fun y1 => if y1 < (97 : Int) then (X8_sortAt_b35 s y1) else (if (122 : Int) < y1 then (X8_sortAt_b35 s y1) else (some (1, s))))))) else (X8_sortAt_b12 s)))
set_option maxRecDepth 100000 in
set_option maxHeartbeats 4000000 in
theorem X8_sortAt_s (G : Gx) (l : Launch) (s : St) (a0 a1 : Int) : Snd G l mX8_sortAt [(2, a0), (0, a1)] s (X8_sortAt s a0 a1) := by
  refine Snd.of (by decide +kernel) rfl ?_
  show V G l mX8_sortAt 0 [(0, (2, a0)), (1, (0, a1))] [] s _
  unfold X8_sortAt
  refine V_iload_n dec_X8_sortAt.1.1.1.1.1 1 rfl ?_
  refine V_if_lt (tgt := 12) dec_X8_sortAt.1.1.1.1.2 (by decide) ?_ ?_
  · exact V_pick [] rfl (X8_sortAt_b12_s G l s)
  · refine V_iload_n dec_X8_sortAt.1.1.1.2.1 1 rfl ?_
    refine V_aload_n dec_X8_sortAt.1.1.1.2.2.1 0 rfl ?_
    refine V_getI 8 4 nf_8_4 ft_8_4 fl_X8_19 dec_X8_sortAt.1.1.1.2.2.2 ?_
    refine V_icmp_lt (tgt := 14) dec_X8_sortAt.1.1.2.1.1 (by decide) ?_ ?_
    · refine V_aload_n dec_X8_sortAt.1.1.2.2.2.1 0 rfl ?_
      refine V_getR 8 3 nf_8_3 ft_8_3 fl_X8_7 dec_X8_sortAt.1.1.2.2.2.2 ?_
      refine V_iload_n dec_X8_sortAt.1.2.1.1.1 1 rfl ?_
      refine V_bald dec_X8_sortAt.1.2.1.1.2 ?_
      refine V_letv fun y1 => ?_
      refine V_istore_n (lv' := [(2, (0, y1)), (0, (2, a0)), (1, (0, a1))]) dec_X8_sortAt.1.2.1.2.1 (by decide) rfl ?_
      refine V_iload_n dec_X8_sortAt.1.2.1.2.2.1 0 rfl ?_
      refine V_bipush dec_X8_sortAt.1.2.1.2.2.2 rfl ?_
      refine V_icmp_lt (tgt := 35) dec_X8_sortAt.1.2.2.1.1 (by decide) ?_ ?_
      · exact V_pick [0] rfl (X8_sortAt_b35_s G l s y1)
      · refine V_iload_n dec_X8_sortAt.1.2.2.1.2 0 rfl ?_
        refine V_bipush dec_X8_sortAt.1.2.2.2.1 rfl ?_
        refine V_icmp_gt (tgt := 35) dec_X8_sortAt.1.2.2.2.2.1 (by decide) ?_ ?_
        · exact V_pick [0] rfl (X8_sortAt_b35_s G l s y1)
        · refine V_iconst dec_X8_sortAt.1.2.2.2.2.2 rfl ?_
          exact V_iret rfl dec_X8_sortAt.2.1.1.1.1
    · exact V_pick [] rfl (X8_sortAt_b12_s G l s)
theorem dec_X8_step : (((((((decode cX8_step 0 = .ok (.aload_n 0, 1) ∧ decode cX8_step 1 = .ok (.getfield 23, 3)) ∧ (decode cX8_step 4 = .ok (.aload_n 0, 1) ∧ decode cX8_step 5 = .ok (.getfield 19, 3))) ∧ ((decode cX8_step 8 = .ok (.if_icmp .ge 28, 3) ∧ decode cX8_step 11 = .ok (.aload_n 0, 1)) ∧ (decode cX8_step 12 = .ok (.aload_n 0, 1) ∧ decode cX8_step 13 = .ok (.getfield 23, 3)))) ∧ (((decode cX8_step 16 = .ok (.invokevirtual 29, 3) ∧ decode cX8_step 19 = .ok (.iconst 5, 1)) ∧ (decode cX8_step 20 = .ok (.if_icmp .ne 16, 3) ∧ decode cX8_step 23 = .ok (.aload_n 0, 1))) ∧ ((decode cX8_step 24 = .ok (.dup, 1) ∧ decode cX8_step 25 = .ok (.getfield 23, 3)) ∧ (decode cX8_step 28 = .ok (.iconst 1, 1) ∧ (decode cX8_step 29 = .ok (.iadd, 1) ∧ decode cX8_step 30 = .ok (.putfield 23, 3)))))) ∧ ((((decode cX8_step 33 = .ok (.goto (-33), 3) ∧ decode cX8_step 36 = .ok (.aload_n 0, 1)) ∧ (decode cX8_step 37 = .ok (.aload_n 0, 1) ∧ decode cX8_step 38 = .ok (.getfield 23, 3))) ∧ ((decode cX8_step 41 = .ok (.putfield 33, 3) ∧ decode cX8_step 44 = .ok (.aload_n 0, 1)) ∧ (decode cX8_step 45 = .ok (.aload_n 0, 1) ∧ (decode cX8_step 46 = .ok (.aload_n 0, 1) ∧ decode cX8_step 47 = .ok (.getfield 33, 3))))) ∧ (((decode cX8_step 50 = .ok (.invokevirtual 29, 3) ∧ decode cX8_step 53 = .ok (.putfield 36, 3)) ∧ (decode cX8_step 56 = .ok (.aload_n 0, 1) ∧ decode cX8_step 57 = .ok (.lconst 0, 1))) ∧ ((decode cX8_step 58 = .ok (.putfield 39, 3) ∧ decode cX8_step 61 = .ok (.aload_n 0, 1)) ∧ (decode cX8_step 62 = .ok (.getfield 36, 3) ∧ (decode cX8_step 65 = .ok (.iconst 1, 1) ∧ decode cX8_step 66 = .ok (.if_icmp .ne 94, 3))))))) ∧ (((((decode cX8_step 69 = .ok (.aload_n 0, 1) ∧ decode cX8_step 70 = .ok (.getfield 23, 3)) ∧ (decode cX8_step 73 = .ok (.aload_n 0, 1) ∧ decode cX8_step 74 = .ok (.getfield 19, 3))) ∧ ((decode cX8_step 77 = .ok (.if_icmp .ge 57, 3) ∧ decode cX8_step 80 = .ok (.aload_n 0, 1)) ∧ (decode cX8_step 81 = .ok (.aload_n 0, 1) ∧ (decode cX8_step 82 = .ok (.getfield 23, 3) ∧ decode cX8_step 85 = .ok (.invokevirtual 29, 3))))) ∧ (((decode cX8_step 88 = .ok (.iconst 1, 1) ∧ decode cX8_step 89 = .ok (.if_icmp .ne 45, 3)) ∧ (decode cX8_step 92 = .ok (.aload_n 0, 1) ∧ decode cX8_step 93 = .ok (.aload_n 0, 1))) ∧ ((decode cX8_step 94 = .ok (.getfield 39, 3) ∧ decode cX8_step 97 = .ok (.ldc2_w 43, 3)) ∧ (decode cX8_step 100 = .ok (.lmul, 1) ∧ (decode cX8_step 101 = .ok (.aload_n 0, 1) ∧ decode cX8_step 102 = .ok (.getfield 7, 3)))))) ∧ ((((decode cX8_step 105 = .ok (.aload_n 0, 1) ∧ decode cX8_step 106 = .ok (.getfield 23, 3)) ∧ (decode cX8_step 109 = .ok (.baload, 1) ∧ decode cX8_step 110 = .ok (.i2l, 1))) ∧ ((decode cX8_step 111 = .ok (.ladd, 1) ∧ decode cX8_step 112 = .ok (.ldc2_w 45, 3)) ∧ (decode cX8_step 115 = .ok (.lsub, 1) ∧ (decode cX8_step 116 = .ok (.lconst 1, 1) ∧ decode cX8_step 117 = .ok (.ladd, 1))))) ∧ (((decode cX8_step 118 = .ok (.putfield 39, 3) ∧ decode cX8_step 121 = .ok (.aload_n 0, 1)) ∧ (decode cX8_step 122 = .ok (.dup, 1) ∧ decode cX8_step 123 = .ok (.getfield 23, 3))) ∧ ((decode cX8_step 126 = .ok (.iconst 1, 1) ∧ decode cX8_step 127 = .ok (.iadd, 1)) ∧ (decode cX8_step 128 = .ok (.putfield 23, 3) ∧ (decode cX8_step 131 = .ok (.goto (-62), 3) ∧ decode cX8_step 134 = .ok (.aload_n 0, 1)))))))) ∧ ((((((decode cX8_step 135 = .ok (.aload_n 0, 1) ∧ decode cX8_step 136 = .ok (.getfield 23, 3)) ∧ (decode cX8_step 139 = .ok (.aload_n 0, 1) ∧ decode cX8_step 140 = .ok (.getfield 33, 3))) ∧ ((decode cX8_step 143 = .ok (.isub, 1) ∧ decode cX8_step 144 = .ok (.bipush 8, 2)) ∧ (decode cX8_step 146 = .ok (.if_icmp .le 7, 3) ∧ (decode cX8_step 149 = .ok (.iconst 4, 1) ∧ decode cX8_step 150 = .ok (.goto 4, 3))))) ∧ (((decode cX8_step 153 = .ok (.iconst 1, 1) ∧ decode cX8_step 154 = .ok (.putfield 36, 3)) ∧ (decode cX8_step 157 = .ok (.goto 116, 3) ∧ decode cX8_step 160 = .ok (.aload_n 0, 1))) ∧ ((decode cX8_step 161 = .ok (.getfield 36, 3) ∧ decode cX8_step 164 = .ok (.iconst 2, 1)) ∧ (decode cX8_step 165 = .ok (.if_icmp .ne 91, 3) ∧ (decode cX8_step 168 = .ok (.aload_n 0, 1) ∧ decode cX8_step 169 = .ok (.getfield 23, 3)))))) ∧ ((((decode cX8_step 172 = .ok (.aload_n 0, 1) ∧ decode cX8_step 173 = .ok (.getfield 19, 3)) ∧ (decode cX8_step 176 = .ok (.if_icmp .ge 55, 3) ∧ decode cX8_step 179 = .ok (.aload_n 0, 1))) ∧ ((decode cX8_step 180 = .ok (.aload_n 0, 1) ∧ decode cX8_step 181 = .ok (.getfield 23, 3)) ∧ (decode cX8_step 184 = .ok (.invokevirtual 29, 3) ∧ (decode cX8_step 187 = .ok (.iconst 2, 1) ∧ decode cX8_step 188 = .ok (.if_icmp .ne 43, 3))))) ∧ (((decode cX8_step 191 = .ok (.aload_n 0, 1) ∧ decode cX8_step 192 = .ok (.aload_n 0, 1)) ∧ (decode cX8_step 193 = .ok (.getfield 39, 3) ∧ decode cX8_step 196 = .ok (.ldc2_w 47, 3))) ∧ ((decode cX8_step 199 = .ok (.lmul, 1) ∧ decode cX8_step 200 = .ok (.aload_n 0, 1)) ∧ (decode cX8_step 201 = .ok (.getfield 7, 3) ∧ (decode cX8_step 204 = .ok (.aload_n 0, 1) ∧ decode cX8_step 205 = .ok (.getfield 23, 3))))))) ∧ (((((decode cX8_step 208 = .ok (.baload, 1) ∧ decode cX8_step 209 = .ok (.i2l, 1)) ∧ (decode cX8_step 210 = .ok (.ladd, 1) ∧ decode cX8_step 211 = .ok (.ldc2_w 49, 3))) ∧ ((decode cX8_step 214 = .ok (.lsub, 1) ∧ decode cX8_step 215 = .ok (.putfield 39, 3)) ∧ (decode cX8_step 218 = .ok (.aload_n 0, 1) ∧ (decode cX8_step 219 = .ok (.dup, 1) ∧ decode cX8_step 220 = .ok (.getfield 23, 3))))) ∧ (((decode cX8_step 223 = .ok (.iconst 1, 1) ∧ decode cX8_step 224 = .ok (.iadd, 1)) ∧ (decode cX8_step 225 = .ok (.putfield 23, 3) ∧ decode cX8_step 228 = .ok (.goto (-60), 3))) ∧ ((decode cX8_step 231 = .ok (.aload_n 0, 1) ∧ decode cX8_step 232 = .ok (.aload_n 0, 1)) ∧ (decode cX8_step 233 = .ok (.getfield 23, 3) ∧ (decode cX8_step 236 = .ok (.aload_n 0, 1) ∧ decode cX8_step 237 = .ok (.getfield 33, 3)))))) ∧ ((((decode cX8_step 240 = .ok (.isub, 1) ∧ decode cX8_step 241 = .ok (.iconst 3, 1)) ∧ (decode cX8_step 242 = .ok (.if_icmp .le 7, 3) ∧ decode cX8_step 245 = .ok (.iconst 4, 1))) ∧ ((decode cX8_step 246 = .ok (.goto 4, 3) ∧ decode cX8_step 249 = .ok (.iconst 2, 1)) ∧ (decode cX8_step 250 = .ok (.putfield 36, 3) ∧ (decode cX8_step 253 = .ok (.goto 20, 3) ∧ decode cX8_step 256 = .ok (.aload_n 0, 1))))) ∧ (((decode cX8_step 257 = .ok (.getfield 36, 3) ∧ decode cX8_step 260 = .ok (.ifCond .eq 13, 3)) ∧ (decode cX8_step 263 = .ok (.aload_n 0, 1) ∧ decode cX8_step 264 = .ok (.dup, 1))) ∧ ((decode cX8_step 265 = .ok (.getfield 23, 3) ∧ decode cX8_step 268 = .ok (.iconst 1, 1)) ∧ (decode cX8_step 269 = .ok (.iadd, 1) ∧ (decode cX8_step 270 = .ok (.putfield 23, 3) ∧ decode cX8_step 273 = .ok (.return_, 1))))))))) := ⟨⟨⟨⟨by decide +kernel, by decide +kernel⟩, ⟨by decide +kernel, by decide +kernel⟩⟩, ⟨⟨by decide +kernel, by decide +kernel⟩, ⟨by decide +kernel, by decide +kernel⟩⟩⟩, ⟨⟨⟨by decide +kernel, by decide +kernel⟩, ⟨by decide +kernel, by decide +kernel⟩⟩, ⟨⟨by decide +kernel, by decide +kernel⟩, ⟨by decide +kernel, by decide +kernel⟩⟩⟩⟩
def X8_step_b273 (s : St) : Rs :=
  some (0, s)
set_option maxRecDepth 100000 in
set_option maxHeartbeats 4000000 in
theorem X8_step_b273_s (G : Gx) (l : Launch) (s : St) : V G l mX8_step 273 [] [] s (X8_step_b273 s) := by
  unfold X8_step_b273
  exact V_vret rfl dec_X8_step.2.2.2.2.2.2.2.2
def X8_step_b250 (s : St) (k0 k1 : Int) : Rs :=
  grd (isK s 18 k1) (lets (pI s k1 0 k0) (fun s7 => X8_step_b273 s7))
set_option maxRecDepth 100000 in
set_option maxHeartbeats 4000000 in
theorem X8_step_b250_s (G : Gx) (l : Launch) (s : St) (k0 k1 : Int) : V G l mX8_step 250 [] [(0, k0), (2, k1)] s (X8_step_b250 s k0 k1) := by
  unfold X8_step_b250
  refine V_putI (host := "") 8 0 nf_8_0 ty_8_0 (Or.inl ⟨fl_X8_36, Or.inl rfl⟩) dec_X8_step.2.2.2.1.2.2.1 ?_
  refine V_lets fun s7 => ?_
  refine V_goto (tgt := 273) dec_X8_step.2.2.2.1.2.2.2.1 (by decide) ?_
  exact V_pick [] rfl (X8_step_b273_s G l s7)
def X8_step_b231 (s : St) (x0 : Int) : Rs :=
  grd (isK s 18 x0) (grd (isK s 18 x0) (if (w32 ((gI s x0 5) - (gI s x0 1))) ≤ (3 : Int) then (X8_step_b250 s 2 x0) else (X8_step_b250 s 4 x0)))
set_option maxRecDepth 100000 in
set_option maxHeartbeats 4000000 in
theorem X8_step_b231_s (G : Gx) (l : Launch) (s : St) (x0 : Int) : V G l mX8_step 231 [(0, (2, x0))] [] s (X8_step_b231 s x0) := by
  unfold X8_step_b231
  refine V_aload_n dec_X8_step.2.2.1.2.2.1.1 0 rfl ?_
  refine V_aload_n dec_X8_step.2.2.1.2.2.1.2 0 rfl ?_
  refine V_getI 8 5 nf_8_5 ft_8_5 fl_X8_23 dec_X8_step.2.2.1.2.2.2.1 ?_
  refine V_aload_n dec_X8_step.2.2.1.2.2.2.2.1 0 rfl ?_
  refine V_getI 8 1 nf_8_1 ft_8_1 fl_X8_33 dec_X8_step.2.2.1.2.2.2.2.2 ?_
  refine V_isub dec_X8_step.2.2.2.1.1.1.1 ?_
  refine V_iconst dec_X8_step.2.2.2.1.1.1.2 rfl ?_
  refine V_icmp_le (tgt := 249) dec_X8_step.2.2.2.1.1.2.1 (by decide) ?_ ?_
  · refine V_iconst dec_X8_step.2.2.2.1.2.1.2 rfl ?_
    exact V_pick [] rfl (X8_step_b250_s G l s 2 x0)
  · refine V_iconst dec_X8_step.2.2.2.1.1.2.2 rfl ?_
    refine V_goto (tgt := 250) dec_X8_step.2.2.2.1.2.1.1 (by decide) ?_
    exact V_pick [] rfl (X8_step_b250_s G l s 4 x0)
def X8_step_b168_body (rk168 : St → Int → Rs) (s : St) (x0 : Int) : Rs :=
  grd (isK s 18 x0) (grd (isK s 18 x0) (if (gI s x0 4) ≤ (gI s x0 5) then (X8_step_b231 s x0) else (grd (isK s 18 x0) (grd (isK s 18 x0) (bnd (X8_sortAt s x0 (gI s x0 5)) (fun r8 s9 => if ¬ r8 = (2 : Int) then (X8_step_b231 s9 x0) else (grd (isK s9 18 x0) (grd (isK s9 18 x0) (grd (isK s9 18 x0) (grd (isK s9 2 (gR s9 x0 3) ∧ 0 ≤ (gI s9 x0 5) ∧ (gI s9 x0 5) < ln s9 (gR s9 x0 3)) (grd (isK s9 18 x0) (lets (pI s9 x0 2 (w64 ((w64 ((w64 ((gI s9 x0 2) * 10)) + (gI s9 (gR s9 x0 3) (gI s9 x0 5).toNat))) - 48))) (fun s10 => grd (isK s10 18 x0) (grd (isK s10 18 x0) (lets (pI s10 x0 5 (w32 ((gI s10 x0 5) + 1))) (fun s11 => rk168 s11 x0))))))))))))))))
def X8_step_b168 (n : Nat) (s : St) (x0 : Int) : Rs := iter (fun (rec : St × Int → Rs) (a : St × Int) => X8_step_b168_body (fun (s : St) (x0 : Int) => rec (s, x0)) a.1 a.2) n (s, x0)
theorem X8_step_b168_0 (s : St) (x0 : Int) : X8_step_b168 0 s x0 = none := rfl
theorem X8_step_b168_1 (n : Nat) (s : St) (x0 : Int) : X8_step_b168 (n + 1) s x0 = X8_step_b168_body (X8_step_b168 n) s x0 := rfl
set_option maxRecDepth 100000 in
set_option maxHeartbeats 4000000 in
theorem X8_step_b168_body_s (G : Gx) (l : Launch) (rk168 : St → Int → Rs) (hk168 : ∀ (s : St) (x0 : Int), V G l mX8_step 168 [(0, (2, x0))] [] s (rk168 s x0)) (s : St) (x0 : Int) : V G l mX8_step 168 [(0, (2, x0))] [] s (X8_step_b168_body rk168 s x0) := by
  unfold X8_step_b168_body
  refine V_aload_n dec_X8_step.2.1.1.2.2.2.2.1 0 rfl ?_
  refine V_getI 8 5 nf_8_5 ft_8_5 fl_X8_23 dec_X8_step.2.1.1.2.2.2.2.2 ?_
  refine V_aload_n dec_X8_step.2.1.2.1.1.1.1 0 rfl ?_
  refine V_getI 8 4 nf_8_4 ft_8_4 fl_X8_19 dec_X8_step.2.1.2.1.1.1.2 ?_
  refine V_icmp_ge (tgt := 231) dec_X8_step.2.1.2.1.1.2.1 (by decide) ?_ ?_
  · exact V_pick [0] rfl (X8_step_b231_s G l s x0)
  · refine V_aload_n dec_X8_step.2.1.2.1.1.2.2 0 rfl ?_
    refine V_aload_n dec_X8_step.2.1.2.1.2.1.1 0 rfl ?_
    refine V_getI 8 5 nf_8_5 ft_8_5 fl_X8_23 dec_X8_step.2.1.2.1.2.1.2 ?_
    refine V_callV0 (ci := 8) (a := x0) (As := [(0, (gI s x0 5))]) (st := []) rfl rfl (X8_sortAt_s G l s x0 (gI s x0 5)) cal_X8_sortAt rfl ml_X8_29 rfl rfl dec_X8_step.2.1.2.1.2.2.1 (k_tag (tag := 0) rfl fun r8 s9 => ?_)
    refine V_iconst dec_X8_step.2.1.2.1.2.2.2.1 rfl ?_
    refine V_icmp_ne (tgt := 231) dec_X8_step.2.1.2.1.2.2.2.2 (by decide) ?_ ?_
    · exact V_pick [0] rfl (X8_step_b231_s G l s9 x0)
    · refine V_aload_n dec_X8_step.2.1.2.2.1.1.1 0 rfl ?_
      refine V_aload_n dec_X8_step.2.1.2.2.1.1.2 0 rfl ?_
      refine V_getL 8 2 nf_8_2 ft_8_2 fl_X8_39 dec_X8_step.2.1.2.2.1.2.1 ?_
      refine V_ldc2 (n := 10) cw_X8_47 (by decide) dec_X8_step.2.1.2.2.1.2.2 ?_
      refine V_lmul dec_X8_step.2.1.2.2.2.1.1 ?_
      refine V_aload_n dec_X8_step.2.1.2.2.2.1.2 0 rfl ?_
      refine V_getR 8 3 nf_8_3 ft_8_3 fl_X8_7 dec_X8_step.2.1.2.2.2.2.1 ?_
      refine V_aload_n dec_X8_step.2.1.2.2.2.2.2.1 0 rfl ?_
      refine V_getI 8 5 nf_8_5 ft_8_5 fl_X8_23 dec_X8_step.2.1.2.2.2.2.2.2 ?_
      refine V_bald dec_X8_step.2.2.1.1.1.1.1 ?_
      refine V_i2l dec_X8_step.2.2.1.1.1.1.2 ?_
      refine V_ladd dec_X8_step.2.2.1.1.1.2.1 ?_
      refine V_ldc2 (n := 48) cw_X8_49 (by decide) dec_X8_step.2.2.1.1.1.2.2 ?_
      refine V_lsub dec_X8_step.2.2.1.1.2.1.1 ?_
      refine V_putL (host := "") 8 2 nf_8_2 ty_8_2 (Or.inl ⟨fl_X8_39, Or.inl rfl⟩) dec_X8_step.2.2.1.1.2.1.2 ?_
      refine V_lets fun s10 => ?_
      refine V_aload_n dec_X8_step.2.2.1.1.2.2.1 0 rfl ?_
      refine V_dup (nl2 _) dec_X8_step.2.2.1.1.2.2.2.1 ?_
      refine V_getI 8 5 nf_8_5 ft_8_5 fl_X8_23 dec_X8_step.2.2.1.1.2.2.2.2 ?_
      refine V_iconst dec_X8_step.2.2.1.2.1.1.1 rfl ?_
      refine V_iadd dec_X8_step.2.2.1.2.1.1.2 ?_
      refine V_putI (host := "") 8 5 nf_8_5 ty_8_5 (Or.inl ⟨fl_X8_23, Or.inl rfl⟩) dec_X8_step.2.2.1.2.1.2.1 ?_
      refine V_lets fun s11 => ?_
      refine V_goto (tgt := 168) dec_X8_step.2.2.1.2.1.2.2 (by decide) ?_
      exact V_pick [0] rfl (hk168 s11 x0)
theorem X8_step_b168_s (G : Gx) (l : Launch) (n : Nat) (s : St) (x0 : Int) : V G l mX8_step 168 [(0, (2, x0))] [] s (X8_step_b168 n s x0) :=
  V_iter (LV := fun a : St × Int => [(0, (2, a.2))]) (ST := fun a : St × Int => []) (SS := fun a : St × Int => a.1) (fun rec hrec a => X8_step_b168_body_s G l (fun (s : St) (x0 : Int) => rec (s, x0)) (fun (s : St) (x0 : Int) => hrec (s, x0)) a.1 a.2) n (s, x0)
def X8_step_b154 (s : St) (k0 k1 : Int) : Rs :=
  grd (isK s 18 k1) (lets (pI s k1 0 k0) (fun s12 => X8_step_b273 s12))
set_option maxRecDepth 100000 in
set_option maxHeartbeats 4000000 in
theorem X8_step_b154_s (G : Gx) (l : Launch) (s : St) (k0 k1 : Int) : V G l mX8_step 154 [] [(0, k0), (2, k1)] s (X8_step_b154 s k0 k1) := by
  unfold X8_step_b154
  refine V_putI (host := "") 8 0 nf_8_0 ty_8_0 (Or.inl ⟨fl_X8_36, Or.inl rfl⟩) dec_X8_step.2.1.1.2.1.1.2 ?_
  refine V_lets fun s12 => ?_
  refine V_goto (tgt := 273) dec_X8_step.2.1.1.2.1.2.1 (by decide) ?_
  exact V_pick [] rfl (X8_step_b273_s G l s12)
def X8_step_b134 (s : St) (x0 : Int) : Rs :=
  grd (isK s 18 x0) (grd (isK s 18 x0) (if (w32 ((gI s x0 5) - (gI s x0 1))) ≤ (8 : Int) then (X8_step_b154 s 1 x0) else (X8_step_b154 s 4 x0)))
set_option maxRecDepth 100000 in
set_option maxHeartbeats 4000000 in
theorem X8_step_b134_s (G : Gx) (l : Launch) (s : St) (x0 : Int) : V G l mX8_step 134 [(0, (2, x0))] [] s (X8_step_b134 s x0) := by
  unfold X8_step_b134
  refine V_aload_n dec_X8_step.1.2.2.2.2.2.2.2 0 rfl ?_
  refine V_aload_n dec_X8_step.2.1.1.1.1.1.1 0 rfl ?_
  refine V_getI 8 5 nf_8_5 ft_8_5 fl_X8_23 dec_X8_step.2.1.1.1.1.1.2 ?_
  refine V_aload_n dec_X8_step.2.1.1.1.1.2.1 0 rfl ?_
  refine V_getI 8 1 nf_8_1 ft_8_1 fl_X8_33 dec_X8_step.2.1.1.1.1.2.2 ?_
  refine V_isub dec_X8_step.2.1.1.1.2.1.1 ?_
  refine V_bipush dec_X8_step.2.1.1.1.2.1.2 rfl ?_
  refine V_icmp_le (tgt := 153) dec_X8_step.2.1.1.1.2.2.1 (by decide) ?_ ?_
  · refine V_iconst dec_X8_step.2.1.1.2.1.1.1 rfl ?_
    exact V_pick [] rfl (X8_step_b154_s G l s 1 x0)
  · refine V_iconst dec_X8_step.2.1.1.1.2.2.2.1 rfl ?_
    refine V_goto (tgt := 154) dec_X8_step.2.1.1.1.2.2.2.2 (by decide) ?_
    exact V_pick [] rfl (X8_step_b154_s G l s 4 x0)
def X8_step_b69_body (rk69 : St → Int → Rs) (s : St) (x0 : Int) : Rs :=
  grd (isK s 18 x0) (grd (isK s 18 x0) (if (gI s x0 4) ≤ (gI s x0 5) then (X8_step_b134 s x0) else (grd (isK s 18 x0) (grd (isK s 18 x0) (bnd (X8_sortAt s x0 (gI s x0 5)) (fun r13 s14 => if ¬ r13 = (1 : Int) then (X8_step_b134 s14 x0) else (grd (isK s14 18 x0) (grd (isK s14 18 x0) (grd (isK s14 18 x0) (grd (isK s14 2 (gR s14 x0 3) ∧ 0 ≤ (gI s14 x0 5) ∧ (gI s14 x0 5) < ln s14 (gR s14 x0 3)) (grd (isK s14 18 x0) (lets (pI s14 x0 2 (w64 ((w64 ((w64 ((w64 ((gI s14 x0 2) * 27)) + (gI s14 (gR s14 x0 3) (gI s14 x0 5).toNat))) - 97)) + 1))) (fun s15 => grd (isK s15 18 x0) (grd (isK s15 18 x0) (lets (pI s15 x0 5 (w32 ((gI s15 x0 5) + 1))) (fun s16 => rk69 s16 x0))))))))))))))))
def X8_step_b69 (n : Nat) (s : St) (x0 : Int) : Rs := iter (fun (rec : St × Int → Rs) (a : St × Int) => X8_step_b69_body (fun (s : St) (x0 : Int) => rec (s, x0)) a.1 a.2) n (s, x0)
theorem X8_step_b69_0 (s : St) (x0 : Int) : X8_step_b69 0 s x0 = none := rfl
theorem X8_step_b69_1 (n : Nat) (s : St) (x0 : Int) : X8_step_b69 (n + 1) s x0 = X8_step_b69_body (X8_step_b69 n) s x0 := rfl
set_option maxRecDepth 100000 in
set_option maxHeartbeats 4000000 in
theorem X8_step_b69_body_s (G : Gx) (l : Launch) (rk69 : St → Int → Rs) (hk69 : ∀ (s : St) (x0 : Int), V G l mX8_step 69 [(0, (2, x0))] [] s (rk69 s x0)) (s : St) (x0 : Int) : V G l mX8_step 69 [(0, (2, x0))] [] s (X8_step_b69_body rk69 s x0) := by
  unfold X8_step_b69_body
  refine V_aload_n dec_X8_step.1.2.1.1.1.1.1 0 rfl ?_
  refine V_getI 8 5 nf_8_5 ft_8_5 fl_X8_23 dec_X8_step.1.2.1.1.1.1.2 ?_
  refine V_aload_n dec_X8_step.1.2.1.1.1.2.1 0 rfl ?_
  refine V_getI 8 4 nf_8_4 ft_8_4 fl_X8_19 dec_X8_step.1.2.1.1.1.2.2 ?_
  refine V_icmp_ge (tgt := 134) dec_X8_step.1.2.1.1.2.1.1 (by decide) ?_ ?_
  · exact V_pick [0] rfl (X8_step_b134_s G l s x0)
  · refine V_aload_n dec_X8_step.1.2.1.1.2.1.2 0 rfl ?_
    refine V_aload_n dec_X8_step.1.2.1.1.2.2.1 0 rfl ?_
    refine V_getI 8 5 nf_8_5 ft_8_5 fl_X8_23 dec_X8_step.1.2.1.1.2.2.2.1 ?_
    refine V_callV0 (ci := 8) (a := x0) (As := [(0, (gI s x0 5))]) (st := []) rfl rfl (X8_sortAt_s G l s x0 (gI s x0 5)) cal_X8_sortAt rfl ml_X8_29 rfl rfl dec_X8_step.1.2.1.1.2.2.2.2 (k_tag (tag := 0) rfl fun r13 s14 => ?_)
    refine V_iconst dec_X8_step.1.2.1.2.1.1.1 rfl ?_
    refine V_icmp_ne (tgt := 134) dec_X8_step.1.2.1.2.1.1.2 (by decide) ?_ ?_
    · exact V_pick [0] rfl (X8_step_b134_s G l s14 x0)
    · refine V_aload_n dec_X8_step.1.2.1.2.1.2.1 0 rfl ?_
      refine V_aload_n dec_X8_step.1.2.1.2.1.2.2 0 rfl ?_
      refine V_getL 8 2 nf_8_2 ft_8_2 fl_X8_39 dec_X8_step.1.2.1.2.2.1.1 ?_
      refine V_ldc2 (n := 27) cw_X8_43 (by decide) dec_X8_step.1.2.1.2.2.1.2 ?_
      refine V_lmul dec_X8_step.1.2.1.2.2.2.1 ?_
      refine V_aload_n dec_X8_step.1.2.1.2.2.2.2.1 0 rfl ?_
      refine V_getR 8 3 nf_8_3 ft_8_3 fl_X8_7 dec_X8_step.1.2.1.2.2.2.2.2 ?_
      refine V_aload_n dec_X8_step.1.2.2.1.1.1.1 0 rfl ?_
      refine V_getI 8 5 nf_8_5 ft_8_5 fl_X8_23 dec_X8_step.1.2.2.1.1.1.2 ?_
      refine V_bald dec_X8_step.1.2.2.1.1.2.1 ?_
      refine V_i2l dec_X8_step.1.2.2.1.1.2.2 ?_
      refine V_ladd dec_X8_step.1.2.2.1.2.1.1 ?_
      refine V_ldc2 (n := 97) cw_X8_45 (by decide) dec_X8_step.1.2.2.1.2.1.2 ?_
      refine V_lsub dec_X8_step.1.2.2.1.2.2.1 ?_
      refine V_lconst (n := 1) dec_X8_step.1.2.2.1.2.2.2.1 (by decide) ?_
      refine V_ladd dec_X8_step.1.2.2.1.2.2.2.2 ?_
      refine V_putL (host := "") 8 2 nf_8_2 ty_8_2 (Or.inl ⟨fl_X8_39, Or.inl rfl⟩) dec_X8_step.1.2.2.2.1.1.1 ?_
      refine V_lets fun s15 => ?_
      refine V_aload_n dec_X8_step.1.2.2.2.1.1.2 0 rfl ?_
      refine V_dup (nl2 _) dec_X8_step.1.2.2.2.1.2.1 ?_
      refine V_getI 8 5 nf_8_5 ft_8_5 fl_X8_23 dec_X8_step.1.2.2.2.1.2.2 ?_
      refine V_iconst dec_X8_step.1.2.2.2.2.1.1 rfl ?_
      refine V_iadd dec_X8_step.1.2.2.2.2.1.2 ?_
      refine V_putI (host := "") 8 5 nf_8_5 ty_8_5 (Or.inl ⟨fl_X8_23, Or.inl rfl⟩) dec_X8_step.1.2.2.2.2.2.1 ?_
      refine V_lets fun s16 => ?_
      refine V_goto (tgt := 69) dec_X8_step.1.2.2.2.2.2.2.1 (by decide) ?_
      exact V_pick [0] rfl (hk69 s16 x0)
theorem X8_step_b69_s (G : Gx) (l : Launch) (n : Nat) (s : St) (x0 : Int) : V G l mX8_step 69 [(0, (2, x0))] [] s (X8_step_b69 n s x0) :=
  V_iter (LV := fun a : St × Int => [(0, (2, a.2))]) (ST := fun a : St × Int => []) (SS := fun a : St × Int => a.1) (fun rec hrec a => X8_step_b69_body_s G l (fun (s : St) (x0 : Int) => rec (s, x0)) (fun (s : St) (x0 : Int) => hrec (s, x0)) a.1 a.2) n (s, x0)
def X8_step_b36 (s : St) (x0 : Int) : Rs :=
  grd (isK s 18 x0) (grd (isK s 18 x0) (lets (pI s x0 1 (gI s x0 5)) (fun s1 => grd (isK s1 18 x0) (grd (isK s1 18 x0) (bnd (X8_sortAt s1 x0 (gI s1 x0 1)) (fun r2 s3 => grd (isK s3 18 x0) (lets (pI s3 x0 0 r2) (fun s4 => grd (isK s4 18 x0) (lets (pI s4 x0 2 0) (fun s5 => grd (isK s5 18 x0) (if ¬ (gI s5 x0 0) = (1 : Int) then (grd (isK s5 18 x0) (if ¬ (gI s5 x0 0) = (2 : Int) then (grd (isK s5 18 x0) (if (gI s5 x0 0) = 0 then (X8_step_b273 s5) else (grd (isK s5 18 x0) (grd (isK s5 18 x0) (lets (pI s5 x0 5 (w32 ((gI s5 x0 5) + 1))) (fun s6 => X8_step_b273 s6)))))) else (X8_step_b168 FU s5 x0))) else (X8_step_b69 FU s5 x0))))))))))))
set_option maxRecDepth 100000 in
set_option maxHeartbeats 4000000 in
theorem X8_step_b36_s (G : Gx) (l : Launch) (s : St) (x0 : Int) : V G l mX8_step 36 [(0, (2, x0))] [] s (X8_step_b36 s x0) := by
  unfold X8_step_b36
  refine V_aload_n dec_X8_step.1.1.2.1.1.1.2 0 rfl ?_
  refine V_aload_n dec_X8_step.1.1.2.1.1.2.1 0 rfl ?_
  refine V_getI 8 5 nf_8_5 ft_8_5 fl_X8_23 dec_X8_step.1.1.2.1.1.2.2 ?_
  refine V_putI (host := "") 8 1 nf_8_1 ty_8_1 (Or.inl ⟨fl_X8_33, Or.inl rfl⟩) dec_X8_step.1.1.2.1.2.1.1 ?_
  refine V_lets fun s1 => ?_
  refine V_aload_n dec_X8_step.1.1.2.1.2.1.2 0 rfl ?_
  refine V_aload_n dec_X8_step.1.1.2.1.2.2.1 0 rfl ?_
  refine V_aload_n dec_X8_step.1.1.2.1.2.2.2.1 0 rfl ?_
  refine V_getI 8 1 nf_8_1 ft_8_1 fl_X8_33 dec_X8_step.1.1.2.1.2.2.2.2 ?_
  refine V_callV0 (ci := 8) (a := x0) (As := [(0, (gI s1 x0 1))]) (st := [(2, x0)]) rfl rfl (X8_sortAt_s G l s1 x0 (gI s1 x0 1)) cal_X8_sortAt rfl ml_X8_29 rfl rfl dec_X8_step.1.1.2.2.1.1.1 (k_tag (tag := 0) rfl fun r2 s3 => ?_)
  refine V_putI (host := "") 8 0 nf_8_0 ty_8_0 (Or.inl ⟨fl_X8_36, Or.inl rfl⟩) dec_X8_step.1.1.2.2.1.1.2 ?_
  refine V_lets fun s4 => ?_
  refine V_aload_n dec_X8_step.1.1.2.2.1.2.1 0 rfl ?_
  refine V_lconst (n := 0) dec_X8_step.1.1.2.2.1.2.2 (by decide) ?_
  refine V_putL (host := "") 8 2 nf_8_2 ty_8_2 (Or.inl ⟨fl_X8_39, Or.inl rfl⟩) dec_X8_step.1.1.2.2.2.1.1 ?_
  refine V_lets fun s5 => ?_
  refine V_aload_n dec_X8_step.1.1.2.2.2.1.2 0 rfl ?_
  refine V_getI 8 0 nf_8_0 ft_8_0 fl_X8_36 dec_X8_step.1.1.2.2.2.2.1 ?_
  refine V_iconst dec_X8_step.1.1.2.2.2.2.2.1 rfl ?_
  refine V_icmp_ne (tgt := 160) dec_X8_step.1.1.2.2.2.2.2.2 (by decide) ?_ ?_
  · refine V_aload_n dec_X8_step.2.1.1.2.1.2.2 0 rfl ?_
    refine V_getI 8 0 nf_8_0 ft_8_0 fl_X8_36 dec_X8_step.2.1.1.2.2.1.1 ?_
    refine V_iconst dec_X8_step.2.1.1.2.2.1.2 rfl ?_
    refine V_icmp_ne (tgt := 256) dec_X8_step.2.1.1.2.2.2.1 (by decide) ?_ ?_
    · refine V_aload_n dec_X8_step.2.2.2.1.2.2.2.2 0 rfl ?_
      refine V_getI 8 0 nf_8_0 ft_8_0 fl_X8_36 dec_X8_step.2.2.2.2.1.1.1 ?_
      refine V_if_eq (tgt := 273) dec_X8_step.2.2.2.2.1.1.2 (by decide) ?_ ?_
      · exact V_pick [] rfl (X8_step_b273_s G l s5)
      · refine V_aload_n dec_X8_step.2.2.2.2.1.2.1 0 rfl ?_
        refine V_dup (nl2 _) dec_X8_step.2.2.2.2.1.2.2 ?_
        refine V_getI 8 5 nf_8_5 ft_8_5 fl_X8_23 dec_X8_step.2.2.2.2.2.1.1 ?_
        refine V_iconst dec_X8_step.2.2.2.2.2.1.2 rfl ?_
        refine V_iadd dec_X8_step.2.2.2.2.2.2.1 ?_
        refine V_putI (host := "") 8 5 nf_8_5 ty_8_5 (Or.inl ⟨fl_X8_23, Or.inl rfl⟩) dec_X8_step.2.2.2.2.2.2.2.1 ?_
        refine V_lets fun s6 => ?_
        exact V_pick [] rfl (X8_step_b273_s G l s6)
    · exact V_pick [0] rfl (X8_step_b168_s G l FU s5 x0)
  · exact V_pick [0] rfl (X8_step_b69_s G l FU s5 x0)
def X8_step_b0_body (rk0 : St → Int → Rs) (s : St) (x0 : Int) : Rs :=
  grd (isK s 18 x0) (grd (isK s 18 x0) (if (gI s x0 4) ≤ (gI s x0 5) then (X8_step_b36 s x0) else (grd (isK s 18 x0) (grd (isK s 18 x0) (bnd (X8_sortAt s x0 (gI s x0 5)) (fun r17 s18 => if ¬ r17 = (5 : Int) then (X8_step_b36 s18 x0) else (grd (isK s18 18 x0) (grd (isK s18 18 x0) (lets (pI s18 x0 5 (w32 ((gI s18 x0 5) + 1))) (fun s19 => rk0 s19 x0))))))))))
def X8_step_b0 (n : Nat) (s : St) (x0 : Int) : Rs := iter (fun (rec : St × Int → Rs) (a : St × Int) => X8_step_b0_body (fun (s : St) (x0 : Int) => rec (s, x0)) a.1 a.2) n (s, x0)
theorem X8_step_b0_0 (s : St) (x0 : Int) : X8_step_b0 0 s x0 = none := rfl
theorem X8_step_b0_1 (n : Nat) (s : St) (x0 : Int) : X8_step_b0 (n + 1) s x0 = X8_step_b0_body (X8_step_b0 n) s x0 := rfl
set_option maxRecDepth 100000 in
set_option maxHeartbeats 4000000 in
theorem X8_step_b0_body_s (G : Gx) (l : Launch) (rk0 : St → Int → Rs) (hk0 : ∀ (s : St) (x0 : Int), V G l mX8_step 0 [(0, (2, x0))] [] s (rk0 s x0)) (s : St) (x0 : Int) : V G l mX8_step 0 [(0, (2, x0))] [] s (X8_step_b0_body rk0 s x0) := by
  unfold X8_step_b0_body
  refine V_aload_n dec_X8_step.1.1.1.1.1.1.1 0 rfl ?_
  refine V_getI 8 5 nf_8_5 ft_8_5 fl_X8_23 dec_X8_step.1.1.1.1.1.1.2 ?_
  refine V_aload_n dec_X8_step.1.1.1.1.1.2.1 0 rfl ?_
  refine V_getI 8 4 nf_8_4 ft_8_4 fl_X8_19 dec_X8_step.1.1.1.1.1.2.2 ?_
  refine V_icmp_ge (tgt := 36) dec_X8_step.1.1.1.1.2.1.1 (by decide) ?_ ?_
  · exact V_pick [0] rfl (X8_step_b36_s G l s x0)
  · refine V_aload_n dec_X8_step.1.1.1.1.2.1.2 0 rfl ?_
    refine V_aload_n dec_X8_step.1.1.1.1.2.2.1 0 rfl ?_
    refine V_getI 8 5 nf_8_5 ft_8_5 fl_X8_23 dec_X8_step.1.1.1.1.2.2.2 ?_
    refine V_callV0 (ci := 8) (a := x0) (As := [(0, (gI s x0 5))]) (st := []) rfl rfl (X8_sortAt_s G l s x0 (gI s x0 5)) cal_X8_sortAt rfl ml_X8_29 rfl rfl dec_X8_step.1.1.1.2.1.1.1 (k_tag (tag := 0) rfl fun r17 s18 => ?_)
    refine V_iconst dec_X8_step.1.1.1.2.1.1.2 rfl ?_
    refine V_icmp_ne (tgt := 36) dec_X8_step.1.1.1.2.1.2.1 (by decide) ?_ ?_
    · exact V_pick [0] rfl (X8_step_b36_s G l s18 x0)
    · refine V_aload_n dec_X8_step.1.1.1.2.1.2.2 0 rfl ?_
      refine V_dup (nl2 _) dec_X8_step.1.1.1.2.2.1.1 ?_
      refine V_getI 8 5 nf_8_5 ft_8_5 fl_X8_23 dec_X8_step.1.1.1.2.2.1.2 ?_
      refine V_iconst dec_X8_step.1.1.1.2.2.2.1 rfl ?_
      refine V_iadd dec_X8_step.1.1.1.2.2.2.2.1 ?_
      refine V_putI (host := "") 8 5 nf_8_5 ty_8_5 (Or.inl ⟨fl_X8_23, Or.inl rfl⟩) dec_X8_step.1.1.1.2.2.2.2.2 ?_
      refine V_lets fun s19 => ?_
      refine V_goto (tgt := 0) dec_X8_step.1.1.2.1.1.1.1 (by decide) ?_
      exact V_pick [0] rfl (hk0 s19 x0)
theorem X8_step_b0_s (G : Gx) (l : Launch) (n : Nat) (s : St) (x0 : Int) : V G l mX8_step 0 [(0, (2, x0))] [] s (X8_step_b0 n s x0) :=
  V_iter (LV := fun a : St × Int => [(0, (2, a.2))]) (ST := fun a : St × Int => []) (SS := fun a : St × Int => a.1) (fun rec hrec a => X8_step_b0_body_s G l (fun (s : St) (x0 : Int) => rec (s, x0)) (fun (s : St) (x0 : Int) => hrec (s, x0)) a.1 a.2) n (s, x0)
def X8_step (s : St) (a0 : Int) : Rs :=
  X8_step_b0 FU s a0
set_option maxRecDepth 100000 in
set_option maxHeartbeats 4000000 in
theorem X8_step_s (G : Gx) (l : Launch) (s : St) (a0 : Int) : Snd G l mX8_step [(2, a0)] s (X8_step s a0) := by
  refine Snd.of (by decide +kernel) rfl ?_
  show V G l mX8_step 0 [(0, (2, a0))] [] s _
  unfold X8_step
  exact V_pick [0] rfl (X8_step_b0_s G l FU s a0)
theorem dec_X4_takeToken : ((((decode cX4_takeToken 0 = .ok (.iload_n 1, 1) ∧ decode cX4_takeToken 1 = .ok (.ifCond .ne 15, 3)) ∧ (decode cX4_takeToken 4 = .ok (.aload_n 0, 1) ∧ (decode cX4_takeToken 5 = .ok (.iconst 1, 1) ∧ decode cX4_takeToken 6 = .ok (.aload_n 0, 1)))) ∧ ((decode cX4_takeToken 7 = .ok (.getfield 25, 3) ∧ decode cX4_takeToken 10 = .ok (.getfield 59, 3)) ∧ (decode cX4_takeToken 13 = .ok (.invokevirtual 62, 3) ∧ (decode cX4_takeToken 16 = .ok (.aload_n 0, 1) ∧ decode cX4_takeToken 17 = .ok (.getfield 36, 3))))) ∧ (((decode cX4_takeToken 20 = .ok (.ifCond .ne 21, 3) ∧ decode cX4_takeToken 23 = .ok (.aload_n 0, 1)) ∧ (decode cX4_takeToken 24 = .ok (.aload_n 0, 1) ∧ (decode cX4_takeToken 25 = .ok (.getfield 25, 3) ∧ decode cX4_takeToken 28 = .ok (.getfield 59, 3)))) ∧ ((decode cX4_takeToken 31 = .ok (.putfield 117, 3) ∧ decode cX4_takeToken 34 = .ok (.aload_n 0, 1)) ∧ (decode cX4_takeToken 35 = .ok (.getfield 25, 3) ∧ (decode cX4_takeToken 38 = .ok (.invokevirtual 185, 3) ∧ decode cX4_takeToken 41 = .ok (.return_, 1)))))) := ⟨by decide +kernel, by decide +kernel⟩
def X4_takeToken_b41 (s : St) : Rs :=
  some (0, s)
set_option maxRecDepth 100000 in
set_option maxHeartbeats 4000000 in
theorem X4_takeToken_b41_s (G : Gx) (l : Launch) (s : St) : V G l mX4_takeToken 41 [] [] s (X4_takeToken_b41 s) := by
  unfold X4_takeToken_b41
  exact V_vret rfl dec_X4_takeToken.2.2.2.2.2
def X4_takeToken_b16 (s : St) (x0 : Int) : Rs :=
  grd (isK s 14 x0) (if ¬ (gI s x0 1) = 0 then (X4_takeToken_b41 s) else (grd (isK s 14 x0) (grd (isK s 18 (gR s x0 3)) (grd (isK s 14 x0) (lets (pI s x0 6 (gI s (gR s x0 3) 1)) (fun s1 => grd (isK s1 14 x0) (grd (isK s1 18 (gR s1 x0 3)) (bnd (X8_step s1 (gR s1 x0 3)) (fun r2 s3 => X4_takeToken_b41 s3)))))))))
set_option maxRecDepth 100000 in
set_option maxHeartbeats 4000000 in
theorem X4_takeToken_b16_s (G : Gx) (l : Launch) (s : St) (x0 : Int) : V G l mX4_takeToken 16 [(0, (2, x0))] [] s (X4_takeToken_b16 s x0) := by
  unfold X4_takeToken_b16
  refine V_aload_n dec_X4_takeToken.1.2.2.2.1 0 rfl ?_
  refine V_getI 4 1 nf_4_1 ft_4_1 fl_X4_36 dec_X4_takeToken.1.2.2.2.2 ?_
  refine V_if_ne (tgt := 41) dec_X4_takeToken.2.1.1.1 (by decide) ?_ ?_
  · exact V_pick [] rfl (X4_takeToken_b41_s G l s)
  · refine V_aload_n dec_X4_takeToken.2.1.1.2 0 rfl ?_
    refine V_aload_n dec_X4_takeToken.2.1.2.1 0 rfl ?_
    refine V_getR 4 3 nf_4_3 ft_4_3 fl_X4_25 dec_X4_takeToken.2.1.2.2.1 ?_
    refine V_getI 8 1 nf_8_1 ft_8_1 fl_X4_59 dec_X4_takeToken.2.1.2.2.2 ?_
    refine V_putI (host := "") 4 6 nf_4_6 ty_4_6 (Or.inl ⟨fl_X4_117, Or.inl rfl⟩) dec_X4_takeToken.2.2.1.1 ?_
    refine V_lets fun s1 => ?_
    refine V_aload_n dec_X4_takeToken.2.2.1.2 0 rfl ?_
    refine V_getR 4 3 nf_4_3 ft_4_3 fl_X4_25 dec_X4_takeToken.2.2.2.1 ?_
    refine V_callV0 (ci := 8) (a := (gR s1 x0 3)) (As := []) (st := []) rfl rfl (X8_step_s G l s1 (gR s1 x0 3)) cal_X8_step rfl ml_X4_185 rfl rfl dec_X4_takeToken.2.2.2.2.1 (k_void rfl fun r2 s3 => ?_)
    exact V_pick [] rfl (X4_takeToken_b41_s G l s3)
def X4_takeToken (s : St) (a0 a1 : Int) : Rs :=
  if ¬ a1 = 0 then (X4_takeToken_b16 s a0) else (grd (isK s 14 a0) (grd (isK s 18 (gR s a0 3)) (grd (isK s 14 a0) (bnd (X4_fail s a0 1 (gI s (gR s a0 3) 1)) (fun r4 s5 => X4_takeToken_b16 s5 a0)))))
set_option maxRecDepth 100000 in
set_option maxHeartbeats 4000000 in
theorem X4_takeToken_s (G : Gx) (l : Launch) (s : St) (a0 a1 : Int) : Snd G l mX4_takeToken [(2, a0), (0, a1)] s (X4_takeToken s a0 a1) := by
  refine Snd.of (by decide +kernel) rfl ?_
  show V G l mX4_takeToken 0 [(0, (2, a0)), (1, (0, a1))] [] s _
  unfold X4_takeToken
  refine V_iload_n dec_X4_takeToken.1.1.1.1 1 rfl ?_
  refine V_if_ne (tgt := 16) dec_X4_takeToken.1.1.1.2 (by decide) ?_ ?_
  · exact V_pick [0] rfl (X4_takeToken_b16_s G l s a0)
  · refine V_aload_n dec_X4_takeToken.1.1.2.1 0 rfl ?_
    refine V_iconst dec_X4_takeToken.1.1.2.2.1 rfl ?_
    refine V_aload_n dec_X4_takeToken.1.1.2.2.2 0 rfl ?_
    refine V_getR 4 3 nf_4_3 ft_4_3 fl_X4_25 dec_X4_takeToken.1.2.1.1 ?_
    refine V_getI 8 1 nf_8_1 ft_8_1 fl_X4_59 dec_X4_takeToken.1.2.1.2 ?_
    refine V_callV0 (ci := 4) (a := a0) (As := [(0, 1), (0, (gI s (gR s a0 3) 1))]) (st := []) rfl rfl (X4_fail_s G l s a0 1 (gI s (gR s a0 3) 1)) cal_X4_fail rfl ml_X4_62 rfl rfl dec_X4_takeToken.1.2.2.1 (k_void rfl fun r4 s5 => ?_)
    exact V_pick [0] rfl (X4_takeToken_b16_s G l s5 a0)
theorem dec_X4_beginLine : ((((decode cX4_beginLine 0 = .ok (.aload_n 0, 1) ∧ decode cX4_beginLine 1 = .ok (.getfield 12, 3)) ∧ (decode cX4_beginLine 4 = .ok (.getfield 88, 3) ∧ (decode cX4_beginLine 7 = .ok (.ifCond .ne 19, 3) ∧ decode cX4_beginLine 10 = .ok (.aload_n 0, 1)))) ∧ ((decode cX4_beginLine 11 = .ok (.bipush 6, 2) ∧ (decode cX4_beginLine 13 = .ok (.aload_n 0, 1) ∧ decode cX4_beginLine 14 = .ok (.getfield 25, 3))) ∧ (decode cX4_beginLine 17 = .ok (.getfield 59, 3) ∧ (decode cX4_beginLine 20 = .ok (.invokevirtual 62, 3) ∧ decode cX4_beginLine 23 = .ok (.goto 19, 3))))) ∧ (((decode cX4_beginLine 26 = .ok (.iload_n 1, 1) ∧ (decode cX4_beginLine 27 = .ok (.ifCond .eq 15, 3) ∧ decode cX4_beginLine 30 = .ok (.aload_n 0, 1))) ∧ (decode cX4_beginLine 31 = .ok (.iconst 5, 1) ∧ (decode cX4_beginLine 32 = .ok (.aload_n 0, 1) ∧ decode cX4_beginLine 33 = .ok (.getfield 25, 3)))) ∧ ((decode cX4_beginLine 36 = .ok (.getfield 59, 3) ∧ (decode cX4_beginLine 39 = .ok (.invokevirtual 62, 3) ∧ decode cX4_beginLine 42 = .ok (.aload_n 0, 1))) ∧ (decode cX4_beginLine 43 = .ok (.iconst 1, 1) ∧ (decode cX4_beginLine 44 = .ok (.invokevirtual 52, 3) ∧ decode cX4_beginLine 47 = .ok (.return_, 1)))))) := ⟨by decide +kernel, by decide +kernel⟩
def X4_beginLine_b42 (s : St) (x0 : Int) : Rs :=
  grd (isK s 14 x0) (bnd (X4_takeToken s x0 1) (fun r1 s2 => some (0, s2)))
set_option maxRecDepth 100000 in
set_option maxHeartbeats 4000000 in
theorem X4_beginLine_b42_s (G : Gx) (l : Launch) (s : St) (x0 : Int) : V G l mX4_beginLine 42 [(0, (2, x0))] [] s (X4_beginLine_b42 s x0) := by
  unfold X4_beginLine_b42
  refine V_aload_n dec_X4_beginLine.2.2.1.2.2 0 rfl ?_
  refine V_iconst dec_X4_beginLine.2.2.2.1 rfl ?_
  refine V_callV0 (ci := 4) (a := x0) (As := [(0, 1)]) (st := []) rfl rfl (X4_takeToken_s G l s x0 1) cal_X4_takeToken rfl ml_X4_52 rfl rfl dec_X4_beginLine.2.2.2.2.1 (k_void rfl fun r1 s2 => ?_)
  exact V_vret rfl dec_X4_beginLine.2.2.2.2.2
def X4_beginLine (s : St) (a0 a1 : Int) : Rs :=
  grd (isK s 14 a0) (grd (isK s 19 (gR s a0 0)) (if ¬ (gI s (gR s a0 0) 0) = 0 then (if a1 = 0 then (X4_beginLine_b42 s a0) else (grd (isK s 14 a0) (grd (isK s 18 (gR s a0 3)) (grd (isK s 14 a0) (bnd (X4_fail s a0 5 (gI s (gR s a0 3) 1)) (fun r3 s4 => X4_beginLine_b42 s4 a0)))))) else (grd (isK s 14 a0) (grd (isK s 18 (gR s a0 3)) (grd (isK s 14 a0) (bnd (X4_fail s a0 6 (gI s (gR s a0 3) 1)) (fun r5 s6 => X4_beginLine_b42 s6 a0)))))))
set_option maxRecDepth 100000 in
set_option maxHeartbeats 4000000 in
theorem X4_beginLine_s (G : Gx) (l : Launch) (s : St) (a0 a1 : Int) : Snd G l mX4_beginLine [(2, a0), (0, a1)] s (X4_beginLine s a0 a1) := by
  refine Snd.of (by decide +kernel) rfl ?_
  show V G l mX4_beginLine 0 [(0, (2, a0)), (1, (0, a1))] [] s _
  unfold X4_beginLine
  refine V_aload_n dec_X4_beginLine.1.1.1.1 0 rfl ?_
  refine V_getR 4 0 nf_4_0 ft_4_0 fl_X4_12 dec_X4_beginLine.1.1.1.2 ?_
  refine V_getI 9 0 nf_9_0 ft_9_0 fl_X4_88 dec_X4_beginLine.1.1.2.1 ?_
  refine V_if_ne (tgt := 26) dec_X4_beginLine.1.1.2.2.1 (by decide) ?_ ?_
  · refine V_iload_n dec_X4_beginLine.2.1.1.1 1 rfl ?_
    refine V_if_eq (tgt := 42) dec_X4_beginLine.2.1.1.2.1 (by decide) ?_ ?_
    · exact V_pick [0] rfl (X4_beginLine_b42_s G l s a0)
    · refine V_aload_n dec_X4_beginLine.2.1.1.2.2 0 rfl ?_
      refine V_iconst dec_X4_beginLine.2.1.2.1 rfl ?_
      refine V_aload_n dec_X4_beginLine.2.1.2.2.1 0 rfl ?_
      refine V_getR 4 3 nf_4_3 ft_4_3 fl_X4_25 dec_X4_beginLine.2.1.2.2.2 ?_
      refine V_getI 8 1 nf_8_1 ft_8_1 fl_X4_59 dec_X4_beginLine.2.2.1.1 ?_
      refine V_callV0 (ci := 4) (a := a0) (As := [(0, 5), (0, (gI s (gR s a0 3) 1))]) (st := []) rfl rfl (X4_fail_s G l s a0 5 (gI s (gR s a0 3) 1)) cal_X4_fail rfl ml_X4_62 rfl rfl dec_X4_beginLine.2.2.1.2.1 (k_void rfl fun r3 s4 => ?_)
      exact V_pick [0] rfl (X4_beginLine_b42_s G l s4 a0)
  · refine V_aload_n dec_X4_beginLine.1.1.2.2.2 0 rfl ?_
    refine V_bipush dec_X4_beginLine.1.2.1.1 rfl ?_
    refine V_aload_n dec_X4_beginLine.1.2.1.2.1 0 rfl ?_
    refine V_getR 4 3 nf_4_3 ft_4_3 fl_X4_25 dec_X4_beginLine.1.2.1.2.2 ?_
    refine V_getI 8 1 nf_8_1 ft_8_1 fl_X4_59 dec_X4_beginLine.1.2.2.1 ?_
    refine V_callV0 (ci := 4) (a := a0) (As := [(0, 6), (0, (gI s (gR s a0 3) 1))]) (st := []) rfl rfl (X4_fail_s G l s a0 6 (gI s (gR s a0 3) 1)) cal_X4_fail rfl ml_X4_62 rfl rfl dec_X4_beginLine.1.2.2.2.1 (k_void rfl fun r5 s6 => ?_)
    refine V_goto (tgt := 42) dec_X4_beginLine.1.2.2.2.2 (by decide) ?_
    exact V_pick [0] rfl (X4_beginLine_b42_s G l s6 a0)
