theorem dec_X7_isHouse : (((decode cX7_isHouse 0 = .ok (.iload_n 1, 1) ∧ decode cX7_isHouse 1 = .ok (.ifCond .lt 15, 3)) ∧ (decode cX7_isHouse 4 = .ok (.iload_n 1, 1) ∧ (decode cX7_isHouse 5 = .ok (.aload_n 0, 1) ∧ decode cX7_isHouse 6 = .ok (.getfield 24, 3)))) ∧ ((decode cX7_isHouse 9 = .ok (.if_icmp .ge 7, 3) ∧ decode cX7_isHouse 12 = .ok (.iconst 1, 1)) ∧ (decode cX7_isHouse 13 = .ok (.goto 4, 3) ∧ (decode cX7_isHouse 16 = .ok (.iconst 0, 1) ∧ decode cX7_isHouse 17 = .ok (.ireturn, 1))))) := by decide +kernel
def X7_isHouse_b17 (s : St) (k0 : Int) : Rs :=
  grd (k0 = 0 ∨ k0 = 1) (some (k0, s))
set_option maxRecDepth 100000 in
set_option maxHeartbeats 4000000 in
theorem X7_isHouse_b17_s (G : Gx) (l : Launch) (s : St) (k0 : Int) : V G l mX7_isHouse 17 [] [(0, k0)] s (X7_isHouse_b17 s k0) := by
  unfold X7_isHouse_b17
  exact V_zret rfl dec_X7_isHouse.2.2.2.2
def X7_isHouse_b16 (s : St) : Rs :=
  X7_isHouse_b17 s 0
set_option maxRecDepth 100000 in
set_option maxHeartbeats 4000000 in
theorem X7_isHouse_b16_s (G : Gx) (l : Launch) (s : St) : V G l mX7_isHouse 16 [] [] s (X7_isHouse_b16 s) := by
  unfold X7_isHouse_b16
  refine V_iconst dec_X7_isHouse.2.2.2.1 rfl ?_
  exact V_pick [] rfl (X7_isHouse_b17_s G l s 0)
def X7_isHouse (s : St) (a0 a1 : Int) : Rs :=
  if a1 < 0 then (X7_isHouse_b16 s) else (grd (isK s 17 a0) (if (gI s a0 2) ≤ a1 then (X7_isHouse_b16 s) else (X7_isHouse_b17 s 1)))
set_option maxRecDepth 100000 in
set_option maxHeartbeats 4000000 in
theorem X7_isHouse_s (G : Gx) (l : Launch) (s : St) (a0 a1 : Int) : Snd G l mX7_isHouse [(2, a0), (0, a1)] s (X7_isHouse s a0 a1) := by
  refine Snd.of (by decide +kernel) rfl ?_
  show V G l mX7_isHouse 0 [(0, (2, a0)), (1, (0, a1))] [] s _
  unfold X7_isHouse
  refine V_iload_n dec_X7_isHouse.1.1.1 1 rfl ?_
  refine V_if_lt (tgt := 16) dec_X7_isHouse.1.1.2 (by decide) ?_ ?_
  · exact V_pick [] rfl (X7_isHouse_b16_s G l s)
  · refine V_iload_n dec_X7_isHouse.1.2.1 1 rfl ?_
    refine V_aload_n dec_X7_isHouse.1.2.2.1 0 rfl ?_
    refine V_getI 7 2 nf_7_2 ft_7_2 fl_X7_24 dec_X7_isHouse.1.2.2.2 ?_
    refine V_icmp_ge (tgt := 16) dec_X7_isHouse.2.1.1 (by decide) ?_ ?_
    · exact V_pick [] rfl (X7_isHouse_b16_s G l s)
    · refine V_iconst dec_X7_isHouse.2.1.2 rfl ?_
      refine V_goto (tgt := 17) dec_X7_isHouse.2.2.1 (by decide) ?_
      exact V_pick [] rfl (X7_isHouse_b17_s G l s 1)
theorem dec_X7_listenerAt : (((decode cX7_listenerAt 0 = .ok (.aload_n 0, 1) ∧ decode cX7_listenerAt 1 = .ok (.iload_n 1, 1)) ∧ (decode cX7_listenerAt 2 = .ok (.invokevirtual 28, 3) ∧ (decode cX7_listenerAt 5 = .ok (.ifCond .eq 12, 3) ∧ decode cX7_listenerAt 8 = .ok (.aload_n 0, 1)))) ∧ ((decode cX7_listenerAt 9 = .ok (.getfield 15, 3) ∧ (decode cX7_listenerAt 12 = .ok (.iload_n 1, 1) ∧ decode cX7_listenerAt 13 = .ok (.iaload, 1))) ∧ (decode cX7_listenerAt 14 = .ok (.goto 5, 3) ∧ (decode cX7_listenerAt 17 = .ok (.bipush (-2), 2) ∧ decode cX7_listenerAt 19 = .ok (.ireturn, 1))))) := by decide +kernel
def X7_listenerAt_b19 (s : St) (k0 : Int) : Rs :=
  some (k0, s)
set_option maxRecDepth 100000 in
set_option maxHeartbeats 4000000 in
theorem X7_listenerAt_b19_s (G : Gx) (l : Launch) (s : St) (k0 : Int) : V G l mX7_listenerAt 19 [] [(0, k0)] s (X7_listenerAt_b19 s k0) := by
  unfold X7_listenerAt_b19
  exact V_iret rfl dec_X7_listenerAt.2.2.2.2
def X7_listenerAt (s : St) (a0 a1 : Int) : Rs :=
  grd (isK s 17 a0) (bnd (X7_isHouse s a0 a1) (fun r1 s2 => if r1 = 0 then (X7_listenerAt_b19 s2 (-2)) else (grd (isK s2 17 a0) (grd (isK s2 1 (gR s2 a0 1) ∧ 0 ≤ a1 ∧ a1 < ln s2 (gR s2 a0 1)) (X7_listenerAt_b19 s2 (gI s2 (gR s2 a0 1) a1.toNat))))))
set_option maxRecDepth 100000 in
set_option maxHeartbeats 4000000 in
theorem X7_listenerAt_s (G : Gx) (l : Launch) (s : St) (a0 a1 : Int) : Snd G l mX7_listenerAt [(2, a0), (0, a1)] s (X7_listenerAt s a0 a1) := by
  refine Snd.of (by decide +kernel) rfl ?_
  show V G l mX7_listenerAt 0 [(0, (2, a0)), (1, (0, a1))] [] s _
  unfold X7_listenerAt
  refine V_aload_n dec_X7_listenerAt.1.1.1 0 rfl ?_
  refine V_iload_n dec_X7_listenerAt.1.1.2 1 rfl ?_
  refine V_callV0 (ci := 7) (a := a0) (As := [(0, a1)]) (st := []) rfl rfl (X7_isHouse_s G l s a0 a1) cal_X7_isHouse rfl ml_X7_28 rfl rfl dec_X7_listenerAt.1.2.1 (k_tag (tag := 0) rfl fun r1 s2 => ?_)
  refine V_if_eq (tgt := 17) dec_X7_listenerAt.1.2.2.1 (by decide) ?_ ?_
  · refine V_bipush dec_X7_listenerAt.2.2.2.1 rfl ?_
    exact V_pick [] rfl (X7_listenerAt_b19_s G l s2 (-2))
  · refine V_aload_n dec_X7_listenerAt.1.2.2.2 0 rfl ?_
    refine V_getR 7 1 nf_7_1 ft_7_1 fl_X7_15 dec_X7_listenerAt.2.1.1 ?_
    refine V_iload_n dec_X7_listenerAt.2.1.2.1 1 rfl ?_
    refine V_iald dec_X7_listenerAt.2.1.2.2 ?_
    refine V_goto (tgt := 19) dec_X7_listenerAt.2.2.1 (by decide) ?_
    exact V_pick [] rfl (X7_listenerAt_b19_s G l s2 (gI s2 (gR s2 a0 1) a1.toNat))
theorem dec_X10_aimOf : (((decode cX10_aimOf 0 = .ok (.aload_n 0, 1) ∧ decode cX10_aimOf 1 = .ok (.getfield 12, 3)) ∧ (decode cX10_aimOf 4 = .ok (.getfield 39, 3) ∧ (decode cX10_aimOf 7 = .ok (.aload_n 0, 1) ∧ decode cX10_aimOf 8 = .ok (.getfield 25, 3)))) ∧ ((decode cX10_aimOf 11 = .ok (.getfield 71, 3) ∧ decode cX10_aimOf 14 = .ok (.iload_n 1, 1)) ∧ (decode cX10_aimOf 15 = .ok (.iaload, 1) ∧ (decode cX10_aimOf 16 = .ok (.iaload, 1) ∧ decode cX10_aimOf 17 = .ok (.ireturn, 1))))) := by decide +kernel
def X10_aimOf (s : St) (a0 a1 : Int) : Rs :=
  grd (isK s 20 a0) (grd (isK s 16 (gR s a0 1)) (grd (isK s 20 a0) (grd (isK s 19 (gR s a0 0)) (grd (isK s 1 (gR s (gR s a0 0) 8) ∧ 0 ≤ a1 ∧ a1 < ln s (gR s (gR s a0 0) 8)) (grd (isK s 1 (gR s (gR s a0 1) 1) ∧ 0 ≤ (gI s (gR s (gR s a0 0) 8) a1.toNat) ∧ (gI s (gR s (gR s a0 0) 8) a1.toNat) < ln s (gR s (gR s a0 1) 1)) (some ((gI s (gR s (gR s a0 1) 1) (gI s (gR s (gR s a0 0) 8) a1.toNat).toNat), s)))))))
set_option maxRecDepth 100000 in
set_option maxHeartbeats 4000000 in
theorem X10_aimOf_s (G : Gx) (l : Launch) (s : St) (a0 a1 : Int) : Snd G l mX10_aimOf [(2, a0), (0, a1)] s (X10_aimOf s a0 a1) := by
  refine Snd.of (by decide +kernel) rfl ?_
  show V G l mX10_aimOf 0 [(0, (2, a0)), (1, (0, a1))] [] s _
  unfold X10_aimOf
  refine V_aload_n dec_X10_aimOf.1.1.1 0 rfl ?_
  refine V_getR 10 1 nf_10_1 ft_10_1 fl_X10_12 dec_X10_aimOf.1.1.2 ?_
  refine V_getR 6 1 nf_6_1 ft_6_1 fl_X10_39 dec_X10_aimOf.1.2.1 ?_
  refine V_aload_n dec_X10_aimOf.1.2.2.1 0 rfl ?_
  refine V_getR 10 0 nf_10_0 ft_10_0 fl_X10_25 dec_X10_aimOf.1.2.2.2 ?_
  refine V_getR 9 8 nf_9_8 ft_9_8 fl_X10_71 dec_X10_aimOf.2.1.1 ?_
  refine V_iload_n dec_X10_aimOf.2.1.2 1 rfl ?_
  refine V_iald dec_X10_aimOf.2.2.1 ?_
  refine V_iald dec_X10_aimOf.2.2.2.1 ?_
  exact V_iret rfl dec_X10_aimOf.2.2.2.2
theorem dec_X10_shift : ((((decode cX10_shift 0 = .ok (.iload_n 0, 1) ∧ decode cX10_shift 1 = .ok (.tableswitch 36 0 2 #[27, 29, 32], 27)) ∧ (decode cX10_shift 28 = .ok (.iload_n 1, 1) ∧ (decode cX10_shift 29 = .ok (.ireturn, 1) ∧ decode cX10_shift 30 = .ok (.iload_n 1, 1)))) ∧ ((decode cX10_shift 31 = .ok (.ineg, 1) ∧ decode cX10_shift 32 = .ok (.ireturn, 1)) ∧ (decode cX10_shift 33 = .ok (.iload_n 1, 1) ∧ (decode cX10_shift 34 = .ok (.iload_n 2, 1) ∧ decode cX10_shift 35 = .ok (.imul, 1))))) ∧ (((decode cX10_shift 36 = .ok (.ireturn, 1) ∧ decode cX10_shift 37 = .ok (.iload_n 2, 1)) ∧ (decode cX10_shift 38 = .ok (.iconst 1, 1) ∧ (decode cX10_shift 39 = .ok (.iand, 1) ∧ decode cX10_shift 40 = .ok (.ifCond .ne 7, 3)))) ∧ ((decode cX10_shift 43 = .ok (.iload_n 1, 1) ∧ decode cX10_shift 44 = .ok (.goto 5, 3)) ∧ (decode cX10_shift 47 = .ok (.iload_n 1, 1) ∧ (decode cX10_shift 48 = .ok (.ineg, 1) ∧ decode cX10_shift 49 = .ok (.ireturn, 1)))))) := ⟨by decide +kernel, by decide +kernel⟩
def X10_shift_b49 (s : St) (k0 : Int) : Rs :=
  some (k0, s)
set_option maxRecDepth 100000 in
set_option maxHeartbeats 4000000 in
theorem X10_shift_b49_s (G : Gx) (l : Launch) (s : St) (k0 : Int) : V G l mX10_shift 49 [] [(0, k0)] s (X10_shift_b49 s k0) := by
  unfold X10_shift_b49
  exact V_iret rfl dec_X10_shift.2.2.2.2.2
def X10_shift (s : St) (a0 a1 a2 : Int) : Rs :=
  swt a0 0 [some (a1, s), some ((w32 (-a1)), s), some ((w32 (a1 * a2)), s)] (if ¬ (and32 a2 1) = 0 then (X10_shift_b49 s (w32 (-a1))) else (X10_shift_b49 s a1))
set_option maxRecDepth 100000 in
set_option maxHeartbeats 4000000 in
theorem X10_shift_s (G : Gx) (l : Launch) (s : St) (a0 a1 a2 : Int) : Snd G l mX10_shift [(0, a0), (0, a1), (0, a2)] s (X10_shift s a0 a1 a2) := by
  refine Snd.of (by decide +kernel) rfl ?_
  show V G l mX10_shift 0 [(0, (0, a0)), (1, (0, a1)), (2, (0, a2))] [] s _
  unfold X10_shift
  refine V_iload_n dec_X10_shift.1.1.1.1 0 rfl ?_
  refine V_tsw (ts := [28, 30, 33]) (td := 37) dec_X10_shift.1.1.1.2 (by decide) (by decide) (by decide) ⟨?_, ?_, ?_, trivial⟩ ?_
  · refine V_iload_n dec_X10_shift.1.1.2.1 1 rfl ?_
    exact V_iret rfl dec_X10_shift.1.1.2.2.1
  · refine V_iload_n dec_X10_shift.1.1.2.2.2 1 rfl ?_
    refine V_ineg dec_X10_shift.1.2.1.1 ?_
    exact V_iret rfl dec_X10_shift.1.2.1.2
  · refine V_iload_n dec_X10_shift.1.2.2.1 1 rfl ?_
    refine V_iload_n dec_X10_shift.1.2.2.2.1 2 rfl ?_
    refine V_imul dec_X10_shift.1.2.2.2.2 ?_
    exact V_iret rfl dec_X10_shift.2.1.1.1
  · refine V_iload_n dec_X10_shift.2.1.1.2 2 rfl ?_
    refine V_iconst dec_X10_shift.2.1.2.1 rfl ?_
    refine V_iand dec_X10_shift.2.1.2.2.1 ?_
    refine V_if_ne (tgt := 47) dec_X10_shift.2.1.2.2.2 (by decide) ?_ ?_
    · refine V_iload_n dec_X10_shift.2.2.2.1 1 rfl ?_
      refine V_ineg dec_X10_shift.2.2.2.2.1 ?_
      exact V_pick [] rfl (X10_shift_b49_s G l s (w32 (-a1)))
    · refine V_iload_n dec_X10_shift.2.2.1.1 1 rfl ?_
      refine V_goto (tgt := 49) dec_X10_shift.2.2.1.2 (by decide) ?_
      exact V_pick [] rfl (X10_shift_b49_s G l s a1)
theorem dec_J9_floorMod_7cf53 : ((((decode cJ9_floorMod_7cf53 0 = .ok (.iload_n 0, 1) ∧ decode cJ9_floorMod_7cf53 1 = .ok (.iload_n 1, 1)) ∧ (decode cJ9_floorMod_7cf53 2 = .ok (.irem, 1) ∧ decode cJ9_floorMod_7cf53 3 = .ok (.istore_n 2, 1))) ∧ ((decode cJ9_floorMod_7cf53 4 = .ok (.iload_n 0, 1) ∧ decode cJ9_floorMod_7cf53 5 = .ok (.iload_n 1, 1)) ∧ (decode cJ9_floorMod_7cf53 6 = .ok (.ixor, 1) ∧ decode cJ9_floorMod_7cf53 7 = .ok (.ifCond .ge 11, 3)))) ∧ (((decode cJ9_floorMod_7cf53 10 = .ok (.iload_n 2, 1) ∧ decode cJ9_floorMod_7cf53 11 = .ok (.ifCond .eq 7, 3)) ∧ (decode cJ9_floorMod_7cf53 14 = .ok (.iload_n 2, 1) ∧ decode cJ9_floorMod_7cf53 15 = .ok (.iload_n 1, 1))) ∧ ((decode cJ9_floorMod_7cf53 16 = .ok (.iadd, 1) ∧ decode cJ9_floorMod_7cf53 17 = .ok (.ireturn, 1)) ∧ (decode cJ9_floorMod_7cf53 18 = .ok (.iload_n 2, 1) ∧ decode cJ9_floorMod_7cf53 19 = .ok (.ireturn, 1))))) := ⟨by decide +kernel, by decide +kernel⟩
def J9_floorMod_7cf53_b18 (s : St) (x2 : Int) : Rs :=
  some (x2, s)
set_option maxRecDepth 100000 in
set_option maxHeartbeats 4000000 in
theorem J9_floorMod_7cf53_b18_s (G : Gx) (l : Launch) (s : St) (x2 : Int) : V G l mJ9_floorMod_7cf53 18 [(2, (0, x2))] [] s (J9_floorMod_7cf53_b18 s x2) := by
  unfold J9_floorMod_7cf53_b18
  refine V_iload_n dec_J9_floorMod_7cf53.2.2.2.1 0 rfl ?_
  exact V_iret rfl dec_J9_floorMod_7cf53.2.2.2.2
def J9_floorMod_7cf53 (s : St) (a0 a1 : Int) : Rs :=
  grd (a1 ≠ 0) (if 0 ≤ (xor32 a0 a1) then (J9_floorMod_7cf53_b18 s (Int.tmod a0 a1)) else (if (Int.tmod a0 a1) = 0 then (J9_floorMod_7cf53_b18 s (Int.tmod a0 a1)) else (some ((w32 ((Int.tmod a0 a1) + a1)), s))))
set_option maxRecDepth 100000 in
set_option maxHeartbeats 4000000 in
theorem J9_floorMod_7cf53_s (G : Gx) (l : Launch) (s : St) (a0 a1 : Int) : Snd G l mJ9_floorMod_7cf53 [(0, a0), (0, a1)] s (J9_floorMod_7cf53 s a0 a1) := by
  refine Snd.of (by decide +kernel) rfl ?_
  show V G l mJ9_floorMod_7cf53 0 [(0, (0, a0)), (1, (0, a1))] [] s _
  unfold J9_floorMod_7cf53
  refine V_iload_n dec_J9_floorMod_7cf53.1.1.1.1 0 rfl ?_
  refine V_iload_n dec_J9_floorMod_7cf53.1.1.1.2 1 rfl ?_
  refine V_irem dec_J9_floorMod_7cf53.1.1.2.1 ?_
  refine V_istore_n (lv' := [(2, (0, (Int.tmod a0 a1))), (0, (0, a0)), (1, (0, a1))]) dec_J9_floorMod_7cf53.1.1.2.2 (by decide) rfl ?_
  refine V_iload_n dec_J9_floorMod_7cf53.1.2.1.1 1 rfl ?_
  refine V_iload_n dec_J9_floorMod_7cf53.1.2.1.2 2 rfl ?_
  refine V_ixor dec_J9_floorMod_7cf53.1.2.2.1 ?_
  refine V_if_ge (tgt := 18) dec_J9_floorMod_7cf53.1.2.2.2 (by decide) ?_ ?_
  · exact V_pick [0] rfl (J9_floorMod_7cf53_b18_s G l s (Int.tmod a0 a1))
  · refine V_iload_n dec_J9_floorMod_7cf53.2.1.1.1 0 rfl ?_
    refine V_if_eq (tgt := 18) dec_J9_floorMod_7cf53.2.1.1.2 (by decide) ?_ ?_
    · exact V_pick [0] rfl (J9_floorMod_7cf53_b18_s G l s (Int.tmod a0 a1))
    · refine V_iload_n dec_J9_floorMod_7cf53.2.1.2.1 0 rfl ?_
      refine V_iload_n dec_J9_floorMod_7cf53.2.1.2.2 2 rfl ?_
      refine V_iadd dec_J9_floorMod_7cf53.2.2.1.1 ?_
      exact V_iret rfl dec_J9_floorMod_7cf53.2.2.1.2
theorem dec_X9_around : (((decode cX9_around 0 = .ok (.aload_n 0, 1) ∧ decode cX9_around 1 = .ok (.getfield 40, 3)) ∧ (decode cX9_around 4 = .ok (.iconst 1, 1) ∧ (decode cX9_around 5 = .ok (.if_icmp .ge 7, 3) ∧ decode cX9_around 8 = .ok (.iconst 0, 1)))) ∧ ((decode cX9_around 9 = .ok (.goto 11, 3) ∧ (decode cX9_around 12 = .ok (.iload_n 1, 1) ∧ decode cX9_around 13 = .ok (.aload_n 0, 1))) ∧ (decode cX9_around 14 = .ok (.getfield 40, 3) ∧ (decode cX9_around 17 = .ok (.invokestatic 67, 3) ∧ decode cX9_around 20 = .ok (.ireturn, 1))))) := by decide +kernel
def X9_around_b20 (s : St) (k0 : Int) : Rs :=
  some (k0, s)
set_option maxRecDepth 100000 in
set_option maxHeartbeats 4000000 in
theorem X9_around_b20_s (G : Gx) (l : Launch) (s : St) (k0 : Int) : V G l mX9_around 20 [] [(0, k0)] s (X9_around_b20 s k0) := by
  unfold X9_around_b20
  exact V_iret rfl dec_X9_around.2.2.2.2
def X9_around (s : St) (a0 a1 : Int) : Rs :=
  grd (isK s 19 a0) (if (1 : Int) ≤ (gI s a0 0) then (grd (isK s 19 a0) (bnd (J9_floorMod_7cf53 s a1 (gI s a0 0)) (fun r1 s2 => X9_around_b20 s2 r1))) else (X9_around_b20 s 0))
set_option maxRecDepth 100000 in
set_option maxHeartbeats 4000000 in
theorem X9_around_s (G : Gx) (l : Launch) (s : St) (a0 a1 : Int) : Snd G l mX9_around [(2, a0), (0, a1)] s (X9_around s a0 a1) := by
  refine Snd.of (by decide +kernel) rfl ?_
  show V G l mX9_around 0 [(0, (2, a0)), (1, (0, a1))] [] s _
  unfold X9_around
  refine V_aload_n dec_X9_around.1.1.1 0 rfl ?_
  refine V_getI 9 0 nf_9_0 ft_9_0 fl_X9_40 dec_X9_around.1.1.2 ?_
  refine V_iconst dec_X9_around.1.2.1 rfl ?_
  refine V_icmp_ge (tgt := 12) dec_X9_around.1.2.2.1 (by decide) ?_ ?_
  · refine V_iload_n dec_X9_around.2.1.2.1 1 rfl ?_
    refine V_aload_n dec_X9_around.2.1.2.2 0 rfl ?_
    refine V_getI 9 0 nf_9_0 ft_9_0 fl_X9_40 dec_X9_around.2.2.1 ?_
    refine V_callS0 (As := [(0, a1), (0, (gI s a0 0))]) (st := []) (host := "") rfl (J9_floorMod_7cf53_s G l s a1 (gI s a0 0)) cal_J9_floorMod_7cf53 rfl (Or.inl ml_X9_67) rfl rfl dec_X9_around.2.2.2.1 (k_tag (tag := 0) rfl fun r1 s2 => ?_)
    exact V_pick [] rfl (X9_around_b20_s G l s2 r1)
  · refine V_iconst dec_X9_around.1.2.2.2 rfl ?_
    refine V_goto (tgt := 20) dec_X9_around.2.1.1 (by decide) ?_
    exact V_pick [] rfl (X9_around_b20_s G l s 0)
theorem dec_X10_landingWith : ((((decode cX10_landingWith 0 = .ok (.iload_n 2, 1) ∧ (decode cX10_landingWith 1 = .ok (.aload_n 0, 1) ∧ decode cX10_landingWith 2 = .ok (.getfield 25, 3))) ∧ (decode cX10_landingWith 5 = .ok (.getfield 50, 3) ∧ (decode cX10_landingWith 8 = .ok (.iload_n 1, 1) ∧ decode cX10_landingWith 9 = .ok (.iaload, 1)))) ∧ ((decode cX10_landingWith 10 = .ok (.iload_n 3, 1) ∧ (decode cX10_landingWith 11 = .ok (.iload 5, 2) ∧ decode cX10_landingWith 13 = .ok (.invokestatic 53, 3))) ∧ (decode cX10_landingWith 16 = .ok (.iadd, 1) ∧ (decode cX10_landingWith 17 = .ok (.istore 6, 2) ∧ decode cX10_landingWith 19 = .ok (.aload_n 0, 1))))) ∧ (((decode cX10_landingWith 20 = .ok (.getfield 25, 3) ∧ (decode cX10_landingWith 23 = .ok (.iload 4, 2) ∧ decode cX10_landingWith 25 = .ok (.ifCond .ge 8, 3))) ∧ (decode cX10_landingWith 28 = .ok (.iload 6, 2) ∧ (decode cX10_landingWith 30 = .ok (.goto 10, 3) ∧ decode cX10_landingWith 33 = .ok (.iconst 2, 1)))) ∧ ((decode cX10_landingWith 34 = .ok (.iload 4, 2) ∧ (decode cX10_landingWith 36 = .ok (.imul, 1) ∧ decode cX10_landingWith 37 = .ok (.iload 6, 2))) ∧ (decode cX10_landingWith 39 = .ok (.isub, 1) ∧ (decode cX10_landingWith 40 = .ok (.invokevirtual 57, 3) ∧ decode cX10_landingWith 43 = .ok (.ireturn, 1)))))) := ⟨by decide +kernel, by decide +kernel⟩
def X10_landingWith_b40 (s : St) (k0 k1 : Int) : Rs :=
  grd (isK s 19 k1) (bnd (X9_around s k1 k0) (fun r3 s4 => some (r3, s4)))
set_option maxRecDepth 100000 in
set_option maxHeartbeats 4000000 in
theorem X10_landingWith_b40_s (G : Gx) (l : Launch) (s : St) (k0 k1 : Int) : V G l mX10_landingWith 40 [] [(0, k0), (2, k1)] s (X10_landingWith_b40 s k0 k1) := by
  unfold X10_landingWith_b40
  refine V_callV0 (ci := 9) (a := k1) (As := [(0, k0)]) (st := []) rfl rfl (X9_around_s G l s k1 k0) cal_X9_around rfl ml_X10_57 rfl rfl dec_X10_landingWith.2.2.2.2.1 (k_tag (tag := 0) rfl fun r3 s4 => ?_)
  exact V_iret rfl dec_X10_landingWith.2.2.2.2.2
def X10_landingWith (s : St) (a0 a1 a2 a3 a4 a5 : Int) : Rs :=
  grd (isK s 20 a0) (grd (isK s 19 (gR s a0 0)) (grd (isK s 1 (gR s (gR s a0 0) 7) ∧ 0 ≤ a1 ∧ a1 < ln s (gR s (gR s a0 0) 7)) (bnd (X10_shift s (gI s (gR s (gR s a0 0) 7) a1.toNat) a3 a5) (fun r1 s2 => grd (isK s2 20 a0) (if 0 ≤ a4 then (X10_landingWith_b40 s2 (w32 ((w32 (2 * a4)) - (w32 (a2 + r1)))) (gR s2 a0 0)) else (X10_landingWith_b40 s2 (w32 (a2 + r1)) (gR s2 a0 0)))))))
set_option maxRecDepth 100000 in
set_option maxHeartbeats 4000000 in
theorem X10_landingWith_s (G : Gx) (l : Launch) (s : St) (a0 a1 a2 a3 a4 a5 : Int) : Snd G l mX10_landingWith [(2, a0), (0, a1), (0, a2), (0, a3), (0, a4), (0, a5)] s (X10_landingWith s a0 a1 a2 a3 a4 a5) := by
  refine Snd.of (by decide +kernel) rfl ?_
  show V G l mX10_landingWith 0 [(0, (2, a0)), (1, (0, a1)), (2, (0, a2)), (3, (0, a3)), (4, (0, a4)), (5, (0, a5))] [] s _
  unfold X10_landingWith
  refine V_iload_n dec_X10_landingWith.1.1.1.1 2 rfl ?_
  refine V_aload_n dec_X10_landingWith.1.1.1.2.1 0 rfl ?_
  refine V_getR 10 0 nf_10_0 ft_10_0 fl_X10_25 dec_X10_landingWith.1.1.1.2.2 ?_
  refine V_getR 9 7 nf_9_7 ft_9_7 fl_X10_50 dec_X10_landingWith.1.1.2.1 ?_
  refine V_iload_n dec_X10_landingWith.1.1.2.2.1 1 rfl ?_
  refine V_iald dec_X10_landingWith.1.1.2.2.2 ?_
  refine V_iload_n dec_X10_landingWith.1.2.1.1 3 rfl ?_
  refine V_iload dec_X10_landingWith.1.2.1.2.1 5 rfl ?_
  refine V_callS0 (As := [(0, (gI s (gR s (gR s a0 0) 7) a1.toNat)), (0, a3), (0, a5)]) (st := [(0, a2)]) (host := "") rfl (X10_shift_s G l s (gI s (gR s (gR s a0 0) 7) a1.toNat) a3 a5) cal_X10_shift rfl (Or.inl ml_X10_53) rfl rfl dec_X10_landingWith.1.2.1.2.2 (k_tag (tag := 0) rfl fun r1 s2 => ?_)
  refine V_iadd dec_X10_landingWith.1.2.2.1 ?_
  refine V_istore (lv' := [(6, (0, (w32 (a2 + r1)))), (0, (2, a0)), (1, (0, a1)), (2, (0, a2)), (3, (0, a3)), (4, (0, a4)), (5, (0, a5))]) dec_X10_landingWith.1.2.2.2.1 (by decide) rfl ?_
  refine V_aload_n dec_X10_landingWith.1.2.2.2.2 1 rfl ?_
  refine V_getR 10 0 nf_10_0 ft_10_0 fl_X10_25 dec_X10_landingWith.2.1.1.1 ?_
  refine V_iload dec_X10_landingWith.2.1.1.2.1 5 rfl ?_
  refine V_if_ge (tgt := 33) dec_X10_landingWith.2.1.1.2.2 (by decide) ?_ ?_
  · refine V_iconst dec_X10_landingWith.2.1.2.2.2 rfl ?_
    refine V_iload dec_X10_landingWith.2.2.1.1 5 rfl ?_
    refine V_imul dec_X10_landingWith.2.2.1.2.1 ?_
    refine V_iload dec_X10_landingWith.2.2.1.2.2 0 rfl ?_
    refine V_isub dec_X10_landingWith.2.2.2.1 ?_
    exact V_pick [] rfl (X10_landingWith_b40_s G l s2 (w32 ((w32 (2 * a4)) - (w32 (a2 + r1)))) (gR s2 a0 0))
  · refine V_iload dec_X10_landingWith.2.1.2.1 0 rfl ?_
    refine V_goto (tgt := 40) dec_X10_landingWith.2.1.2.2.1 (by decide) ?_
    exact V_pick [] rfl (X10_landingWith_b40_s G l s2 (w32 (a2 + r1)) (gR s2 a0 0))
theorem dec_X10_landingAimed : ((((decode cX10_landingAimed 0 = .ok (.aload_n 0, 1) ∧ decode cX10_landingAimed 1 = .ok (.iload_n 1, 1)) ∧ (decode cX10_landingAimed 2 = .ok (.iload_n 2, 1) ∧ decode cX10_landingAimed 3 = .ok (.aload_n 0, 1))) ∧ ((decode cX10_landingAimed 4 = .ok (.getfield 12, 3) ∧ decode cX10_landingAimed 7 = .ok (.getfield 61, 3)) ∧ (decode cX10_landingAimed 10 = .ok (.iload_n 1, 1) ∧ decode cX10_landingAimed 11 = .ok (.iaload, 1)))) ∧ (((decode cX10_landingAimed 12 = .ok (.aload_n 0, 1) ∧ decode cX10_landingAimed 13 = .ok (.getfield 12, 3)) ∧ (decode cX10_landingAimed 16 = .ok (.getfield 64, 3) ∧ decode cX10_landingAimed 19 = .ok (.iload_n 1, 1))) ∧ ((decode cX10_landingAimed 20 = .ok (.iaload, 1) ∧ decode cX10_landingAimed 21 = .ok (.iload_n 3, 1)) ∧ (decode cX10_landingAimed 22 = .ok (.invokevirtual 67, 3) ∧ decode cX10_landingAimed 25 = .ok (.ireturn, 1))))) := ⟨by decide +kernel, by decide +kernel⟩
def X10_landingAimed (s : St) (a0 a1 a2 a3 : Int) : Rs :=
  grd (isK s 20 a0) (grd (isK s 16 (gR s a0 1)) (grd (isK s 1 (gR s (gR s a0 1) 2) ∧ 0 ≤ a1 ∧ a1 < ln s (gR s (gR s a0 1) 2)) (grd (isK s 20 a0) (grd (isK s 16 (gR s a0 1)) (grd (isK s 1 (gR s (gR s a0 1) 3) ∧ 0 ≤ a1 ∧ a1 < ln s (gR s (gR s a0 1) 3)) (grd (isK s 20 a0) (bnd (X10_landingWith s a0 a1 a2 (gI s (gR s (gR s a0 1) 2) a1.toNat) (gI s (gR s (gR s a0 1) 3) a1.toNat) a3) (fun r1 s2 => some (r1, s2)))))))))
set_option maxRecDepth 100000 in
set_option maxHeartbeats 4000000 in
theorem X10_landingAimed_s (G : Gx) (l : Launch) (s : St) (a0 a1 a2 a3 : Int) : Snd G l mX10_landingAimed [(2, a0), (0, a1), (0, a2), (0, a3)] s (X10_landingAimed s a0 a1 a2 a3) := by
  refine Snd.of (by decide +kernel) rfl ?_
  show V G l mX10_landingAimed 0 [(0, (2, a0)), (1, (0, a1)), (2, (0, a2)), (3, (0, a3))] [] s _
  unfold X10_landingAimed
  refine V_aload_n dec_X10_landingAimed.1.1.1.1 0 rfl ?_
  refine V_iload_n dec_X10_landingAimed.1.1.1.2 1 rfl ?_
  refine V_iload_n dec_X10_landingAimed.1.1.2.1 2 rfl ?_
  refine V_aload_n dec_X10_landingAimed.1.1.2.2 0 rfl ?_
  refine V_getR 10 1 nf_10_1 ft_10_1 fl_X10_12 dec_X10_landingAimed.1.2.1.1 ?_
  refine V_getR 6 2 nf_6_2 ft_6_2 fl_X10_61 dec_X10_landingAimed.1.2.1.2 ?_
  refine V_iload_n dec_X10_landingAimed.1.2.2.1 1 rfl ?_
  refine V_iald dec_X10_landingAimed.1.2.2.2 ?_
  refine V_aload_n dec_X10_landingAimed.2.1.1.1 0 rfl ?_
  refine V_getR 10 1 nf_10_1 ft_10_1 fl_X10_12 dec_X10_landingAimed.2.1.1.2 ?_
  refine V_getR 6 3 nf_6_3 ft_6_3 fl_X10_64 dec_X10_landingAimed.2.1.2.1 ?_
  refine V_iload_n dec_X10_landingAimed.2.1.2.2 1 rfl ?_
  refine V_iald dec_X10_landingAimed.2.2.1.1 ?_
  refine V_iload_n dec_X10_landingAimed.2.2.1.2 3 rfl ?_
  refine V_callV0 (ci := 10) (a := a0) (As := [(0, a1), (0, a2), (0, (gI s (gR s (gR s a0 1) 2) a1.toNat)), (0, (gI s (gR s (gR s a0 1) 3) a1.toNat)), (0, a3)]) (st := []) rfl rfl (X10_landingWith_s G l s a0 a1 a2 (gI s (gR s (gR s a0 1) 2) a1.toNat) (gI s (gR s (gR s a0 1) 3) a1.toNat) a3) cal_X10_landingWith rfl ml_X10_67 rfl rfl dec_X10_landingAimed.2.2.2.1 (k_tag (tag := 0) rfl fun r1 s2 => ?_)
  exact V_iret rfl dec_X10_landingAimed.2.2.2.2
theorem dec_X10_listener : (((decode cX10_listener 0 = .ok (.aload_n 0, 1) ∧ decode cX10_listener 1 = .ok (.getfield 21, 3)) ∧ (decode cX10_listener 4 = .ok (.aload_n 0, 1) ∧ (decode cX10_listener 5 = .ok (.iload_n 1, 1) ∧ decode cX10_listener 6 = .ok (.aload_n 0, 1)))) ∧ ((decode cX10_listener 7 = .ok (.iload_n 1, 1) ∧ (decode cX10_listener 8 = .ok (.invokevirtual 74, 3) ∧ decode cX10_listener 11 = .ok (.iload_n 2, 1))) ∧ (decode cX10_listener 12 = .ok (.invokevirtual 77, 3) ∧ (decode cX10_listener 15 = .ok (.invokevirtual 80, 3) ∧ decode cX10_listener 18 = .ok (.ireturn, 1))))) := by decide +kernel
def X10_listener (s : St) (a0 a1 a2 : Int) : Rs :=
  grd (isK s 20 a0) (grd (isK s 20 a0) (bnd (X10_aimOf s a0 a1) (fun r1 s2 => grd (isK s2 20 a0) (bnd (X10_landingAimed s2 a0 a1 r1 a2) (fun r3 s4 => grd (isK s4 17 (gR s a0 2)) (bnd (X7_listenerAt s4 (gR s a0 2) r3) (fun r5 s6 => some (r5, s6))))))))
set_option maxRecDepth 100000 in
set_option maxHeartbeats 4000000 in
theorem X10_listener_s (G : Gx) (l : Launch) (s : St) (a0 a1 a2 : Int) : Snd G l mX10_listener [(2, a0), (0, a1), (0, a2)] s (X10_listener s a0 a1 a2) := by
  refine Snd.of (by decide +kernel) rfl ?_
  show V G l mX10_listener 0 [(0, (2, a0)), (1, (0, a1)), (2, (0, a2))] [] s _
  unfold X10_listener
  refine V_aload_n dec_X10_listener.1.1.1 0 rfl ?_
  refine V_getR 10 2 nf_10_2 ft_10_2 fl_X10_21 dec_X10_listener.1.1.2 ?_
  refine V_aload_n dec_X10_listener.1.2.1 0 rfl ?_
  refine V_iload_n dec_X10_listener.1.2.2.1 1 rfl ?_
  refine V_aload_n dec_X10_listener.1.2.2.2 0 rfl ?_
  refine V_iload_n dec_X10_listener.2.1.1 1 rfl ?_
  refine V_callV0 (ci := 10) (a := a0) (As := [(0, a1)]) (st := [(0, a1), (2, a0), (2, (gR s a0 2))]) rfl rfl (X10_aimOf_s G l s a0 a1) cal_X10_aimOf rfl ml_X10_74 rfl rfl dec_X10_listener.2.1.2.1 (k_tag (tag := 0) rfl fun r1 s2 => ?_)
  refine V_iload_n dec_X10_listener.2.1.2.2 2 rfl ?_
  refine V_callV0 (ci := 10) (a := a0) (As := [(0, a1), (0, r1), (0, a2)]) (st := [(2, (gR s a0 2))]) rfl rfl (X10_landingAimed_s G l s2 a0 a1 r1 a2) cal_X10_landingAimed rfl ml_X10_77 rfl rfl dec_X10_listener.2.2.1 (k_tag (tag := 0) rfl fun r3 s4 => ?_)
  refine V_callV0 (ci := 7) (a := (gR s a0 2)) (As := [(0, r3)]) (st := []) rfl rfl (X7_listenerAt_s G l s4 (gR s a0 2) r3) cal_X7_listenerAt rfl ml_X10_80 rfl rfl dec_X10_listener.2.2.2.1 (k_tag (tag := 0) rfl fun r5 s6 => ?_)
  exact V_iret rfl dec_X10_listener.2.2.2.2
theorem dec_X0_collect : ((((((decode cX0_collect 0 = .ok (.aload_n 0, 1) ∧ decode cX0_collect 1 = .ok (.iconst 0, 1)) ∧ (decode cX0_collect 2 = .ok (.putfield 28, 3) ∧ decode cX0_collect 5 = .ok (.iconst 0, 1))) ∧ ((decode cX0_collect 6 = .ok (.istore_n 3, 1) ∧ decode cX0_collect 7 = .ok (.iload_n 3, 1)) ∧ (decode cX0_collect 8 = .ok (.bipush 6, 2) ∧ (decode cX0_collect 10 = .ok (.if_icmp .ge 23, 3) ∧ decode cX0_collect 13 = .ok (.aload_n 0, 1))))) ∧ (((decode cX0_collect 14 = .ok (.getfield 15, 3) ∧ decode cX0_collect 17 = .ok (.iload_n 3, 1)) ∧ (decode cX0_collect 18 = .ok (.iconst 0, 1) ∧ decode cX0_collect 19 = .ok (.iastore, 1))) ∧ ((decode cX0_collect 20 = .ok (.aload_n 0, 1) ∧ decode cX0_collect 21 = .ok (.getfield 18, 3)) ∧ (decode cX0_collect 24 = .ok (.iload_n 3, 1) ∧ (decode cX0_collect 25 = .ok (.iconst 0, 1) ∧ decode cX0_collect 26 = .ok (.iastore, 1)))))) ∧ ((((decode cX0_collect 27 = .ok (.iinc 3 1, 3) ∧ decode cX0_collect 30 = .ok (.goto (-23), 3)) ∧ (decode cX0_collect 33 = .ok (.iconst 0, 1) ∧ decode cX0_collect 34 = .ok (.istore_n 3, 1))) ∧ ((decode cX0_collect 35 = .ok (.iload_n 3, 1) ∧ decode cX0_collect 36 = .ok (.aload_n 1, 1)) ∧ (decode cX0_collect 37 = .ok (.getfield 36, 3) ∧ (decode cX0_collect 40 = .ok (.getfield 42, 3) ∧ decode cX0_collect 43 = .ok (.if_icmp .ge 78, 3))))) ∧ (((decode cX0_collect 46 = .ok (.aload_n 1, 1) ∧ decode cX0_collect 47 = .ok (.iload_n 3, 1)) ∧ (decode cX0_collect 48 = .ok (.iload_n 2, 1) ∧ (decode cX0_collect 49 = .ok (.invokevirtual 47, 3) ∧ decode cX0_collect 52 = .ok (.istore 4, 2)))) ∧ ((decode cX0_collect 54 = .ok (.aload_n 1, 1) ∧ decode cX0_collect 55 = .ok (.getfield 36, 3)) ∧ (decode cX0_collect 58 = .ok (.getfield 51, 3) ∧ (decode cX0_collect 61 = .ok (.iload_n 3, 1) ∧ decode cX0_collect 62 = .ok (.iaload, 1))))))) ∧ (((((decode cX0_collect 63 = .ok (.istore 5, 2) ∧ decode cX0_collect 65 = .ok (.iload 4, 2)) ∧ (decode cX0_collect 67 = .ok (.ifCond .lt 48, 3) ∧ decode cX0_collect 70 = .ok (.iload 4, 2))) ∧ ((decode cX0_collect 72 = .ok (.iload 5, 2) ∧ decode cX0_collect 74 = .ok (.if_icmp .eq 41, 3)) ∧ (decode cX0_collect 77 = .ok (.aload_n 0, 1) ∧ (decode cX0_collect 78 = .ok (.dup, 1) ∧ decode cX0_collect 79 = .ok (.getfield 28, 3))))) ∧ (((decode cX0_collect 82 = .ok (.iconst 1, 1) ∧ decode cX0_collect 83 = .ok (.iload_n 3, 1)) ∧ (decode cX0_collect 84 = .ok (.ishl, 1) ∧ decode cX0_collect 85 = .ok (.ior, 1))) ∧ ((decode cX0_collect 86 = .ok (.putfield 28, 3) ∧ decode cX0_collect 89 = .ok (.aload_n 0, 1)) ∧ (decode cX0_collect 90 = .ok (.getfield 15, 3) ∧ (decode cX0_collect 93 = .ok (.iload 4, 2) ∧ decode cX0_collect 95 = .ok (.dup2, 1)))))) ∧ ((((decode cX0_collect 96 = .ok (.iaload, 1) ∧ decode cX0_collect 97 = .ok (.iconst 1, 1)) ∧ (decode cX0_collect 98 = .ok (.iload_n 3, 1) ∧ decode cX0_collect 99 = .ok (.ishl, 1))) ∧ ((decode cX0_collect 100 = .ok (.ior, 1) ∧ decode cX0_collect 101 = .ok (.iastore, 1)) ∧ (decode cX0_collect 102 = .ok (.aload_n 0, 1) ∧ (decode cX0_collect 103 = .ok (.getfield 18, 3) ∧ decode cX0_collect 106 = .ok (.iload 5, 2))))) ∧ (((decode cX0_collect 108 = .ok (.dup2, 1) ∧ decode cX0_collect 109 = .ok (.iaload, 1)) ∧ (decode cX0_collect 110 = .ok (.iconst 1, 1) ∧ (decode cX0_collect 111 = .ok (.iload_n 3, 1) ∧ decode cX0_collect 112 = .ok (.ishl, 1)))) ∧ ((decode cX0_collect 113 = .ok (.ior, 1) ∧ decode cX0_collect 114 = .ok (.iastore, 1)) ∧ (decode cX0_collect 115 = .ok (.iinc 3 1, 3) ∧ (decode cX0_collect 118 = .ok (.goto (-83), 3) ∧ decode cX0_collect 121 = .ok (.return_, 1)))))))) := ⟨⟨⟨by decide +kernel, by decide +kernel⟩, ⟨by decide +kernel, by decide +kernel⟩⟩, ⟨⟨by decide +kernel, by decide +kernel⟩, ⟨by decide +kernel, by decide +kernel⟩⟩⟩
def X0_collect_b115 (rk35 : St → Int → Int → Int → Int → Rs) (s : St) (x0 x1 x2 x3 : Int) : Rs :=
  rk35 s x0 x1 x2 (w32 (x3 + 1))
set_option maxRecDepth 100000 in
set_option maxHeartbeats 4000000 in
theorem X0_collect_b115_s (G : Gx) (l : Launch) (rk35 : St → Int → Int → Int → Int → Rs) (hk35 : ∀ (s : St) (x0 x1 x2 x3 : Int), V G l mX0_collect 35 [(0, (2, x0)), (1, (2, x1)), (2, (0, x2)), (3, (0, x3))] [] s (rk35 s x0 x1 x2 x3)) (s : St) (x0 x1 x2 x3 : Int) : V G l mX0_collect 115 [(0, (2, x0)), (1, (2, x1)), (2, (0, x2)), (3, (0, x3))] [] s (X0_collect_b115 rk35 s x0 x1 x2 x3) := by
  unfold X0_collect_b115
  refine V_iinc (lv' := [(3, (0, (w32 (x3 + 1)))), (0, (2, x0)), (1, (2, x1)), (2, (0, x2))]) dec_X0_collect.2.2.2.2.2.1 3 rfl (by decide) rfl ?_
  refine V_goto (tgt := 35) dec_X0_collect.2.2.2.2.2.2.1 (by decide) ?_
  exact V_pick [1, 2, 3, 0] rfl (hk35 s x0 x1 x2 (w32 (x3 + 1)))
def X0_collect_b35_body (rk35 : St → Int → Int → Int → Int → Rs) (s : St) (x0 x1 x2 x3 : Int) : Rs :=
  grd (isK s 20 x1) (grd (isK s 19 (gR s x1 0)) (if (gI s (gR s x1 0) 3) ≤ x3 then (some (0, s)) else (grd (isK s 20 x1) (bnd (X10_listener s x1 x3 x2) (fun r2 s3 => grd (isK s3 20 x1) (grd (isK s3 19 (gR s3 x1 0)) (grd (isK s3 1 (gR s3 (gR s3 x1 0) 8) ∧ 0 ≤ x3 ∧ x3 < ln s3 (gR s3 (gR s3 x1 0) 8)) (letv (gI s3 (gR s3 (gR s3 x1 0) 8) x3.toNat) (fun y4 => if r2 < 0 then (X0_collect_b115 rk35 s3 x0 x1 x2 x3) else (if r2 = y4 then (X0_collect_b115 rk35 s3 x0 x1 x2 x3) else (grd (isK s3 10 x0) (grd (isK s3 10 x0) (lets (pI s3 x0 4 (or32 (gI s3 x0 4) (shl32 1 x3))) (fun s5 => grd (isK s5 10 x0) (grd (isK s5 1 (gR s5 x0 2) ∧ 0 ≤ r2 ∧ r2 < ln s5 (gR s5 x0 2)) (grd (isK s5 1 (gR s5 x0 2) ∧ 0 ≤ r2 ∧ r2 < ln s5 (gR s5 x0 2)) (lets (pI s5 (gR s5 x0 2) r2.toNat (or32 (gI s5 (gR s5 x0 2) r2.toNat) (shl32 1 x3))) (fun s6 => grd (isK s6 10 x0) (grd (isK s6 1 (gR s6 x0 3) ∧ 0 ≤ y4 ∧ y4 < ln s6 (gR s6 x0 3)) (grd (isK s6 1 (gR s6 x0 3) ∧ 0 ≤ y4 ∧ y4 < ln s6 (gR s6 x0 3)) (lets (pI s6 (gR s6 x0 3) y4.toNat (or32 (gI s6 (gR s6 x0 3) y4.toNat) (shl32 1 x3))) (fun s7 => X0_collect_b115 rk35 s7 x0 x1 x2 x3))))))))))))))))))))))
def X0_collect_b35 (n : Nat) (s : St) (x0 x1 x2 x3 : Int) : Rs := iter (fun (rec : St × Int × Int × Int × Int → Rs) (a : St × Int × Int × Int × Int) => X0_collect_b35_body (fun (s : St) (x0 x1 x2 x3 : Int) => rec (s, x0, x1, x2, x3)) a.1 a.2.1 a.2.2.1 a.2.2.2.1 a.2.2.2.2) n (s, x0, x1, x2, x3)
theorem X0_collect_b35_0 (s : St) (x0 x1 x2 x3 : Int) : X0_collect_b35 0 s x0 x1 x2 x3 = none := rfl
theorem X0_collect_b35_1 (n : Nat) (s : St) (x0 x1 x2 x3 : Int) : X0_collect_b35 (n + 1) s x0 x1 x2 x3 = X0_collect_b35_body (X0_collect_b35 n) s x0 x1 x2 x3 := rfl
set_option maxRecDepth 100000 in
set_option maxHeartbeats 4000000 in
theorem X0_collect_b35_body_s (G : Gx) (l : Launch) (rk35 : St → Int → Int → Int → Int → Rs) (hk35 : ∀ (s : St) (x0 x1 x2 x3 : Int), V G l mX0_collect 35 [(0, (2, x0)), (1, (2, x1)), (2, (0, x2)), (3, (0, x3))] [] s (rk35 s x0 x1 x2 x3)) (s : St) (x0 x1 x2 x3 : Int) : V G l mX0_collect 35 [(0, (2, x0)), (1, (2, x1)), (2, (0, x2)), (3, (0, x3))] [] s (X0_collect_b35_body rk35 s x0 x1 x2 x3) := by
  unfold X0_collect_b35_body
  refine V_iload_n dec_X0_collect.1.2.1.2.1.1 3 rfl ?_
  refine V_aload_n dec_X0_collect.1.2.1.2.1.2 1 rfl ?_
  refine V_getR 10 0 nf_10_0 ft_10_0 fl_X0_36 dec_X0_collect.1.2.1.2.2.1 ?_
  refine V_getI 9 3 nf_9_3 ft_9_3 fl_X0_42 dec_X0_collect.1.2.1.2.2.2.1 ?_
  refine V_icmp_ge (tgt := 121) dec_X0_collect.1.2.1.2.2.2.2 (by decide) ?_ ?_
  · exact V_vret rfl dec_X0_collect.2.2.2.2.2.2.2
  · refine V_aload_n dec_X0_collect.1.2.2.1.1.1 1 rfl ?_
    refine V_iload_n dec_X0_collect.1.2.2.1.1.2 3 rfl ?_
    refine V_iload_n dec_X0_collect.1.2.2.1.2.1 2 rfl ?_
    refine V_callV0 (ci := 10) (a := x1) (As := [(0, x3), (0, x2)]) (st := []) rfl rfl (X10_listener_s G l s x1 x3 x2) cal_X10_listener rfl ml_X0_47 rfl rfl dec_X0_collect.1.2.2.1.2.2.1 (k_tag (tag := 0) rfl fun r2 s3 => ?_)
    refine V_istore (lv' := [(4, (0, r2)), (0, (2, x0)), (1, (2, x1)), (2, (0, x2)), (3, (0, x3))]) dec_X0_collect.1.2.2.1.2.2.2 (by decide) rfl ?_
    refine V_aload_n dec_X0_collect.1.2.2.2.1.1 2 rfl ?_
    refine V_getR 10 0 nf_10_0 ft_10_0 fl_X0_36 dec_X0_collect.1.2.2.2.1.2 ?_
    refine V_getR 9 8 nf_9_8 ft_9_8 fl_X0_51 dec_X0_collect.1.2.2.2.2.1 ?_
    refine V_iload_n dec_X0_collect.1.2.2.2.2.2.1 4 rfl ?_
    refine V_iald dec_X0_collect.1.2.2.2.2.2.2 ?_
    refine V_letv fun y4 => ?_
    refine V_istore (lv' := [(5, (0, y4)), (4, (0, r2)), (0, (2, x0)), (1, (2, x1)), (2, (0, x2)), (3, (0, x3))]) dec_X0_collect.2.1.1.1.1.1 (by decide) rfl ?_
    refine V_iload dec_X0_collect.2.1.1.1.1.2 1 rfl ?_
    refine V_if_lt (tgt := 115) dec_X0_collect.2.1.1.1.2.1 (by decide) ?_ ?_
    · exact V_pick [2, 3, 4, 5] rfl (X0_collect_b115_s G l rk35 hk35 s3 x0 x1 x2 x3)
    · refine V_iload dec_X0_collect.2.1.1.1.2.2 1 rfl ?_
      refine V_iload dec_X0_collect.2.1.1.2.1.1 0 rfl ?_
      refine V_icmp_eq (tgt := 115) dec_X0_collect.2.1.1.2.1.2 (by decide) ?_ ?_
      · exact V_pick [2, 3, 4, 5] rfl (X0_collect_b115_s G l rk35 hk35 s3 x0 x1 x2 x3)
      · refine V_aload_n dec_X0_collect.2.1.1.2.2.1 2 rfl ?_
        refine V_dup (nl2 _) dec_X0_collect.2.1.1.2.2.2.1 ?_
        refine V_getI 0 4 nf_0_4 ft_0_4 fl_X0_28 dec_X0_collect.2.1.1.2.2.2.2 ?_
        refine V_iconst dec_X0_collect.2.1.2.1.1.1 rfl ?_
        refine V_iload_n dec_X0_collect.2.1.2.1.1.2 5 rfl ?_
        refine V_ishl dec_X0_collect.2.1.2.1.2.1 ?_
        refine V_ior dec_X0_collect.2.1.2.1.2.2 ?_
        refine V_putI (host := "") 0 4 nf_0_4 ty_0_4 (Or.inl ⟨fl_X0_28, Or.inl rfl⟩) dec_X0_collect.2.1.2.2.1.1 ?_
        refine V_lets fun s5 => ?_
        refine V_aload_n dec_X0_collect.2.1.2.2.1.2 2 rfl ?_
        refine V_getR 0 2 nf_0_2 ft_0_2 fl_X0_15 dec_X0_collect.2.1.2.2.2.1 ?_
        refine V_iload dec_X0_collect.2.1.2.2.2.2.1 1 rfl ?_
        refine V_dup2 (nl0 _) (nl2 _) dec_X0_collect.2.1.2.2.2.2.2 ?_
        refine V_iald dec_X0_collect.2.2.1.1.1.1 ?_
        refine V_iconst dec_X0_collect.2.2.1.1.1.2 rfl ?_
        refine V_iload_n dec_X0_collect.2.2.1.1.2.1 5 rfl ?_
        refine V_ishl dec_X0_collect.2.2.1.1.2.2 ?_
        refine V_ior dec_X0_collect.2.2.1.2.1.1 ?_
        refine V_iast dec_X0_collect.2.2.1.2.1.2 ?_
        refine V_lets fun s6 => ?_
        refine V_aload_n dec_X0_collect.2.2.1.2.2.1 2 rfl ?_
        refine V_getR 0 3 nf_0_3 ft_0_3 fl_X0_18 dec_X0_collect.2.2.1.2.2.2.1 ?_
        refine V_iload dec_X0_collect.2.2.1.2.2.2.2 0 rfl ?_
        refine V_dup2 (nl0 _) (nl2 _) dec_X0_collect.2.2.2.1.1.1 ?_
        refine V_iald dec_X0_collect.2.2.2.1.1.2 ?_
        refine V_iconst dec_X0_collect.2.2.2.1.2.1 rfl ?_
        refine V_iload_n dec_X0_collect.2.2.2.1.2.2.1 5 rfl ?_
        refine V_ishl dec_X0_collect.2.2.2.1.2.2.2 ?_
        refine V_ior dec_X0_collect.2.2.2.2.1.1 ?_
        refine V_iast dec_X0_collect.2.2.2.2.1.2 ?_
        refine V_lets fun s7 => ?_
        exact V_pick [2, 3, 4, 5] rfl (X0_collect_b115_s G l rk35 hk35 s7 x0 x1 x2 x3)
theorem X0_collect_b35_s (G : Gx) (l : Launch) (n : Nat) (s : St) (x0 x1 x2 x3 : Int) : V G l mX0_collect 35 [(0, (2, x0)), (1, (2, x1)), (2, (0, x2)), (3, (0, x3))] [] s (X0_collect_b35 n s x0 x1 x2 x3) :=
  V_iter (LV := fun a : St × Int × Int × Int × Int => [(0, (2, a.2.1)), (1, (2, a.2.2.1)), (2, (0, a.2.2.2.1)), (3, (0, a.2.2.2.2))]) (ST := fun a : St × Int × Int × Int × Int => []) (SS := fun a : St × Int × Int × Int × Int => a.1) (fun rec hrec a => X0_collect_b35_body_s G l (fun (s : St) (x0 x1 x2 x3 : Int) => rec (s, x0, x1, x2, x3)) (fun (s : St) (x0 x1 x2 x3 : Int) => hrec (s, x0, x1, x2, x3)) a.1 a.2.1 a.2.2.1 a.2.2.2.1 a.2.2.2.2) n (s, x0, x1, x2, x3)
def X0_collect_b7_body (rk7 : St → Int → Int → Int → Int → Rs) (s : St) (x0 x1 x2 x3 : Int) : Rs :=
  if (6 : Int) ≤ x3 then (X0_collect_b35 FU s x0 x1 x2 0) else (grd (isK s 10 x0) (grd (isK s 1 (gR s x0 2) ∧ 0 ≤ x3 ∧ x3 < ln s (gR s x0 2)) (lets (pI s (gR s x0 2) x3.toNat 0) (fun s8 => grd (isK s8 10 x0) (grd (isK s8 1 (gR s8 x0 3) ∧ 0 ≤ x3 ∧ x3 < ln s8 (gR s8 x0 3)) (lets (pI s8 (gR s8 x0 3) x3.toNat 0) (fun s9 => rk7 s9 x0 x1 x2 (w32 (x3 + 1)))))))))
def X0_collect_b7 (n : Nat) (s : St) (x0 x1 x2 x3 : Int) : Rs := iter (fun (rec : St × Int × Int × Int × Int → Rs) (a : St × Int × Int × Int × Int) => X0_collect_b7_body (fun (s : St) (x0 x1 x2 x3 : Int) => rec (s, x0, x1, x2, x3)) a.1 a.2.1 a.2.2.1 a.2.2.2.1 a.2.2.2.2) n (s, x0, x1, x2, x3)
theorem X0_collect_b7_0 (s : St) (x0 x1 x2 x3 : Int) : X0_collect_b7 0 s x0 x1 x2 x3 = none := rfl
theorem X0_collect_b7_1 (n : Nat) (s : St) (x0 x1 x2 x3 : Int) : X0_collect_b7 (n + 1) s x0 x1 x2 x3 = X0_collect_b7_body (X0_collect_b7 n) s x0 x1 x2 x3 := rfl
set_option maxRecDepth 100000 in
set_option maxHeartbeats 4000000 in
theorem X0_collect_b7_body_s (G : Gx) (l : Launch) (rk7 : St → Int → Int → Int → Int → Rs) (hk7 : ∀ (s : St) (x0 x1 x2 x3 : Int), V G l mX0_collect 7 [(0, (2, x0)), (1, (2, x1)), (2, (0, x2)), (3, (0, x3))] [] s (rk7 s x0 x1 x2 x3)) (s : St) (x0 x1 x2 x3 : Int) : V G l mX0_collect 7 [(0, (2, x0)), (1, (2, x1)), (2, (0, x2)), (3, (0, x3))] [] s (X0_collect_b7_body rk7 s x0 x1 x2 x3) := by
  unfold X0_collect_b7_body
  refine V_iload_n dec_X0_collect.1.1.1.2.1.2 3 rfl ?_
  refine V_bipush dec_X0_collect.1.1.1.2.2.1 rfl ?_
  refine V_icmp_ge (tgt := 33) dec_X0_collect.1.1.1.2.2.2.1 (by decide) ?_ ?_
  · refine V_iconst dec_X0_collect.1.2.1.1.2.1 rfl ?_
    refine V_istore_n (lv' := [(3, (0, 0)), (0, (2, x0)), (1, (2, x1)), (2, (0, x2))]) dec_X0_collect.1.2.1.1.2.2 (by decide) rfl ?_
    exact V_pick [1, 2, 3, 0] rfl (X0_collect_b35_s G l FU s x0 x1 x2 0)
  · refine V_aload_n dec_X0_collect.1.1.1.2.2.2.2 0 rfl ?_
    refine V_getR 0 2 nf_0_2 ft_0_2 fl_X0_15 dec_X0_collect.1.1.2.1.1.1 ?_
    refine V_iload_n dec_X0_collect.1.1.2.1.1.2 3 rfl ?_
    refine V_iconst dec_X0_collect.1.1.2.1.2.1 rfl ?_
    refine V_iast dec_X0_collect.1.1.2.1.2.2 ?_
    refine V_lets fun s8 => ?_
    refine V_aload_n dec_X0_collect.1.1.2.2.1.1 0 rfl ?_
    refine V_getR 0 3 nf_0_3 ft_0_3 fl_X0_18 dec_X0_collect.1.1.2.2.1.2 ?_
    refine V_iload_n dec_X0_collect.1.1.2.2.2.1 3 rfl ?_
    refine V_iconst dec_X0_collect.1.1.2.2.2.2.1 rfl ?_
    refine V_iast dec_X0_collect.1.1.2.2.2.2.2 ?_
    refine V_lets fun s9 => ?_
    refine V_iinc (lv' := [(3, (0, (w32 (x3 + 1)))), (0, (2, x0)), (1, (2, x1)), (2, (0, x2))]) dec_X0_collect.1.2.1.1.1.1 3 rfl (by decide) rfl ?_
    refine V_goto (tgt := 7) dec_X0_collect.1.2.1.1.1.2 (by decide) ?_
    exact V_pick [1, 2, 3, 0] rfl (hk7 s9 x0 x1 x2 (w32 (x3 + 1)))
theorem X0_collect_b7_s (G : Gx) (l : Launch) (n : Nat) (s : St) (x0 x1 x2 x3 : Int) : V G l mX0_collect 7 [(0, (2, x0)), (1, (2, x1)), (2, (0, x2)), (3, (0, x3))] [] s (X0_collect_b7 n s x0 x1 x2 x3) :=
  V_iter (LV := fun a : St × Int × Int × Int × Int => [(0, (2, a.2.1)), (1, (2, a.2.2.1)), (2, (0, a.2.2.2.1)), (3, (0, a.2.2.2.2))]) (ST := fun a : St × Int × Int × Int × Int => []) (SS := fun a : St × Int × Int × Int × Int => a.1) (fun rec hrec a => X0_collect_b7_body_s G l (fun (s : St) (x0 x1 x2 x3 : Int) => rec (s, x0, x1, x2, x3)) (fun (s : St) (x0 x1 x2 x3 : Int) => hrec (s, x0, x1, x2, x3)) a.1 a.2.1 a.2.2.1 a.2.2.2.1 a.2.2.2.2) n (s, x0, x1, x2, x3)
def X0_collect (s : St) (a0 a1 a2 : Int) : Rs :=
  grd (isK s 10 a0) (lets (pI s a0 4 0) (fun s1 => X0_collect_b7 FU s1 a0 a1 a2 0))
set_option maxRecDepth 100000 in
set_option maxHeartbeats 4000000 in
theorem X0_collect_s (G : Gx) (l : Launch) (s : St) (a0 a1 a2 : Int) : Snd G l mX0_collect [(2, a0), (2, a1), (0, a2)] s (X0_collect s a0 a1 a2) := by
  refine Snd.of (by decide +kernel) rfl ?_
  show V G l mX0_collect 0 [(0, (2, a0)), (1, (2, a1)), (2, (0, a2))] [] s _
  unfold X0_collect
  refine V_aload_n dec_X0_collect.1.1.1.1.1.1 0 rfl ?_
  refine V_iconst dec_X0_collect.1.1.1.1.1.2 rfl ?_
  refine V_putI (host := "") 0 4 nf_0_4 ty_0_4 (Or.inl ⟨fl_X0_28, Or.inl rfl⟩) dec_X0_collect.1.1.1.1.2.1 ?_
  refine V_lets fun s1 => ?_
  refine V_iconst dec_X0_collect.1.1.1.1.2.2 rfl ?_
  refine V_istore_n (lv' := [(3, (0, 0)), (0, (2, a0)), (1, (2, a1)), (2, (0, a2))]) dec_X0_collect.1.1.1.2.1.1 (by decide) rfl ?_
  exact V_pick [1, 2, 3, 0] rfl (X0_collect_b7_s G l FU s1 a0 a1 a2 0)
theorem dec_JM_min : ((decode prog_21_method_69_code 0 = .ok (.iload_n 0, 1) ∧ (decode prog_21_method_69_code 1 = .ok (.iload_n 1, 1) ∧ decode prog_21_method_69_code 2 = .ok (.if_icmp .gt 7, 3))) ∧ ((decode prog_21_method_69_code 5 = .ok (.iload_n 0, 1) ∧ decode prog_21_method_69_code 6 = .ok (.goto 4, 3)) ∧ (decode prog_21_method_69_code 9 = .ok (.iload_n 1, 1) ∧ decode prog_21_method_69_code 10 = .ok (.ireturn, 1)))) := by decide +kernel
def JM_min_b10 (s : St) (k0 : Int) : Rs :=
  some (k0, s)
set_option maxRecDepth 100000 in
set_option maxHeartbeats 4000000 in
theorem JM_min_b10_s (G : Gx) (l : Launch) (s : St) (k0 : Int) : V G l mJM_min 10 [] [(0, k0)] s (JM_min_b10 s k0) := by
  unfold JM_min_b10
  exact V_iret rfl dec_JM_min.2.2.2
def JM_min (s : St) (a0 a1 : Int) : Rs :=
  if a1 < a0 then (JM_min_b10 s a1) else (JM_min_b10 s a0)
set_option maxRecDepth 100000 in
set_option maxHeartbeats 4000000 in
theorem JM_min_s (G : Gx) (l : Launch) (s : St) (a0 a1 : Int) : Snd G l mJM_min [(0, a0), (0, a1)] s (JM_min s a0 a1) := by
  refine Snd.of (by decide +kernel) rfl ?_
  show V G l mJM_min 0 [(0, (0, a0)), (1, (0, a1))] [] s _
  unfold JM_min
  refine V_iload_n dec_JM_min.1.1 0 rfl ?_
  refine V_iload_n dec_JM_min.1.2.1 1 rfl ?_
  refine V_icmp_gt (tgt := 9) dec_JM_min.1.2.2 (by decide) ?_ ?_
  · refine V_iload_n dec_JM_min.2.2.1 1 rfl ?_
    exact V_pick [] rfl (JM_min_b10_s G l s a1)
  · refine V_iload_n dec_JM_min.2.1.1 0 rfl ?_
    refine V_goto (tgt := 10) dec_JM_min.2.1.2 (by decide) ?_
    exact V_pick [] rfl (JM_min_b10_s G l s a0)
theorem dec_X0_indexOf : (((decode cX0_indexOf 0 = .ok (.aload_n 0, 1) ∧ (decode cX0_indexOf 1 = .ok (.getfield 9, 3) ∧ decode cX0_indexOf 4 = .ok (.iload_n 1, 1))) ∧ ((decode cX0_indexOf 5 = .ok (.iaload, 1) ∧ decode cX0_indexOf 6 = .ok (.aload_n 0, 1)) ∧ (decode cX0_indexOf 7 = .ok (.getfield 9, 3) ∧ decode cX0_indexOf 10 = .ok (.iload_n 2, 1)))) ∧ ((decode cX0_indexOf 11 = .ok (.iaload, 1) ∧ (decode cX0_indexOf 12 = .ok (.iadd, 1) ∧ decode cX0_indexOf 13 = .ok (.bipush 6, 2))) ∧ ((decode cX0_indexOf 15 = .ok (.imul, 1) ∧ decode cX0_indexOf 16 = .ok (.iload_n 3, 1)) ∧ (decode cX0_indexOf 17 = .ok (.iadd, 1) ∧ decode cX0_indexOf 18 = .ok (.ireturn, 1))))) := ⟨by decide +kernel, by decide +kernel⟩
def X0_indexOf (s : St) (a0 a1 a2 a3 : Int) : Rs :=
  grd (isK s 10 a0) (grd (isK s 1 (gR s a0 0) ∧ 0 ≤ a1 ∧ a1 < ln s (gR s a0 0)) (grd (isK s 10 a0) (grd (isK s 1 (gR s a0 0) ∧ 0 ≤ a2 ∧ a2 < ln s (gR s a0 0)) (some ((w32 ((w32 ((w32 ((gI s (gR s a0 0) a1.toNat) + (gI s (gR s a0 0) a2.toNat))) * 6)) + a3)), s)))))
set_option maxRecDepth 100000 in
set_option maxHeartbeats 4000000 in
theorem X0_indexOf_s (G : Gx) (l : Launch) (s : St) (a0 a1 a2 a3 : Int) : Snd G l mX0_indexOf [(2, a0), (0, a1), (0, a2), (0, a3)] s (X0_indexOf s a0 a1 a2 a3) := by
  refine Snd.of (by decide +kernel) rfl ?_
  show V G l mX0_indexOf 0 [(0, (2, a0)), (1, (0, a1)), (2, (0, a2)), (3, (0, a3))] [] s _
  unfold X0_indexOf
  refine V_aload_n dec_X0_indexOf.1.1.1 0 rfl ?_
  refine V_getR 0 0 nf_0_0 ft_0_0 fl_X0_9 dec_X0_indexOf.1.1.2.1 ?_
  refine V_iload_n dec_X0_indexOf.1.1.2.2 1 rfl ?_
  refine V_iald dec_X0_indexOf.1.2.1.1 ?_
  refine V_aload_n dec_X0_indexOf.1.2.1.2 0 rfl ?_
  refine V_getR 0 0 nf_0_0 ft_0_0 fl_X0_9 dec_X0_indexOf.1.2.2.1 ?_
  refine V_iload_n dec_X0_indexOf.1.2.2.2 2 rfl ?_
  refine V_iald dec_X0_indexOf.2.1.1 ?_
  refine V_iadd dec_X0_indexOf.2.1.2.1 ?_
  refine V_bipush dec_X0_indexOf.2.1.2.2 rfl ?_
  refine V_imul dec_X0_indexOf.2.2.1.1 ?_
  refine V_iload_n dec_X0_indexOf.2.2.1.2 3 rfl ?_
  refine V_iadd dec_X0_indexOf.2.2.2.1 ?_
  exact V_iret rfl dec_X0_indexOf.2.2.2.2
theorem dec_X9_distance : (((decode cX9_distance 0 = .ok (.aload_n 0, 1) ∧ (decode cX9_distance 1 = .ok (.iload_n 2, 1) ∧ decode cX9_distance 2 = .ok (.iload_n 1, 1))) ∧ (decode cX9_distance 3 = .ok (.isub, 1) ∧ (decode cX9_distance 4 = .ok (.invokevirtual 73, 3) ∧ decode cX9_distance 7 = .ok (.istore_n 3, 1)))) ∧ ((decode cX9_distance 8 = .ok (.iload_n 3, 1) ∧ (decode cX9_distance 9 = .ok (.aload_n 0, 1) ∧ decode cX9_distance 10 = .ok (.getfield 40, 3))) ∧ ((decode cX9_distance 13 = .ok (.iload_n 3, 1) ∧ decode cX9_distance 14 = .ok (.isub, 1)) ∧ (decode cX9_distance 15 = .ok (.invokestatic 77, 3) ∧ decode cX9_distance 18 = .ok (.ireturn, 1))))) := ⟨by decide +kernel, by decide +kernel⟩
def X9_distance (s : St) (a0 a1 a2 : Int) : Rs :=
  grd (isK s 19 a0) (bnd (X9_around s a0 (w32 (a2 - a1))) (fun r1 s2 => grd (isK s2 19 a0) (bnd (JM_min s2 r1 (w32 ((gI s2 a0 0) - r1))) (fun r3 s4 => some (r3, s4)))))
set_option maxRecDepth 100000 in
set_option maxHeartbeats 4000000 in
theorem X9_distance_s (G : Gx) (l : Launch) (s : St) (a0 a1 a2 : Int) : Snd G l mX9_distance [(2, a0), (0, a1), (0, a2)] s (X9_distance s a0 a1 a2) := by
  refine Snd.of (by decide +kernel) rfl ?_
  show V G l mX9_distance 0 [(0, (2, a0)), (1, (0, a1)), (2, (0, a2))] [] s _
  unfold X9_distance
  refine V_aload_n dec_X9_distance.1.1.1 0 rfl ?_
  refine V_iload_n dec_X9_distance.1.1.2.1 2 rfl ?_
  refine V_iload_n dec_X9_distance.1.1.2.2 1 rfl ?_
  refine V_isub dec_X9_distance.1.2.1 ?_
  refine V_callV0 (ci := 9) (a := a0) (As := [(0, (w32 (a2 - a1)))]) (st := []) rfl rfl (X9_around_s G l s a0 (w32 (a2 - a1))) cal_X9_around rfl ml_X9_73 rfl rfl dec_X9_distance.1.2.2.1 (k_tag (tag := 0) rfl fun r1 s2 => ?_)
  refine V_istore_n (lv' := [(3, (0, r1)), (0, (2, a0)), (1, (0, a1)), (2, (0, a2))]) dec_X9_distance.1.2.2.2 (by decide) rfl ?_
  refine V_iload_n dec_X9_distance.2.1.1 0 rfl ?_
  refine V_aload_n dec_X9_distance.2.1.2.1 1 rfl ?_
  refine V_getI 9 0 nf_9_0 ft_9_0 fl_X9_40 dec_X9_distance.2.1.2.2 ?_
  refine V_iload_n dec_X9_distance.2.2.1.1 0 rfl ?_
  refine V_isub dec_X9_distance.2.2.1.2 ?_
  refine V_callS0 (As := [(0, r1), (0, (w32 ((gI s2 a0 0) - r1)))]) (st := []) (host := "") rfl (JM_min_s G l s2 r1 (w32 ((gI s2 a0 0) - r1))) cal_JM_min rfl (Or.inl ml_X9_77) rfl rfl dec_X9_distance.2.2.2.1 (k_tag (tag := 0) rfl fun r3 s4 => ?_)
  exact V_iret rfl dec_X9_distance.2.2.2.2
theorem dec_X0_fewestOn : ((((((decode cX0_fewestOn 0 = .ok (.iload_n 3, 1) ∧ decode cX0_fewestOn 1 = .ok (.aload_n 0, 1)) ∧ (decode cX0_fewestOn 2 = .ok (.getfield 28, 3) ∧ decode cX0_fewestOn 5 = .ok (.if_icmp .ne 5, 3))) ∧ ((decode cX0_fewestOn 8 = .ok (.iconst 0, 1) ∧ decode cX0_fewestOn 9 = .ok (.ireturn, 1)) ∧ (decode cX0_fewestOn 10 = .ok (.ldc 65, 2) ∧ decode cX0_fewestOn 12 = .ok (.istore 5, 2)))) ∧ (((decode cX0_fewestOn 14 = .ok (.iconst 0, 1) ∧ decode cX0_fewestOn 15 = .ok (.istore 6, 2)) ∧ (decode cX0_fewestOn 17 = .ok (.iload 6, 2) ∧ decode cX0_fewestOn 19 = .ok (.aload_n 1, 1))) ∧ ((decode cX0_fewestOn 20 = .ok (.getfield 36, 3) ∧ decode cX0_fewestOn 23 = .ok (.getfield 54, 3)) ∧ (decode cX0_fewestOn 26 = .ok (.if_icmp .ge 99, 3) ∧ (decode cX0_fewestOn 29 = .ok (.iload_n 2, 1) ∧ decode cX0_fewestOn 30 = .ok (.aload_n 0, 1)))))) ∧ ((((decode cX0_fewestOn 31 = .ok (.getfield 15, 3) ∧ decode cX0_fewestOn 34 = .ok (.iload 6, 2)) ∧ (decode cX0_fewestOn 36 = .ok (.iaload, 1) ∧ decode cX0_fewestOn 37 = .ok (.ior, 1))) ∧ ((decode cX0_fewestOn 38 = .ok (.istore 7, 2) ∧ decode cX0_fewestOn 40 = .ok (.iload_n 3, 1)) ∧ (decode cX0_fewestOn 41 = .ok (.iload_n 2, 1) ∧ decode cX0_fewestOn 42 = .ok (.aload_n 0, 1)))) ∧ (((decode cX0_fewestOn 43 = .ok (.getfield 18, 3) ∧ decode cX0_fewestOn 46 = .ok (.iload 6, 2)) ∧ (decode cX0_fewestOn 48 = .ok (.iaload, 1) ∧ decode cX0_fewestOn 49 = .ok (.iand, 1))) ∧ ((decode cX0_fewestOn 50 = .ok (.ior, 1) ∧ decode cX0_fewestOn 51 = .ok (.istore 8, 2)) ∧ (decode cX0_fewestOn 53 = .ok (.iload 7, 2) ∧ (decode cX0_fewestOn 55 = .ok (.iload_n 2, 1) ∧ decode cX0_fewestOn 56 = .ok (.if_icmp .ne 9, 3))))))) ∧ (((((decode cX0_fewestOn 59 = .ok (.iload 8, 2) ∧ decode cX0_fewestOn 61 = .ok (.iload_n 3, 1)) ∧ (decode cX0_fewestOn 62 = .ok (.if_icmp .eq 57, 3) ∧ decode cX0_fewestOn 65 = .ok (.aload_n 1, 1))) ∧ ((decode cX0_fewestOn 66 = .ok (.getfield 36, 3) ∧ decode cX0_fewestOn 69 = .ok (.aload_n 1, 1)) ∧ (decode cX0_fewestOn 70 = .ok (.getfield 66, 3) ∧ decode cX0_fewestOn 73 = .ok (.getfield 70, 3)))) ∧ (((decode cX0_fewestOn 76 = .ok (.iload 4, 2) ∧ decode cX0_fewestOn 78 = .ok (.iaload, 1)) ∧ (decode cX0_fewestOn 79 = .ok (.aload_n 1, 1) ∧ decode cX0_fewestOn 80 = .ok (.getfield 66, 3))) ∧ ((decode cX0_fewestOn 83 = .ok (.getfield 70, 3) ∧ decode cX0_fewestOn 86 = .ok (.iload 6, 2)) ∧ (decode cX0_fewestOn 88 = .ok (.iaload, 1) ∧ (decode cX0_fewestOn 89 = .ok (.invokevirtual 75, 3) ∧ decode cX0_fewestOn 92 = .ok (.istore 9, 2)))))) ∧ ((((decode cX0_fewestOn 94 = .ok (.iload 5, 2) ∧ decode cX0_fewestOn 96 = .ok (.iload 9, 2)) ∧ (decode cX0_fewestOn 98 = .ok (.aload_n 0, 1) ∧ decode cX0_fewestOn 99 = .ok (.getfield 21, 3))) ∧ ((decode cX0_fewestOn 102 = .ok (.aload_n 0, 1) ∧ decode cX0_fewestOn 103 = .ok (.iload 7, 2)) ∧ (decode cX0_fewestOn 105 = .ok (.iload 8, 2) ∧ decode cX0_fewestOn 107 = .ok (.iload 6, 2)))) ∧ (((decode cX0_fewestOn 109 = .ok (.invokevirtual 57, 3) ∧ decode cX0_fewestOn 112 = .ok (.iaload, 1)) ∧ (decode cX0_fewestOn 113 = .ok (.iadd, 1) ∧ decode cX0_fewestOn 114 = .ok (.invokestatic 78, 3))) ∧ ((decode cX0_fewestOn 117 = .ok (.istore 5, 2) ∧ decode cX0_fewestOn 119 = .ok (.iinc 6 1, 3)) ∧ (decode cX0_fewestOn 122 = .ok (.goto (-105), 3) ∧ (decode cX0_fewestOn 125 = .ok (.iload 5, 2) ∧ decode cX0_fewestOn 127 = .ok (.ireturn, 1)))))))) := ⟨⟨⟨by decide +kernel, by decide +kernel⟩, ⟨by decide +kernel, by decide +kernel⟩⟩, ⟨⟨by decide +kernel, by decide +kernel⟩, ⟨by decide +kernel, by decide +kernel⟩⟩⟩
def X0_fewestOn_b119 (rk17 : St → Int → Int → Int → Int → Int → Int → Int → Rs) (s : St) (x0 x1 x2 x3 x4 x5 x6 : Int) : Rs :=
  rk17 s x0 x1 x2 x3 x4 x5 (w32 (x6 + 1))
set_option maxRecDepth 100000 in
set_option maxHeartbeats 4000000 in
theorem X0_fewestOn_b119_s (G : Gx) (l : Launch) (rk17 : St → Int → Int → Int → Int → Int → Int → Int → Rs) (hk17 : ∀ (s : St) (x0 x1 x2 x3 x4 x5 x6 : Int), V G l mX0_fewestOn 17 [(0, (2, x0)), (1, (2, x1)), (2, (0, x2)), (3, (0, x3)), (4, (0, x4)), (5, (0, x5)), (6, (0, x6))] [] s (rk17 s x0 x1 x2 x3 x4 x5 x6)) (s : St) (x0 x1 x2 x3 x4 x5 x6 : Int) : V G l mX0_fewestOn 119 [(0, (2, x0)), (1, (2, x1)), (2, (0, x2)), (3, (0, x3)), (4, (0, x4)), (5, (0, x5)), (6, (0, x6))] [] s (X0_fewestOn_b119 rk17 s x0 x1 x2 x3 x4 x5 x6) := by
  unfold X0_fewestOn_b119
  refine V_iinc (lv' := [(6, (0, (w32 (x6 + 1)))), (0, (2, x0)), (1, (2, x1)), (2, (0, x2)), (3, (0, x3)), (4, (0, x4)), (5, (0, x5))]) dec_X0_fewestOn.2.2.2.2.1.2 6 rfl (by decide) rfl ?_
  refine V_goto (tgt := 17) dec_X0_fewestOn.2.2.2.2.2.1 (by decide) ?_
  exact V_pick [1, 2, 3, 4, 5, 6, 0] rfl (hk17 s x0 x1 x2 x3 x4 x5 (w32 (x6 + 1)))
def X0_fewestOn_b65 (rk17 : St → Int → Int → Int → Int → Int → Int → Int → Rs) (s : St) (x0 x1 x2 x3 x4 x5 x6 x7 x8 : Int) : Rs :=
  grd (isK s 20 x1) (grd (isK s 20 x1) (grd (isK s 16 (gR s x1 1)) (grd (isK s 1 (gR s (gR s x1 1) 1) ∧ 0 ≤ x4 ∧ x4 < ln s (gR s (gR s x1 1) 1)) (grd (isK s 20 x1) (grd (isK s 16 (gR s x1 1)) (grd (isK s 1 (gR s (gR s x1 1) 1) ∧ 0 ≤ x6 ∧ x6 < ln s (gR s (gR s x1 1) 1)) (grd (isK s 19 (gR s x1 0)) (bnd (X9_distance s (gR s x1 0) (gI s (gR s (gR s x1 1) 1) x4.toNat) (gI s (gR s (gR s x1 1) 1) x6.toNat)) (fun r3 s4 => grd (isK s4 10 x0) (grd (isK s4 10 x0) (bnd (X0_indexOf s4 x0 x7 x8 x6) (fun r5 s6 => grd (isK s6 1 (gR s4 x0 1) ∧ 0 ≤ r5 ∧ r5 < ln s6 (gR s4 x0 1)) (bnd (JM_min s6 x5 (w32 (r3 + (gI s6 (gR s4 x0 1) r5.toNat)))) (fun r7 s8 => X0_fewestOn_b119 rk17 s8 x0 x1 x2 x3 x4 r7 x6))))))))))))))
set_option maxRecDepth 100000 in
set_option maxHeartbeats 4000000 in
theorem X0_fewestOn_b65_s (G : Gx) (l : Launch) (rk17 : St → Int → Int → Int → Int → Int → Int → Int → Rs) (hk17 : ∀ (s : St) (x0 x1 x2 x3 x4 x5 x6 : Int), V G l mX0_fewestOn 17 [(0, (2, x0)), (1, (2, x1)), (2, (0, x2)), (3, (0, x3)), (4, (0, x4)), (5, (0, x5)), (6, (0, x6))] [] s (rk17 s x0 x1 x2 x3 x4 x5 x6)) (s : St) (x0 x1 x2 x3 x4 x5 x6 x7 x8 : Int) : V G l mX0_fewestOn 65 [(0, (2, x0)), (1, (2, x1)), (2, (0, x2)), (3, (0, x3)), (4, (0, x4)), (5, (0, x5)), (6, (0, x6)), (7, (0, x7)), (8, (0, x8))] [] s (X0_fewestOn_b65 rk17 s x0 x1 x2 x3 x4 x5 x6 x7 x8) := by
  unfold X0_fewestOn_b65
  refine V_aload_n dec_X0_fewestOn.2.1.1.1.2.2 1 rfl ?_
  refine V_getR 10 0 nf_10_0 ft_10_0 fl_X0_36 dec_X0_fewestOn.2.1.1.2.1.1 ?_
  refine V_aload_n dec_X0_fewestOn.2.1.1.2.1.2 1 rfl ?_
  refine V_getR 10 1 nf_10_1 ft_10_1 fl_X0_66 dec_X0_fewestOn.2.1.1.2.2.1 ?_
  refine V_getR 6 1 nf_6_1 ft_6_1 fl_X0_70 dec_X0_fewestOn.2.1.1.2.2.2 ?_
  refine V_iload dec_X0_fewestOn.2.1.2.1.1.1 4 rfl ?_
  refine V_iald dec_X0_fewestOn.2.1.2.1.1.2 ?_
  refine V_aload_n dec_X0_fewestOn.2.1.2.1.2.1 1 rfl ?_
  refine V_getR 10 1 nf_10_1 ft_10_1 fl_X0_66 dec_X0_fewestOn.2.1.2.1.2.2 ?_
  refine V_getR 6 1 nf_6_1 ft_6_1 fl_X0_70 dec_X0_fewestOn.2.1.2.2.1.1 ?_
  refine V_iload dec_X0_fewestOn.2.1.2.2.1.2 6 rfl ?_
  refine V_iald dec_X0_fewestOn.2.1.2.2.2.1 ?_
  refine V_callV0 (ci := 9) (a := (gR s x1 0)) (As := [(0, (gI s (gR s (gR s x1 1) 1) x4.toNat)), (0, (gI s (gR s (gR s x1 1) 1) x6.toNat))]) (st := []) rfl rfl (X9_distance_s G l s (gR s x1 0) (gI s (gR s (gR s x1 1) 1) x4.toNat) (gI s (gR s (gR s x1 1) 1) x6.toNat)) cal_X9_distance rfl ml_X0_75 rfl rfl dec_X0_fewestOn.2.1.2.2.2.2.1 (k_tag (tag := 0) rfl fun r3 s4 => ?_)
  refine V_istore (lv' := [(9, (0, r3)), (0, (2, x0)), (1, (2, x1)), (2, (0, x2)), (3, (0, x3)), (4, (0, x4)), (5, (0, x5)), (6, (0, x6)), (7, (0, x7)), (8, (0, x8))]) dec_X0_fewestOn.2.1.2.2.2.2.2 (by decide) rfl ?_
  refine V_iload dec_X0_fewestOn.2.2.1.1.1.1 6 rfl ?_
  refine V_iload dec_X0_fewestOn.2.2.1.1.1.2 0 rfl ?_
  refine V_aload_n dec_X0_fewestOn.2.2.1.1.2.1 1 rfl ?_
  refine V_getR 0 1 nf_0_1 ft_0_1 fl_X0_21 dec_X0_fewestOn.2.2.1.1.2.2 ?_
  refine V_aload_n dec_X0_fewestOn.2.2.1.2.1.1 1 rfl ?_
  refine V_iload dec_X0_fewestOn.2.2.1.2.1.2 8 rfl ?_
  refine V_iload dec_X0_fewestOn.2.2.1.2.2.1 9 rfl ?_
  refine V_iload dec_X0_fewestOn.2.2.1.2.2.2 7 rfl ?_
  refine V_callV0 (ci := 0) (a := x0) (As := [(0, x7), (0, x8), (0, x6)]) (st := [(2, (gR s4 x0 1)), (0, r3), (0, x5)]) rfl rfl (X0_indexOf_s G l s4 x0 x7 x8 x6) cal_X0_indexOf rfl ml_X0_57 rfl rfl dec_X0_fewestOn.2.2.2.1.1.1 (k_tag (tag := 0) rfl fun r5 s6 => ?_)
  refine V_iald dec_X0_fewestOn.2.2.2.1.1.2 ?_
  refine V_iadd dec_X0_fewestOn.2.2.2.1.2.1 ?_
  refine V_callS0 (As := [(0, x5), (0, (w32 (r3 + (gI s6 (gR s4 x0 1) r5.toNat))))]) (st := []) (host := "") rfl (JM_min_s G l s6 x5 (w32 (r3 + (gI s6 (gR s4 x0 1) r5.toNat)))) cal_JM_min rfl (Or.inl ml_X0_78) rfl rfl dec_X0_fewestOn.2.2.2.1.2.2 (k_tag (tag := 0) rfl fun r7 s8 => ?_)
  refine V_istore (lv' := [(5, (0, r7)), (9, (0, r3)), (0, (2, x0)), (1, (2, x1)), (2, (0, x2)), (3, (0, x3)), (4, (0, x4)), (6, (0, x6)), (7, (0, x7)), (8, (0, x8))]) dec_X0_fewestOn.2.2.2.2.1.1 (by decide) rfl ?_
  exact V_pick [2, 3, 4, 5, 6, 0, 7] rfl (X0_fewestOn_b119_s G l rk17 hk17 s8 x0 x1 x2 x3 x4 r7 x6)
def X0_fewestOn_b17_body (rk17 : St → Int → Int → Int → Int → Int → Int → Int → Rs) (s : St) (x0 x1 x2 x3 x4 x5 x6 : Int) : Rs :=
  grd (isK s 20 x1) (grd (isK s 19 (gR s x1 0)) (if (gI s (gR s x1 0) 2) ≤ x6 then (some (x5, s)) else (grd (isK s 10 x0) (grd (isK s 1 (gR s x0 2) ∧ 0 ≤ x6 ∧ x6 < ln s (gR s x0 2)) (letv (or32 x2 (gI s (gR s x0 2) x6.toNat)) (fun y1 => grd (isK s 10 x0) (grd (isK s 1 (gR s x0 3) ∧ 0 ≤ x6 ∧ x6 < ln s (gR s x0 3)) (letv (or32 x3 (and32 x2 (gI s (gR s x0 3) x6.toNat))) (fun y2 => if ¬ y1 = x2 then (X0_fewestOn_b65 rk17 s x0 x1 x2 x3 x4 x5 x6 y1 y2) else (if y2 = x3 then (X0_fewestOn_b119 rk17 s x0 x1 x2 x3 x4 x5 x6) else (X0_fewestOn_b65 rk17 s x0 x1 x2 x3 x4 x5 x6 y1 y2)))))))))))
def X0_fewestOn_b17 (n : Nat) (s : St) (x0 x1 x2 x3 x4 x5 x6 : Int) : Rs := iter (fun (rec : St × Int × Int × Int × Int × Int × Int × Int → Rs) (a : St × Int × Int × Int × Int × Int × Int × Int) => X0_fewestOn_b17_body (fun (s : St) (x0 x1 x2 x3 x4 x5 x6 : Int) => rec (s, x0, x1, x2, x3, x4, x5, x6)) a.1 a.2.1 a.2.2.1 a.2.2.2.1 a.2.2.2.2.1 a.2.2.2.2.2.1 a.2.2.2.2.2.2.1 a.2.2.2.2.2.2.2) n (s, x0, x1, x2, x3, x4, x5, x6)
theorem X0_fewestOn_b17_0 (s : St) (x0 x1 x2 x3 x4 x5 x6 : Int) : X0_fewestOn_b17 0 s x0 x1 x2 x3 x4 x5 x6 = none := rfl
theorem X0_fewestOn_b17_1 (n : Nat) (s : St) (x0 x1 x2 x3 x4 x5 x6 : Int) : X0_fewestOn_b17 (n + 1) s x0 x1 x2 x3 x4 x5 x6 = X0_fewestOn_b17_body (X0_fewestOn_b17 n) s x0 x1 x2 x3 x4 x5 x6 := rfl
set_option maxRecDepth 100000 in
set_option maxHeartbeats 4000000 in
theorem X0_fewestOn_b17_body_s (G : Gx) (l : Launch) (rk17 : St → Int → Int → Int → Int → Int → Int → Int → Rs) (hk17 : ∀ (s : St) (x0 x1 x2 x3 x4 x5 x6 : Int), V G l mX0_fewestOn 17 [(0, (2, x0)), (1, (2, x1)), (2, (0, x2)), (3, (0, x3)), (4, (0, x4)), (5, (0, x5)), (6, (0, x6))] [] s (rk17 s x0 x1 x2 x3 x4 x5 x6)) (s : St) (x0 x1 x2 x3 x4 x5 x6 : Int) : V G l mX0_fewestOn 17 [(0, (2, x0)), (1, (2, x1)), (2, (0, x2)), (3, (0, x3)), (4, (0, x4)), (5, (0, x5)), (6, (0, x6))] [] s (X0_fewestOn_b17_body rk17 s x0 x1 x2 x3 x4 x5 x6) := by
  unfold X0_fewestOn_b17_body
  refine V_iload dec_X0_fewestOn.1.1.2.1.2.1 6 rfl ?_
  refine V_aload_n dec_X0_fewestOn.1.1.2.1.2.2 1 rfl ?_
  refine V_getR 10 0 nf_10_0 ft_10_0 fl_X0_36 dec_X0_fewestOn.1.1.2.2.1.1 ?_
  refine V_getI 9 2 nf_9_2 ft_9_2 fl_X0_54 dec_X0_fewestOn.1.1.2.2.1.2 ?_
  refine V_icmp_ge (tgt := 125) dec_X0_fewestOn.1.1.2.2.2.1 (by decide) ?_ ?_
  · refine V_iload dec_X0_fewestOn.2.2.2.2.2.2.1 5 rfl ?_
    exact V_iret rfl dec_X0_fewestOn.2.2.2.2.2.2.2
  · refine V_iload_n dec_X0_fewestOn.1.1.2.2.2.2.1 2 rfl ?_
    refine V_aload_n dec_X0_fewestOn.1.1.2.2.2.2.2 0 rfl ?_
    refine V_getR 0 2 nf_0_2 ft_0_2 fl_X0_15 dec_X0_fewestOn.1.2.1.1.1.1 ?_
    refine V_iload dec_X0_fewestOn.1.2.1.1.1.2 6 rfl ?_
    refine V_iald dec_X0_fewestOn.1.2.1.1.2.1 ?_
    refine V_ior dec_X0_fewestOn.1.2.1.1.2.2 ?_
    refine V_letv fun y1 => ?_
    refine V_istore (lv' := [(7, (0, y1)), (0, (2, x0)), (1, (2, x1)), (2, (0, x2)), (3, (0, x3)), (4, (0, x4)), (5, (0, x5)), (6, (0, x6))]) dec_X0_fewestOn.1.2.1.2.1.1 (by decide) rfl ?_
    refine V_iload_n dec_X0_fewestOn.1.2.1.2.1.2 4 rfl ?_
    refine V_iload_n dec_X0_fewestOn.1.2.1.2.2.1 3 rfl ?_
    refine V_aload_n dec_X0_fewestOn.1.2.1.2.2.2 1 rfl ?_
    refine V_getR 0 3 nf_0_3 ft_0_3 fl_X0_18 dec_X0_fewestOn.1.2.2.1.1.1 ?_
    refine V_iload dec_X0_fewestOn.1.2.2.1.1.2 7 rfl ?_
    refine V_iald dec_X0_fewestOn.1.2.2.1.2.1 ?_
    refine V_iand dec_X0_fewestOn.1.2.2.1.2.2 ?_
    refine V_ior dec_X0_fewestOn.1.2.2.2.1.1 ?_
    refine V_letv fun y2 => ?_
    refine V_istore (lv' := [(8, (0, y2)), (7, (0, y1)), (0, (2, x0)), (1, (2, x1)), (2, (0, x2)), (3, (0, x3)), (4, (0, x4)), (5, (0, x5)), (6, (0, x6))]) dec_X0_fewestOn.1.2.2.2.1.2 (by decide) rfl ?_
    refine V_iload dec_X0_fewestOn.1.2.2.2.2.1 1 rfl ?_
    refine V_iload_n dec_X0_fewestOn.1.2.2.2.2.2.1 4 rfl ?_
    refine V_icmp_ne (tgt := 65) dec_X0_fewestOn.1.2.2.2.2.2.2 (by decide) ?_ ?_
    · exact V_pick [2, 3, 4, 5, 6, 7, 8, 1, 0] rfl (X0_fewestOn_b65_s G l rk17 hk17 s x0 x1 x2 x3 x4 x5 x6 y1 y2)
    · refine V_iload dec_X0_fewestOn.2.1.1.1.1.1 0 rfl ?_
      refine V_iload_n dec_X0_fewestOn.2.1.1.1.1.2 5 rfl ?_
      refine V_icmp_eq (tgt := 119) dec_X0_fewestOn.2.1.1.1.2.1 (by decide) ?_ ?_
      · exact V_pick [2, 3, 4, 5, 6, 7, 8] rfl (X0_fewestOn_b119_s G l rk17 hk17 s x0 x1 x2 x3 x4 x5 x6)
      · exact V_pick [2, 3, 4, 5, 6, 7, 8, 1, 0] rfl (X0_fewestOn_b65_s G l rk17 hk17 s x0 x1 x2 x3 x4 x5 x6 y1 y2)
theorem X0_fewestOn_b17_s (G : Gx) (l : Launch) (n : Nat) (s : St) (x0 x1 x2 x3 x4 x5 x6 : Int) : V G l mX0_fewestOn 17 [(0, (2, x0)), (1, (2, x1)), (2, (0, x2)), (3, (0, x3)), (4, (0, x4)), (5, (0, x5)), (6, (0, x6))] [] s (X0_fewestOn_b17 n s x0 x1 x2 x3 x4 x5 x6) :=
  V_iter (LV := fun a : St × Int × Int × Int × Int × Int × Int × Int => [(0, (2, a.2.1)), (1, (2, a.2.2.1)), (2, (0, a.2.2.2.1)), (3, (0, a.2.2.2.2.1)), (4, (0, a.2.2.2.2.2.1)), (5, (0, a.2.2.2.2.2.2.1)), (6, (0, a.2.2.2.2.2.2.2))]) (ST := fun a : St × Int × Int × Int × Int × Int × Int × Int => []) (SS := fun a : St × Int × Int × Int × Int × Int × Int × Int => a.1) (fun rec hrec a => X0_fewestOn_b17_body_s G l (fun (s : St) (x0 x1 x2 x3 x4 x5 x6 : Int) => rec (s, x0, x1, x2, x3, x4, x5, x6)) (fun (s : St) (x0 x1 x2 x3 x4 x5 x6 : Int) => hrec (s, x0, x1, x2, x3, x4, x5, x6)) a.1 a.2.1 a.2.2.1 a.2.2.2.1 a.2.2.2.2.1 a.2.2.2.2.2.1 a.2.2.2.2.2.2.1 a.2.2.2.2.2.2.2) n (s, x0, x1, x2, x3, x4, x5, x6)
def X0_fewestOn (s : St) (a0 a1 a2 a3 a4 : Int) : Rs :=
  grd (isK s 10 a0) (if ¬ a3 = (gI s a0 4) then (X0_fewestOn_b17 FU s a0 a1 a2 a3 a4 1000000 0) else (some (0, s)))
set_option maxRecDepth 100000 in
set_option maxHeartbeats 4000000 in
theorem X0_fewestOn_s (G : Gx) (l : Launch) (s : St) (a0 a1 a2 a3 a4 : Int) : Snd G l mX0_fewestOn [(2, a0), (2, a1), (0, a2), (0, a3), (0, a4)] s (X0_fewestOn s a0 a1 a2 a3 a4) := by
  refine Snd.of (by decide +kernel) rfl ?_
  show V G l mX0_fewestOn 0 [(0, (2, a0)), (1, (2, a1)), (2, (0, a2)), (3, (0, a3)), (4, (0, a4))] [] s _
  unfold X0_fewestOn
  refine V_iload_n dec_X0_fewestOn.1.1.1.1.1.1 3 rfl ?_
  refine V_aload_n dec_X0_fewestOn.1.1.1.1.1.2 0 rfl ?_
  refine V_getI 0 4 nf_0_4 ft_0_4 fl_X0_28 dec_X0_fewestOn.1.1.1.1.2.1 ?_
  refine V_icmp_ne (tgt := 10) dec_X0_fewestOn.1.1.1.1.2.2 (by decide) ?_ ?_
  · refine V_ldc (n := 1000000) cw_X0_65 (by decide) dec_X0_fewestOn.1.1.1.2.2.1 ?_
    refine V_istore (lv' := [(5, (0, 1000000)), (0, (2, a0)), (1, (2, a1)), (2, (0, a2)), (3, (0, a3)), (4, (0, a4))]) dec_X0_fewestOn.1.1.1.2.2.2 (by decide) rfl ?_
    refine V_iconst dec_X0_fewestOn.1.1.2.1.1.1 rfl ?_
    refine V_istore (lv' := [(6, (0, 0)), (5, (0, 1000000)), (0, (2, a0)), (1, (2, a1)), (2, (0, a2)), (3, (0, a3)), (4, (0, a4))]) dec_X0_fewestOn.1.1.2.1.1.2 (by decide) rfl ?_
    exact V_pick [2, 3, 4, 5, 6, 1, 0] rfl (X0_fewestOn_b17_s G l FU s a0 a1 a2 a3 a4 1000000 0)
  · refine V_iconst dec_X0_fewestOn.1.1.1.2.1.1 rfl ?_
    exact V_iret rfl dec_X0_fewestOn.1.1.1.2.1.2
theorem dec_X0_init : (((((decode cX0_init 0 = .ok (.aload_n 0, 1) ∧ (decode cX0_init 1 = .ok (.invokespecial 3, 3) ∧ decode cX0_init 4 = .ok (.aload_n 0, 1))) ∧ ((decode cX0_init 5 = .ok (.bipush 64, 2) ∧ decode cX0_init 7 = .ok (.newarray .int, 2)) ∧ (decode cX0_init 9 = .ok (.putfield 9, 3) ∧ decode cX0_init 12 = .ok (.aload_n 0, 1)))) ∧ ((decode cX0_init 13 = .ok (.bipush 6, 2) ∧ (decode cX0_init 15 = .ok (.newarray .int, 2) ∧ decode cX0_init 17 = .ok (.putfield 15, 3))) ∧ ((decode cX0_init 20 = .ok (.aload_n 0, 1) ∧ decode cX0_init 21 = .ok (.bipush 6, 2)) ∧ (decode cX0_init 23 = .ok (.newarray .int, 2) ∧ decode cX0_init 25 = .ok (.putfield 18, 3))))) ∧ (((decode cX0_init 28 = .ok (.iconst 1, 1) ∧ (decode cX0_init 29 = .ok (.istore_n 1, 1) ∧ decode cX0_init 30 = .ok (.iconst 0, 1))) ∧ ((decode cX0_init 31 = .ok (.istore_n 2, 1) ∧ decode cX0_init 32 = .ok (.iload_n 2, 1)) ∧ (decode cX0_init 33 = .ok (.bipush 6, 2) ∧ decode cX0_init 35 = .ok (.if_icmp .ge 46, 3)))) ∧ ((decode cX0_init 38 = .ok (.iconst 0, 1) ∧ (decode cX0_init 39 = .ok (.istore_n 3, 1) ∧ decode cX0_init 40 = .ok (.iload_n 3, 1))) ∧ ((decode cX0_init 41 = .ok (.iconst 1, 1) ∧ decode cX0_init 42 = .ok (.iload_n 2, 1)) ∧ (decode cX0_init 43 = .ok (.ishl, 1) ∧ decode cX0_init 44 = .ok (.if_icmp .ge 27, 3)))))) ∧ ((((decode cX0_init 47 = .ok (.aload_n 0, 1) ∧ (decode cX0_init 48 = .ok (.getfield 9, 3) ∧ decode cX0_init 51 = .ok (.iload_n 3, 1))) ∧ ((decode cX0_init 52 = .ok (.iconst 1, 1) ∧ decode cX0_init 53 = .ok (.iload_n 2, 1)) ∧ (decode cX0_init 54 = .ok (.ishl, 1) ∧ decode cX0_init 55 = .ok (.ior, 1)))) ∧ ((decode cX0_init 56 = .ok (.aload_n 0, 1) ∧ (decode cX0_init 57 = .ok (.getfield 9, 3) ∧ decode cX0_init 60 = .ok (.iload_n 3, 1))) ∧ ((decode cX0_init 61 = .ok (.iaload, 1) ∧ decode cX0_init 62 = .ok (.iload_n 1, 1)) ∧ (decode cX0_init 63 = .ok (.iadd, 1) ∧ decode cX0_init 64 = .ok (.iastore, 1))))) ∧ (((decode cX0_init 65 = .ok (.iinc 3 1, 3) ∧ (decode cX0_init 68 = .ok (.goto (-28), 3) ∧ decode cX0_init 71 = .ok (.iload_n 1, 1))) ∧ ((decode cX0_init 72 = .ok (.iconst 3, 1) ∧ decode cX0_init 73 = .ok (.imul, 1)) ∧ (decode cX0_init 74 = .ok (.istore_n 1, 1) ∧ decode cX0_init 75 = .ok (.iinc 2 1, 3)))) ∧ (((decode cX0_init 78 = .ok (.goto (-46), 3) ∧ decode cX0_init 81 = .ok (.aload_n 0, 1)) ∧ (decode cX0_init 82 = .ok (.iload_n 1, 1) ∧ decode cX0_init 83 = .ok (.bipush 6, 2))) ∧ ((decode cX0_init 85 = .ok (.imul, 1) ∧ decode cX0_init 86 = .ok (.newarray .int, 2)) ∧ (decode cX0_init 88 = .ok (.putfield 21, 3) ∧ decode cX0_init 91 = .ok (.return_, 1))))))) := ⟨⟨⟨by decide +kernel, by decide +kernel⟩, ⟨by decide +kernel, by decide +kernel⟩⟩, ⟨⟨by decide +kernel, by decide +kernel⟩, ⟨by decide +kernel, by decide +kernel⟩⟩⟩
def X0_init_b40_body (rk32 : St → Int → Int → Int → Rs) (rk40 : St → Int → Int → Int → Int → Rs) (s : St) (x0 x1 x2 x3 : Int) : Rs :=
  if (shl32 1 x2) ≤ x3 then (rk32 s x0 (w32 (x1 * 3)) (w32 (x2 + 1))) else (grd (isK s 10 x0) (grd (isK s 10 x0) (grd (isK s 1 (gR s x0 0) ∧ 0 ≤ x3 ∧ x3 < ln s (gR s x0 0)) (grd (isK s 1 (gR s x0 0) ∧ 0 ≤ (or32 x3 (shl32 1 x2)) ∧ (or32 x3 (shl32 1 x2)) < ln s (gR s x0 0)) (lets (pI s (gR s x0 0) (or32 x3 (shl32 1 x2)).toNat (w32 ((gI s (gR s x0 0) x3.toNat) + x1))) (fun s9 => rk40 s9 x0 x1 x2 (w32 (x3 + 1))))))))
def X0_init_b40 (rk32 : St → Int → Int → Int → Rs) (n : Nat) (s : St) (x0 x1 x2 x3 : Int) : Rs := iter (fun (rec : St × Int × Int × Int × Int → Rs) (a : St × Int × Int × Int × Int) => X0_init_b40_body rk32 (fun (s : St) (x0 x1 x2 x3 : Int) => rec (s, x0, x1, x2, x3)) a.1 a.2.1 a.2.2.1 a.2.2.2.1 a.2.2.2.2) n (s, x0, x1, x2, x3)
theorem X0_init_b40_0 (rk32 : St → Int → Int → Int → Rs) (s : St) (x0 x1 x2 x3 : Int) : X0_init_b40 rk32 0 s x0 x1 x2 x3 = none := rfl
theorem X0_init_b40_1 (rk32 : St → Int → Int → Int → Rs) (n : Nat) (s : St) (x0 x1 x2 x3 : Int) : X0_init_b40 rk32 (n + 1) s x0 x1 x2 x3 = X0_init_b40_body rk32 (X0_init_b40 rk32 n) s x0 x1 x2 x3 := rfl
set_option maxRecDepth 100000 in
set_option maxHeartbeats 4000000 in
theorem X0_init_b40_body_s (G : Gx) (l : Launch) (rk32 : St → Int → Int → Int → Rs) (rk40 : St → Int → Int → Int → Int → Rs) (hk32 : ∀ (s : St) (x0 x1 x2 : Int), V G l mX0_init 32 [(0, (2, x0)), (1, (0, x1)), (2, (0, x2))] [] s (rk32 s x0 x1 x2)) (hk40 : ∀ (s : St) (x0 x1 x2 x3 : Int), V G l mX0_init 40 [(0, (2, x0)), (1, (0, x1)), (2, (0, x2)), (3, (0, x3))] [] s (rk40 s x0 x1 x2 x3)) (s : St) (x0 x1 x2 x3 : Int) : V G l mX0_init 40 [(0, (2, x0)), (1, (0, x1)), (2, (0, x2)), (3, (0, x3))] [] s (X0_init_b40_body rk32 rk40 s x0 x1 x2 x3) := by
  unfold X0_init_b40_body
  refine V_iload_n dec_X0_init.1.2.2.1.2.2 3 rfl ?_
  refine V_iconst dec_X0_init.1.2.2.2.1.1 rfl ?_
  refine V_iload_n dec_X0_init.1.2.2.2.1.2 2 rfl ?_
  refine V_ishl dec_X0_init.1.2.2.2.2.1 ?_
  refine V_icmp_ge (tgt := 71) dec_X0_init.1.2.2.2.2.2 (by decide) ?_ ?_
  · refine V_iload_n dec_X0_init.2.2.1.1.2.2 1 rfl ?_
    refine V_iconst dec_X0_init.2.2.1.2.1.1 rfl ?_
    refine V_imul dec_X0_init.2.2.1.2.1.2 ?_
    refine V_istore_n (lv' := [(1, (0, (w32 (x1 * 3)))), (0, (2, x0)), (2, (0, x2)), (3, (0, x3))]) dec_X0_init.2.2.1.2.2.1 (by decide) rfl ?_
    refine V_iinc (lv' := [(2, (0, (w32 (x2 + 1)))), (1, (0, (w32 (x1 * 3)))), (0, (2, x0)), (3, (0, x3))]) dec_X0_init.2.2.1.2.2.2 2 rfl (by decide) rfl ?_
    refine V_goto (tgt := 32) dec_X0_init.2.2.2.1.1.1 (by decide) ?_
    exact V_pick [2, 1, 0] rfl (hk32 s x0 (w32 (x1 * 3)) (w32 (x2 + 1)))
  · refine V_aload_n dec_X0_init.2.1.1.1.1 0 rfl ?_
    refine V_getR 0 0 nf_0_0 ft_0_0 fl_X0_9 dec_X0_init.2.1.1.1.2.1 ?_
    refine V_iload_n dec_X0_init.2.1.1.1.2.2 3 rfl ?_
    refine V_iconst dec_X0_init.2.1.1.2.1.1 rfl ?_
    refine V_iload_n dec_X0_init.2.1.1.2.1.2 2 rfl ?_
    refine V_ishl dec_X0_init.2.1.1.2.2.1 ?_
    refine V_ior dec_X0_init.2.1.1.2.2.2 ?_
    refine V_aload_n dec_X0_init.2.1.2.1.1 0 rfl ?_
    refine V_getR 0 0 nf_0_0 ft_0_0 fl_X0_9 dec_X0_init.2.1.2.1.2.1 ?_
    refine V_iload_n dec_X0_init.2.1.2.1.2.2 3 rfl ?_
    refine V_iald dec_X0_init.2.1.2.2.1.1 ?_
    refine V_iload_n dec_X0_init.2.1.2.2.1.2 1 rfl ?_
    refine V_iadd dec_X0_init.2.1.2.2.2.1 ?_
    refine V_iast dec_X0_init.2.1.2.2.2.2 ?_
    refine V_lets fun s9 => ?_
    refine V_iinc (lv' := [(3, (0, (w32 (x3 + 1)))), (0, (2, x0)), (1, (0, x1)), (2, (0, x2))]) dec_X0_init.2.2.1.1.1 3 rfl (by decide) rfl ?_
    refine V_goto (tgt := 40) dec_X0_init.2.2.1.1.2.1 (by decide) ?_
    exact V_pick [1, 2, 3, 0] rfl (hk40 s9 x0 x1 x2 (w32 (x3 + 1)))
theorem X0_init_b40_s (G : Gx) (l : Launch) (rk32 : St → Int → Int → Int → Rs) (hk32 : ∀ (s : St) (x0 x1 x2 : Int), V G l mX0_init 32 [(0, (2, x0)), (1, (0, x1)), (2, (0, x2))] [] s (rk32 s x0 x1 x2)) (n : Nat) (s : St) (x0 x1 x2 x3 : Int) : V G l mX0_init 40 [(0, (2, x0)), (1, (0, x1)), (2, (0, x2)), (3, (0, x3))] [] s (X0_init_b40 rk32 n s x0 x1 x2 x3) :=
  V_iter (LV := fun a : St × Int × Int × Int × Int => [(0, (2, a.2.1)), (1, (0, a.2.2.1)), (2, (0, a.2.2.2.1)), (3, (0, a.2.2.2.2))]) (ST := fun a : St × Int × Int × Int × Int => []) (SS := fun a : St × Int × Int × Int × Int => a.1) (fun rec hrec a => X0_init_b40_body_s G l rk32 (fun (s : St) (x0 x1 x2 x3 : Int) => rec (s, x0, x1, x2, x3)) hk32 (fun (s : St) (x0 x1 x2 x3 : Int) => hrec (s, x0, x1, x2, x3)) a.1 a.2.1 a.2.2.1 a.2.2.2.1 a.2.2.2.2) n (s, x0, x1, x2, x3)
def X0_init_b32_body (rk32 : St → Int → Int → Int → Rs) (s : St) (x0 x1 x2 : Int) : Rs :=
  if (6 : Int) ≤ x2 then (grd (s.1.1 < 1000000 ∧ 0 ≤ ((w32 (x1 * 6)) : Int) ∧ ((w32 (x1 * 6)) : Int) ≤ 100000) (lets (nw s 1 ((w32 (x1 * 6)) : Int).toNat) (fun s7 => grd (isK s7 10 x0) (lets (pR s7 x0 1 (s.1.1 : Int)) (fun s8 => some (0, s8)))))) else (X0_init_b40 rk32 FU s x0 x1 x2 0)
def X0_init_b32 (n : Nat) (s : St) (x0 x1 x2 : Int) : Rs := iter (fun (rec : St × Int × Int × Int → Rs) (a : St × Int × Int × Int) => X0_init_b32_body (fun (s : St) (x0 x1 x2 : Int) => rec (s, x0, x1, x2)) a.1 a.2.1 a.2.2.1 a.2.2.2) n (s, x0, x1, x2)
theorem X0_init_b32_0 (s : St) (x0 x1 x2 : Int) : X0_init_b32 0 s x0 x1 x2 = none := rfl
theorem X0_init_b32_1 (n : Nat) (s : St) (x0 x1 x2 : Int) : X0_init_b32 (n + 1) s x0 x1 x2 = X0_init_b32_body (X0_init_b32 n) s x0 x1 x2 := rfl
set_option maxRecDepth 100000 in
set_option maxHeartbeats 4000000 in
theorem X0_init_b32_body_s (G : Gx) (l : Launch) (rk32 : St → Int → Int → Int → Rs) (hk32 : ∀ (s : St) (x0 x1 x2 : Int), V G l mX0_init 32 [(0, (2, x0)), (1, (0, x1)), (2, (0, x2))] [] s (rk32 s x0 x1 x2)) (s : St) (x0 x1 x2 : Int) : V G l mX0_init 32 [(0, (2, x0)), (1, (0, x1)), (2, (0, x2))] [] s (X0_init_b32_body rk32 s x0 x1 x2) := by
  unfold X0_init_b32_body
  refine V_iload_n dec_X0_init.1.2.1.2.1.2 2 rfl ?_
  refine V_bipush dec_X0_init.1.2.1.2.2.1 rfl ?_
  refine V_icmp_ge (tgt := 81) dec_X0_init.1.2.1.2.2.2 (by decide) ?_ ?_
  · refine V_aload_n dec_X0_init.2.2.2.1.1.2 0 rfl ?_
    refine V_iload_n dec_X0_init.2.2.2.1.2.1 1 rfl ?_
    refine V_bipush dec_X0_init.2.2.2.1.2.2 rfl ?_
    refine V_imul dec_X0_init.2.2.2.2.1.1 ?_
    refine V_newarr (at0 := .int) (by decide) ac_int dec_X0_init.2.2.2.2.1.2 ?_
    refine V_lets fun s7 => ?_
    refine V_putR (host := "") 0 1 nf_0_1 ty_0_1 (Or.inl ⟨fl_X0_21, Or.inr ⟨rfl, rfl, rfl⟩⟩) dec_X0_init.2.2.2.2.2.1 ?_
    refine V_lets fun s8 => ?_
    exact V_vret rfl dec_X0_init.2.2.2.2.2.2
  · refine V_iconst dec_X0_init.1.2.2.1.1 rfl ?_
    refine V_istore_n (lv' := [(3, (0, 0)), (0, (2, x0)), (1, (0, x1)), (2, (0, x2))]) dec_X0_init.1.2.2.1.2.1 (by decide) rfl ?_
    exact V_pick [1, 2, 3, 0] rfl (X0_init_b40_s G l rk32 hk32 FU s x0 x1 x2 0)
theorem X0_init_b32_s (G : Gx) (l : Launch) (n : Nat) (s : St) (x0 x1 x2 : Int) : V G l mX0_init 32 [(0, (2, x0)), (1, (0, x1)), (2, (0, x2))] [] s (X0_init_b32 n s x0 x1 x2) :=
  V_iter (LV := fun a : St × Int × Int × Int => [(0, (2, a.2.1)), (1, (0, a.2.2.1)), (2, (0, a.2.2.2))]) (ST := fun a : St × Int × Int × Int => []) (SS := fun a : St × Int × Int × Int => a.1) (fun rec hrec a => X0_init_b32_body_s G l (fun (s : St) (x0 x1 x2 : Int) => rec (s, x0, x1, x2)) (fun (s : St) (x0 x1 x2 : Int) => hrec (s, x0, x1, x2)) a.1 a.2.1 a.2.2.1 a.2.2.2) n (s, x0, x1, x2)
def X0_init (s : St) (a0 : Int) : Rs :=
  grd (isK s 10 a0) (grd (s.1.1 < 1000000 ∧ 0 ≤ (64 : Int) ∧ (64 : Int) ≤ 100000) (lets (nw s 1 (64 : Int).toNat) (fun s1 => grd (isK s1 10 a0) (lets (pR s1 a0 0 (s.1.1 : Int)) (fun s2 => grd (s2.1.1 < 1000000 ∧ 0 ≤ (6 : Int) ∧ (6 : Int) ≤ 100000) (lets (nw s2 1 (6 : Int).toNat) (fun s3 => grd (isK s3 10 a0) (lets (pR s3 a0 2 (s2.1.1 : Int)) (fun s4 => grd (s4.1.1 < 1000000 ∧ 0 ≤ (6 : Int) ∧ (6 : Int) ≤ 100000) (lets (nw s4 1 (6 : Int).toNat) (fun s5 => grd (isK s5 10 a0) (lets (pR s5 a0 3 (s4.1.1 : Int)) (fun s6 => X0_init_b32 FU s6 a0 1 0)))))))))))))
set_option maxRecDepth 100000 in
set_option maxHeartbeats 4000000 in
theorem X0_init_s (G : Gx) (l : Launch) (s : St) (a0 : Int) : Snd G l mX0_init [(2, a0)] s (X0_init s a0) := by
  refine Snd.of (by decide +kernel) rfl ?_
  show V G l mX0_init 0 [(0, (2, a0))] [] s _
  unfold X0_init
  refine V_aload_n dec_X0_init.1.1.1.1.1 0 rfl ?_
  refine V_objInit (ci := 0) ml_X0_3 oi_inst oi_code rfl rfl dec_X0_init.1.1.1.1.2.1 ?_
  refine V_aload_n dec_X0_init.1.1.1.1.2.2 0 rfl ?_
  refine V_bipush dec_X0_init.1.1.1.2.1.1 rfl ?_
  refine V_newarr (at0 := .int) (by decide) ac_int dec_X0_init.1.1.1.2.1.2 ?_
  refine V_lets fun s1 => ?_
  refine V_putR (host := "") 0 0 nf_0_0 ty_0_0 (Or.inl ⟨fl_X0_9, Or.inr ⟨rfl, rfl, rfl⟩⟩) dec_X0_init.1.1.1.2.2.1 ?_
  refine V_lets fun s2 => ?_
  refine V_aload_n dec_X0_init.1.1.1.2.2.2 0 rfl ?_
  refine V_bipush dec_X0_init.1.1.2.1.1 rfl ?_
  refine V_newarr (at0 := .int) (by decide) ac_int dec_X0_init.1.1.2.1.2.1 ?_
  refine V_lets fun s3 => ?_
  refine V_putR (host := "") 0 2 nf_0_2 ty_0_2 (Or.inl ⟨fl_X0_15, Or.inr ⟨rfl, rfl, rfl⟩⟩) dec_X0_init.1.1.2.1.2.2 ?_
  refine V_lets fun s4 => ?_
  refine V_aload_n dec_X0_init.1.1.2.2.1.1 0 rfl ?_
  refine V_bipush dec_X0_init.1.1.2.2.1.2 rfl ?_
  refine V_newarr (at0 := .int) (by decide) ac_int dec_X0_init.1.1.2.2.2.1 ?_
  refine V_lets fun s5 => ?_
  refine V_putR (host := "") 0 3 nf_0_3 ty_0_3 (Or.inl ⟨fl_X0_18, Or.inr ⟨rfl, rfl, rfl⟩⟩) dec_X0_init.1.1.2.2.2.2 ?_
  refine V_lets fun s6 => ?_
  refine V_iconst dec_X0_init.1.2.1.1.1 rfl ?_
  refine V_istore_n (lv' := [(1, (0, 1)), (0, (2, a0))]) dec_X0_init.1.2.1.1.2.1 (by decide) rfl ?_
  refine V_iconst dec_X0_init.1.2.1.1.2.2 rfl ?_
  refine V_istore_n (lv' := [(2, (0, 0)), (1, (0, 1)), (0, (2, a0))]) dec_X0_init.1.2.1.2.1.1 (by decide) rfl ?_
  exact V_pick [2, 1, 0] rfl (X0_init_b32_s G l FU s6 a0 1 0)
theorem dec_X0_workOut : (((((decode cX0_workOut 0 = .ok (.iconst 0, 1) ∧ (decode cX0_workOut 1 = .ok (.istore 4, 2) ∧ decode cX0_workOut 3 = .ok (.iload 4, 2))) ∧ (decode cX0_workOut 5 = .ok (.aload_n 1, 1) ∧ (decode cX0_workOut 6 = .ok (.getfield 36, 3) ∧ decode cX0_workOut 9 = .ok (.getfield 54, 3)))) ∧ ((decode cX0_workOut 12 = .ok (.if_icmp .ge 73, 3) ∧ (decode cX0_workOut 15 = .ok (.aload_n 0, 1) ∧ decode cX0_workOut 16 = .ok (.getfield 15, 3))) ∧ (decode cX0_workOut 19 = .ok (.iload 4, 2) ∧ (decode cX0_workOut 21 = .ok (.iaload, 1) ∧ decode cX0_workOut 22 = .ok (.iload_n 2, 1))))) ∧ (((decode cX0_workOut 23 = .ok (.iconst (-1), 1) ∧ (decode cX0_workOut 24 = .ok (.ixor, 1) ∧ decode cX0_workOut 25 = .ok (.iand, 1))) ∧ (decode cX0_workOut 26 = .ok (.ifCond .ne 23, 3) ∧ (decode cX0_workOut 29 = .ok (.aload_n 0, 1) ∧ decode cX0_workOut 30 = .ok (.getfield 18, 3)))) ∧ ((decode cX0_workOut 33 = .ok (.iload 4, 2) ∧ (decode cX0_workOut 35 = .ok (.iaload, 1) ∧ decode cX0_workOut 36 = .ok (.iload_n 2, 1))) ∧ ((decode cX0_workOut 37 = .ok (.iand, 1) ∧ decode cX0_workOut 38 = .ok (.iload_n 3, 1)) ∧ (decode cX0_workOut 39 = .ok (.iconst (-1), 1) ∧ decode cX0_workOut 40 = .ok (.ixor, 1)))))) ∧ ((((decode cX0_workOut 41 = .ok (.iand, 1) ∧ (decode cX0_workOut 42 = .ok (.ifCond .ne 7, 3) ∧ decode cX0_workOut 45 = .ok (.iconst 1, 1))) ∧ (decode cX0_workOut 46 = .ok (.goto 4, 3) ∧ (decode cX0_workOut 49 = .ok (.iconst 0, 1) ∧ decode cX0_workOut 50 = .ok (.istore 5, 2)))) ∧ ((decode cX0_workOut 52 = .ok (.iload 5, 2) ∧ (decode cX0_workOut 54 = .ok (.ifCond .eq 25, 3) ∧ decode cX0_workOut 57 = .ok (.aload_n 0, 1))) ∧ (decode cX0_workOut 58 = .ok (.getfield 21, 3) ∧ (decode cX0_workOut 61 = .ok (.aload_n 0, 1) ∧ decode cX0_workOut 62 = .ok (.iload_n 2, 1))))) ∧ (((decode cX0_workOut 63 = .ok (.iload_n 3, 1) ∧ (decode cX0_workOut 64 = .ok (.iload 4, 2) ∧ decode cX0_workOut 66 = .ok (.invokevirtual 57, 3))) ∧ (decode cX0_workOut 69 = .ok (.aload_n 0, 1) ∧ (decode cX0_workOut 70 = .ok (.aload_n 1, 1) ∧ decode cX0_workOut 71 = .ok (.iload_n 2, 1)))) ∧ ((decode cX0_workOut 72 = .ok (.iload_n 3, 1) ∧ (decode cX0_workOut 73 = .ok (.iload 4, 2) ∧ decode cX0_workOut 75 = .ok (.invokevirtual 61, 3))) ∧ ((decode cX0_workOut 78 = .ok (.iastore, 1) ∧ decode cX0_workOut 79 = .ok (.iinc 4 1, 3)) ∧ (decode cX0_workOut 82 = .ok (.goto (-79), 3) ∧ decode cX0_workOut 85 = .ok (.return_, 1))))))) := ⟨⟨by decide +kernel, ⟨by decide +kernel, by decide +kernel⟩⟩, ⟨by decide +kernel, ⟨by decide +kernel, by decide +kernel⟩⟩⟩
def X0_workOut_b79 (rk3 : St → Int → Int → Int → Int → Int → Rs) (s : St) (x0 x1 x2 x3 x4 : Int) : Rs :=
  rk3 s x0 x1 x2 x3 (w32 (x4 + 1))
set_option maxRecDepth 100000 in
set_option maxHeartbeats 4000000 in
theorem X0_workOut_b79_s (G : Gx) (l : Launch) (rk3 : St → Int → Int → Int → Int → Int → Rs) (hk3 : ∀ (s : St) (x0 x1 x2 x3 x4 : Int), V G l mX0_workOut 3 [(0, (2, x0)), (1, (2, x1)), (2, (0, x2)), (3, (0, x3)), (4, (0, x4))] [] s (rk3 s x0 x1 x2 x3 x4)) (s : St) (x0 x1 x2 x3 x4 : Int) : V G l mX0_workOut 79 [(0, (2, x0)), (1, (2, x1)), (2, (0, x2)), (3, (0, x3)), (4, (0, x4))] [] s (X0_workOut_b79 rk3 s x0 x1 x2 x3 x4) := by
  unfold X0_workOut_b79
  refine V_iinc (lv' := [(4, (0, (w32 (x4 + 1)))), (0, (2, x0)), (1, (2, x1)), (2, (0, x2)), (3, (0, x3))]) dec_X0_workOut.2.2.2.2.1.2 4 rfl (by decide) rfl ?_
  refine V_goto (tgt := 3) dec_X0_workOut.2.2.2.2.2.1 (by decide) ?_
  exact V_pick [1, 2, 3, 4, 0] rfl (hk3 s x0 x1 x2 x3 (w32 (x4 + 1)))
def X0_workOut_b50 (rk3 : St → Int → Int → Int → Int → Int → Rs) (s : St) (x0 x1 x2 x3 x4 k0 : Int) : Rs :=
  if k0 = 0 then (X0_workOut_b79 rk3 s x0 x1 x2 x3 x4) else (grd (isK s 10 x0) (grd (isK s 10 x0) (bnd (X0_indexOf s x0 x2 x3 x4) (fun r1 s2 => grd (isK s2 10 x0) (bnd (X0_fewestOn s2 x0 x1 x2 x3 x4) (fun r3 s4 => grd (isK s4 1 (gR s x0 1) ∧ 0 ≤ r1 ∧ r1 < ln s4 (gR s x0 1)) (lets (pI s4 (gR s x0 1) r1.toNat r3) (fun s5 => X0_workOut_b79 rk3 s5 x0 x1 x2 x3 x4))))))))
set_option maxRecDepth 100000 in
set_option maxHeartbeats 4000000 in
theorem X0_workOut_b50_s (G : Gx) (l : Launch) (rk3 : St → Int → Int → Int → Int → Int → Rs) (hk3 : ∀ (s : St) (x0 x1 x2 x3 x4 : Int), V G l mX0_workOut 3 [(0, (2, x0)), (1, (2, x1)), (2, (0, x2)), (3, (0, x3)), (4, (0, x4))] [] s (rk3 s x0 x1 x2 x3 x4)) (s : St) (x0 x1 x2 x3 x4 k0 : Int) : V G l mX0_workOut 50 [(0, (2, x0)), (1, (2, x1)), (2, (0, x2)), (3, (0, x3)), (4, (0, x4))] [(0, k0)] s (X0_workOut_b50 rk3 s x0 x1 x2 x3 x4 k0) := by
  unfold X0_workOut_b50
  refine V_istore (lv' := [(5, (0, k0)), (0, (2, x0)), (1, (2, x1)), (2, (0, x2)), (3, (0, x3)), (4, (0, x4))]) dec_X0_workOut.2.1.1.2.2.2 (by decide) rfl ?_
  refine V_iload dec_X0_workOut.2.1.2.1.1 0 rfl ?_
  refine V_if_eq (tgt := 79) dec_X0_workOut.2.1.2.1.2.1 (by decide) ?_ ?_
  · exact V_pick [1, 2, 3, 4, 5] rfl (X0_workOut_b79_s G l rk3 hk3 s x0 x1 x2 x3 x4)
  · refine V_aload_n dec_X0_workOut.2.1.2.1.2.2 1 rfl ?_
    refine V_getR 0 1 nf_0_1 ft_0_1 fl_X0_21 dec_X0_workOut.2.1.2.2.1 ?_
    refine V_aload_n dec_X0_workOut.2.1.2.2.2.1 1 rfl ?_
    refine V_iload_n dec_X0_workOut.2.1.2.2.2.2 3 rfl ?_
    refine V_iload_n dec_X0_workOut.2.2.1.1.1 4 rfl ?_
    refine V_iload dec_X0_workOut.2.2.1.1.2.1 5 rfl ?_
    refine V_callV0 (ci := 0) (a := x0) (As := [(0, x2), (0, x3), (0, x4)]) (st := [(2, (gR s x0 1))]) rfl rfl (X0_indexOf_s G l s x0 x2 x3 x4) cal_X0_indexOf rfl ml_X0_57 rfl rfl dec_X0_workOut.2.2.1.1.2.2 (k_tag (tag := 0) rfl fun r1 s2 => ?_)
    refine V_aload_n dec_X0_workOut.2.2.1.2.1 1 rfl ?_
    refine V_aload_n dec_X0_workOut.2.2.1.2.2.1 2 rfl ?_
    refine V_iload_n dec_X0_workOut.2.2.1.2.2.2 3 rfl ?_
    refine V_iload_n dec_X0_workOut.2.2.2.1.1 4 rfl ?_
    refine V_iload dec_X0_workOut.2.2.2.1.2.1 5 rfl ?_
    refine V_callV0 (ci := 0) (a := x0) (As := [(2, x1), (0, x2), (0, x3), (0, x4)]) (st := [(0, r1), (2, (gR s x0 1))]) rfl rfl (X0_fewestOn_s G l s2 x0 x1 x2 x3 x4) cal_X0_fewestOn rfl ml_X0_61 rfl rfl dec_X0_workOut.2.2.2.1.2.2 (k_tag (tag := 0) rfl fun r3 s4 => ?_)
    refine V_iast dec_X0_workOut.2.2.2.2.1.1 ?_
    refine V_lets fun s5 => ?_
    exact V_pick [1, 2, 3, 4, 5] rfl (X0_workOut_b79_s G l rk3 hk3 s5 x0 x1 x2 x3 x4)
def X0_workOut_b49 (rk3 : St → Int → Int → Int → Int → Int → Rs) (s : St) (x0 x1 x2 x3 x4 : Int) : Rs :=
  X0_workOut_b50 rk3 s x0 x1 x2 x3 x4 0
set_option maxRecDepth 100000 in
set_option maxHeartbeats 4000000 in
theorem X0_workOut_b49_s (G : Gx) (l : Launch) (rk3 : St → Int → Int → Int → Int → Int → Rs) (hk3 : ∀ (s : St) (x0 x1 x2 x3 x4 : Int), V G l mX0_workOut 3 [(0, (2, x0)), (1, (2, x1)), (2, (0, x2)), (3, (0, x3)), (4, (0, x4))] [] s (rk3 s x0 x1 x2 x3 x4)) (s : St) (x0 x1 x2 x3 x4 : Int) : V G l mX0_workOut 49 [(0, (2, x0)), (1, (2, x1)), (2, (0, x2)), (3, (0, x3)), (4, (0, x4))] [] s (X0_workOut_b49 rk3 s x0 x1 x2 x3 x4) := by
  unfold X0_workOut_b49
  refine V_iconst dec_X0_workOut.2.1.1.2.2.1 rfl ?_
  exact V_pick [0, 1, 2, 3, 4] rfl (X0_workOut_b50_s G l rk3 hk3 s x0 x1 x2 x3 x4 0)
def X0_workOut_b3_body (rk3 : St → Int → Int → Int → Int → Int → Rs) (s : St) (x0 x1 x2 x3 x4 : Int) : Rs :=
  grd (isK s 20 x1) (grd (isK s 19 (gR s x1 0)) (if (gI s (gR s x1 0) 2) ≤ x4 then (some (0, s)) else (grd (isK s 10 x0) (grd (isK s 1 (gR s x0 2) ∧ 0 ≤ x4 ∧ x4 < ln s (gR s x0 2)) (if ¬ (and32 (gI s (gR s x0 2) x4.toNat) (xor32 x2 (-1))) = 0 then (X0_workOut_b49 rk3 s x0 x1 x2 x3 x4) else (grd (isK s 10 x0) (grd (isK s 1 (gR s x0 3) ∧ 0 ≤ x4 ∧ x4 < ln s (gR s x0 3)) (if ¬ (and32 (and32 (gI s (gR s x0 3) x4.toNat) x2) (xor32 x3 (-1))) = 0 then (X0_workOut_b49 rk3 s x0 x1 x2 x3 x4) else (X0_workOut_b50 rk3 s x0 x1 x2 x3 x4 1)))))))))
def X0_workOut_b3 (n : Nat) (s : St) (x0 x1 x2 x3 x4 : Int) : Rs := iter (fun (rec : St × Int × Int × Int × Int × Int → Rs) (a : St × Int × Int × Int × Int × Int) => X0_workOut_b3_body (fun (s : St) (x0 x1 x2 x3 x4 : Int) => rec (s, x0, x1, x2, x3, x4)) a.1 a.2.1 a.2.2.1 a.2.2.2.1 a.2.2.2.2.1 a.2.2.2.2.2) n (s, x0, x1, x2, x3, x4)
theorem X0_workOut_b3_0 (s : St) (x0 x1 x2 x3 x4 : Int) : X0_workOut_b3 0 s x0 x1 x2 x3 x4 = none := rfl
theorem X0_workOut_b3_1 (n : Nat) (s : St) (x0 x1 x2 x3 x4 : Int) : X0_workOut_b3 (n + 1) s x0 x1 x2 x3 x4 = X0_workOut_b3_body (X0_workOut_b3 n) s x0 x1 x2 x3 x4 := rfl
set_option maxRecDepth 100000 in
set_option maxHeartbeats 4000000 in
theorem X0_workOut_b3_body_s (G : Gx) (l : Launch) (rk3 : St → Int → Int → Int → Int → Int → Rs) (hk3 : ∀ (s : St) (x0 x1 x2 x3 x4 : Int), V G l mX0_workOut 3 [(0, (2, x0)), (1, (2, x1)), (2, (0, x2)), (3, (0, x3)), (4, (0, x4))] [] s (rk3 s x0 x1 x2 x3 x4)) (s : St) (x0 x1 x2 x3 x4 : Int) : V G l mX0_workOut 3 [(0, (2, x0)), (1, (2, x1)), (2, (0, x2)), (3, (0, x3)), (4, (0, x4))] [] s (X0_workOut_b3_body rk3 s x0 x1 x2 x3 x4) := by
  unfold X0_workOut_b3_body
  refine V_iload dec_X0_workOut.1.1.1.1.2.2 4 rfl ?_
  refine V_aload_n dec_X0_workOut.1.1.1.2.1 1 rfl ?_
  refine V_getR 10 0 nf_10_0 ft_10_0 fl_X0_36 dec_X0_workOut.1.1.1.2.2.1 ?_
  refine V_getI 9 2 nf_9_2 ft_9_2 fl_X0_54 dec_X0_workOut.1.1.1.2.2.2 ?_
  refine V_icmp_ge (tgt := 85) dec_X0_workOut.1.1.2.1.1 (by decide) ?_ ?_
  · exact V_vret rfl dec_X0_workOut.2.2.2.2.2.2
  · refine V_aload_n dec_X0_workOut.1.1.2.1.2.1 0 rfl ?_
    refine V_getR 0 2 nf_0_2 ft_0_2 fl_X0_15 dec_X0_workOut.1.1.2.1.2.2 ?_
    refine V_iload dec_X0_workOut.1.1.2.2.1 4 rfl ?_
    refine V_iald dec_X0_workOut.1.1.2.2.2.1 ?_
    refine V_iload_n dec_X0_workOut.1.1.2.2.2.2 2 rfl ?_
    refine V_iconst dec_X0_workOut.1.2.1.1.1 rfl ?_
    refine V_ixor dec_X0_workOut.1.2.1.1.2.1 ?_
    refine V_iand dec_X0_workOut.1.2.1.1.2.2 ?_
    refine V_if_ne (tgt := 49) dec_X0_workOut.1.2.1.2.1 (by decide) ?_ ?_
    · exact V_pick [0, 1, 2, 3, 4] rfl (X0_workOut_b49_s G l rk3 hk3 s x0 x1 x2 x3 x4)
    · refine V_aload_n dec_X0_workOut.1.2.1.2.2.1 0 rfl ?_
      refine V_getR 0 3 nf_0_3 ft_0_3 fl_X0_18 dec_X0_workOut.1.2.1.2.2.2 ?_
      refine V_iload dec_X0_workOut.1.2.2.1.1 4 rfl ?_
      refine V_iald dec_X0_workOut.1.2.2.1.2.1 ?_
      refine V_iload_n dec_X0_workOut.1.2.2.1.2.2 2 rfl ?_
      refine V_iand dec_X0_workOut.1.2.2.2.1.1 ?_
      refine V_iload_n dec_X0_workOut.1.2.2.2.1.2 3 rfl ?_
      refine V_iconst dec_X0_workOut.1.2.2.2.2.1 rfl ?_
      refine V_ixor dec_X0_workOut.1.2.2.2.2.2 ?_
      refine V_iand dec_X0_workOut.2.1.1.1.1 ?_
      refine V_if_ne (tgt := 49) dec_X0_workOut.2.1.1.1.2.1 (by decide) ?_ ?_
      · exact V_pick [0, 1, 2, 3, 4] rfl (X0_workOut_b49_s G l rk3 hk3 s x0 x1 x2 x3 x4)
      · refine V_iconst dec_X0_workOut.2.1.1.1.2.2 rfl ?_
        refine V_goto (tgt := 50) dec_X0_workOut.2.1.1.2.1 (by decide) ?_
        exact V_pick [0, 1, 2, 3, 4] rfl (X0_workOut_b50_s G l rk3 hk3 s x0 x1 x2 x3 x4 1)
theorem X0_workOut_b3_s (G : Gx) (l : Launch) (n : Nat) (s : St) (x0 x1 x2 x3 x4 : Int) : V G l mX0_workOut 3 [(0, (2, x0)), (1, (2, x1)), (2, (0, x2)), (3, (0, x3)), (4, (0, x4))] [] s (X0_workOut_b3 n s x0 x1 x2 x3 x4) :=
  V_iter (LV := fun a : St × Int × Int × Int × Int × Int => [(0, (2, a.2.1)), (1, (2, a.2.2.1)), (2, (0, a.2.2.2.1)), (3, (0, a.2.2.2.2.1)), (4, (0, a.2.2.2.2.2))]) (ST := fun a : St × Int × Int × Int × Int × Int => []) (SS := fun a : St × Int × Int × Int × Int × Int => a.1) (fun rec hrec a => X0_workOut_b3_body_s G l (fun (s : St) (x0 x1 x2 x3 x4 : Int) => rec (s, x0, x1, x2, x3, x4)) (fun (s : St) (x0 x1 x2 x3 x4 : Int) => hrec (s, x0, x1, x2, x3, x4)) a.1 a.2.1 a.2.2.1 a.2.2.2.1 a.2.2.2.2.1 a.2.2.2.2.2) n (s, x0, x1, x2, x3, x4)
def X0_workOut (s : St) (a0 a1 a2 a3 : Int) : Rs :=
  X0_workOut_b3 FU s a0 a1 a2 a3 0
set_option maxRecDepth 100000 in
set_option maxHeartbeats 4000000 in
theorem X0_workOut_s (G : Gx) (l : Launch) (s : St) (a0 a1 a2 a3 : Int) : Snd G l mX0_workOut [(2, a0), (2, a1), (0, a2), (0, a3)] s (X0_workOut s a0 a1 a2 a3) := by
  refine Snd.of (by decide +kernel) rfl ?_
  show V G l mX0_workOut 0 [(0, (2, a0)), (1, (2, a1)), (2, (0, a2)), (3, (0, a3))] [] s _
  unfold X0_workOut
  refine V_iconst dec_X0_workOut.1.1.1.1.1 rfl ?_
  refine V_istore (lv' := [(4, (0, 0)), (0, (2, a0)), (1, (2, a1)), (2, (0, a2)), (3, (0, a3))]) dec_X0_workOut.1.1.1.1.2.1 (by decide) rfl ?_
  exact V_pick [1, 2, 3, 4, 0] rfl (X0_workOut_b3_s G l FU s a0 a1 a2 a3 0)
theorem dec_X0_plan : (((((decode cX0_plan 0 = .ok (.aload_n 0, 1) ∧ decode cX0_plan 1 = .ok (.aload_n 1, 1)) ∧ (decode cX0_plan 2 = .ok (.iload_n 2, 1) ∧ decode cX0_plan 3 = .ok (.invokevirtual 24, 3))) ∧ ((decode cX0_plan 6 = .ok (.aload_n 0, 1) ∧ decode cX0_plan 7 = .ok (.getfield 28, 3)) ∧ (decode cX0_plan 10 = .ok (.istore_n 3, 1) ∧ (decode cX0_plan 11 = .ok (.iload_n 3, 1) ∧ decode cX0_plan 12 = .ok (.ifCond .lt 51, 3))))) ∧ (((decode cX0_plan 15 = .ok (.iload_n 3, 1) ∧ decode cX0_plan 16 = .ok (.aload_n 0, 1)) ∧ (decode cX0_plan 17 = .ok (.getfield 28, 3) ∧ decode cX0_plan 20 = .ok (.iconst (-1), 1))) ∧ ((decode cX0_plan 21 = .ok (.ixor, 1) ∧ decode cX0_plan 22 = .ok (.iand, 1)) ∧ (decode cX0_plan 23 = .ok (.ifCond .ne 34, 3) ∧ (decode cX0_plan 26 = .ok (.iload_n 3, 1) ∧ decode cX0_plan 27 = .ok (.istore 4, 2)))))) ∧ ((((decode cX0_plan 29 = .ok (.iload 4, 2) ∧ decode cX0_plan 31 = .ok (.ifCond .lt 26, 3)) ∧ (decode cX0_plan 34 = .ok (.iload 4, 2) ∧ decode cX0_plan 36 = .ok (.iload_n 3, 1))) ∧ ((decode cX0_plan 37 = .ok (.iconst (-1), 1) ∧ decode cX0_plan 38 = .ok (.ixor, 1)) ∧ (decode cX0_plan 39 = .ok (.iand, 1) ∧ (decode cX0_plan 40 = .ok (.ifCond .ne 11, 3) ∧ decode cX0_plan 43 = .ok (.aload_n 0, 1))))) ∧ (((decode cX0_plan 44 = .ok (.aload_n 1, 1) ∧ decode cX0_plan 45 = .ok (.iload_n 3, 1)) ∧ (decode cX0_plan 46 = .ok (.iload 4, 2) ∧ decode cX0_plan 48 = .ok (.invokevirtual 32, 3))) ∧ ((decode cX0_plan 51 = .ok (.iinc 4 (-1), 3) ∧ decode cX0_plan 54 = .ok (.goto (-25), 3)) ∧ (decode cX0_plan 57 = .ok (.iinc 3 (-1), 3) ∧ (decode cX0_plan 60 = .ok (.goto (-49), 3) ∧ decode cX0_plan 63 = .ok (.return_, 1))))))) := ⟨⟨by decide +kernel, by decide +kernel⟩, ⟨by decide +kernel, by decide +kernel⟩⟩
def X0_plan_b57 (rk11 : St → Int → Int → Int → Rs) (s : St) (x0 x1 x3 : Int) : Rs :=
  rk11 s x0 x1 (w32 (x3 + (-1)))
set_option maxRecDepth 100000 in
set_option maxHeartbeats 4000000 in
theorem X0_plan_b57_s (G : Gx) (l : Launch) (rk11 : St → Int → Int → Int → Rs) (hk11 : ∀ (s : St) (x0 x1 x3 : Int), V G l mX0_plan 11 [(0, (2, x0)), (1, (2, x1)), (3, (0, x3))] [] s (rk11 s x0 x1 x3)) (s : St) (x0 x1 x3 : Int) : V G l mX0_plan 57 [(0, (2, x0)), (1, (2, x1)), (3, (0, x3))] [] s (X0_plan_b57 rk11 s x0 x1 x3) := by
  unfold X0_plan_b57
  refine V_iinc (lv' := [(3, (0, (w32 (x3 + (-1))))), (0, (2, x0)), (1, (2, x1))]) dec_X0_plan.2.2.2.2.1 2 rfl (by decide) rfl ?_
  refine V_goto (tgt := 11) dec_X0_plan.2.2.2.2.2.1 (by decide) ?_
  exact V_pick [1, 2, 0] rfl (hk11 s x0 x1 (w32 (x3 + (-1))))
def X0_plan_b51 (rk11 : St → Int → Int → Int → Rs) (rk29 : St → Int → Int → Int → Int → Rs) (s : St) (x0 x1 x3 x4 : Int) : Rs :=
  rk29 s x0 x1 x3 (w32 (x4 + (-1)))
set_option maxRecDepth 100000 in
set_option maxHeartbeats 4000000 in
theorem X0_plan_b51_s (G : Gx) (l : Launch) (rk11 : St → Int → Int → Int → Rs) (rk29 : St → Int → Int → Int → Int → Rs) (hk11 : ∀ (s : St) (x0 x1 x3 : Int), V G l mX0_plan 11 [(0, (2, x0)), (1, (2, x1)), (3, (0, x3))] [] s (rk11 s x0 x1 x3)) (hk29 : ∀ (s : St) (x0 x1 x3 x4 : Int), V G l mX0_plan 29 [(0, (2, x0)), (1, (2, x1)), (3, (0, x3)), (4, (0, x4))] [] s (rk29 s x0 x1 x3 x4)) (s : St) (x0 x1 x3 x4 : Int) : V G l mX0_plan 51 [(0, (2, x0)), (1, (2, x1)), (3, (0, x3)), (4, (0, x4))] [] s (X0_plan_b51 rk11 rk29 s x0 x1 x3 x4) := by
  unfold X0_plan_b51
  refine V_iinc (lv' := [(4, (0, (w32 (x4 + (-1))))), (0, (2, x0)), (1, (2, x1)), (3, (0, x3))]) dec_X0_plan.2.2.2.1.1 3 rfl (by decide) rfl ?_
  refine V_goto (tgt := 29) dec_X0_plan.2.2.2.1.2 (by decide) ?_
  exact V_pick [1, 2, 3, 0] rfl (hk29 s x0 x1 x3 (w32 (x4 + (-1))))
def X0_plan_b29_body (rk11 : St → Int → Int → Int → Rs) (rk29 : St → Int → Int → Int → Int → Rs) (s : St) (x0 x1 x3 x4 : Int) : Rs :=
  if x4 < 0 then (X0_plan_b57 rk11 s x0 x1 x3) else (if ¬ (and32 x4 (xor32 x3 (-1))) = 0 then (X0_plan_b51 rk11 rk29 s x0 x1 x3 x4) else (grd (isK s 10 x0) (bnd (X0_workOut s x0 x1 x3 x4) (fun r3 s4 => X0_plan_b51 rk11 rk29 s4 x0 x1 x3 x4))))
def X0_plan_b29 (rk11 : St → Int → Int → Int → Rs) (n : Nat) (s : St) (x0 x1 x3 x4 : Int) : Rs := iter (fun (rec : St × Int × Int × Int × Int → Rs) (a : St × Int × Int × Int × Int) => X0_plan_b29_body rk11 (fun (s : St) (x0 x1 x3 x4 : Int) => rec (s, x0, x1, x3, x4)) a.1 a.2.1 a.2.2.1 a.2.2.2.1 a.2.2.2.2) n (s, x0, x1, x3, x4)
theorem X0_plan_b29_0 (rk11 : St → Int → Int → Int → Rs) (s : St) (x0 x1 x3 x4 : Int) : X0_plan_b29 rk11 0 s x0 x1 x3 x4 = none := rfl
theorem X0_plan_b29_1 (rk11 : St → Int → Int → Int → Rs) (n : Nat) (s : St) (x0 x1 x3 x4 : Int) : X0_plan_b29 rk11 (n + 1) s x0 x1 x3 x4 = X0_plan_b29_body rk11 (X0_plan_b29 rk11 n) s x0 x1 x3 x4 := rfl
set_option maxRecDepth 100000 in
set_option maxHeartbeats 4000000 in
theorem X0_plan_b29_body_s (G : Gx) (l : Launch) (rk11 : St → Int → Int → Int → Rs) (rk29 : St → Int → Int → Int → Int → Rs) (hk11 : ∀ (s : St) (x0 x1 x3 : Int), V G l mX0_plan 11 [(0, (2, x0)), (1, (2, x1)), (3, (0, x3))] [] s (rk11 s x0 x1 x3)) (hk29 : ∀ (s : St) (x0 x1 x3 x4 : Int), V G l mX0_plan 29 [(0, (2, x0)), (1, (2, x1)), (3, (0, x3)), (4, (0, x4))] [] s (rk29 s x0 x1 x3 x4)) (s : St) (x0 x1 x3 x4 : Int) : V G l mX0_plan 29 [(0, (2, x0)), (1, (2, x1)), (3, (0, x3)), (4, (0, x4))] [] s (X0_plan_b29_body rk11 rk29 s x0 x1 x3 x4) := by
  unfold X0_plan_b29_body
  refine V_iload dec_X0_plan.2.1.1.1.1 3 rfl ?_
  refine V_if_lt (tgt := 57) dec_X0_plan.2.1.1.1.2 (by decide) ?_ ?_
  · exact V_pick [0, 1, 2] rfl (X0_plan_b57_s G l rk11 hk11 s x0 x1 x3)
  · refine V_iload dec_X0_plan.2.1.1.2.1 3 rfl ?_
    refine V_iload_n dec_X0_plan.2.1.1.2.2 2 rfl ?_
    refine V_iconst dec_X0_plan.2.1.2.1.1 rfl ?_
    refine V_ixor dec_X0_plan.2.1.2.1.2 ?_
    refine V_iand dec_X0_plan.2.1.2.2.1 ?_
    refine V_if_ne (tgt := 51) dec_X0_plan.2.1.2.2.2.1 (by decide) ?_ ?_
    · exact V_pick [0, 1, 2, 3] rfl (X0_plan_b51_s G l rk11 rk29 hk11 hk29 s x0 x1 x3 x4)
    · refine V_aload_n dec_X0_plan.2.1.2.2.2.2 0 rfl ?_
      refine V_aload_n dec_X0_plan.2.2.1.1.1 1 rfl ?_
      refine V_iload_n dec_X0_plan.2.2.1.1.2 2 rfl ?_
      refine V_iload dec_X0_plan.2.2.1.2.1 3 rfl ?_
      refine V_callV0 (ci := 0) (a := x0) (As := [(2, x1), (0, x3), (0, x4)]) (st := []) rfl rfl (X0_workOut_s G l s x0 x1 x3 x4) cal_X0_workOut rfl ml_X0_32 rfl rfl dec_X0_plan.2.2.1.2.2 (k_void rfl fun r3 s4 => ?_)
      exact V_pick [0, 1, 2, 3] rfl (X0_plan_b51_s G l rk11 rk29 hk11 hk29 s4 x0 x1 x3 x4)
theorem X0_plan_b29_s (G : Gx) (l : Launch) (rk11 : St → Int → Int → Int → Rs) (hk11 : ∀ (s : St) (x0 x1 x3 : Int), V G l mX0_plan 11 [(0, (2, x0)), (1, (2, x1)), (3, (0, x3))] [] s (rk11 s x0 x1 x3)) (n : Nat) (s : St) (x0 x1 x3 x4 : Int) : V G l mX0_plan 29 [(0, (2, x0)), (1, (2, x1)), (3, (0, x3)), (4, (0, x4))] [] s (X0_plan_b29 rk11 n s x0 x1 x3 x4) :=
  V_iter (LV := fun a : St × Int × Int × Int × Int => [(0, (2, a.2.1)), (1, (2, a.2.2.1)), (3, (0, a.2.2.2.1)), (4, (0, a.2.2.2.2))]) (ST := fun a : St × Int × Int × Int × Int => []) (SS := fun a : St × Int × Int × Int × Int => a.1) (fun rec hrec a => X0_plan_b29_body_s G l rk11 (fun (s : St) (x0 x1 x3 x4 : Int) => rec (s, x0, x1, x3, x4)) hk11 (fun (s : St) (x0 x1 x3 x4 : Int) => hrec (s, x0, x1, x3, x4)) a.1 a.2.1 a.2.2.1 a.2.2.2.1 a.2.2.2.2) n (s, x0, x1, x3, x4)
def X0_plan_b11_body (rk11 : St → Int → Int → Int → Rs) (s : St) (x0 x1 x3 : Int) : Rs :=
  if x3 < 0 then (some (0, s)) else (grd (isK s 10 x0) (if ¬ (and32 x3 (xor32 (gI s x0 4) (-1))) = 0 then (X0_plan_b57 rk11 s x0 x1 x3) else (X0_plan_b29 rk11 FU s x0 x1 x3 x3)))
def X0_plan_b11 (n : Nat) (s : St) (x0 x1 x3 : Int) : Rs := iter (fun (rec : St × Int × Int × Int → Rs) (a : St × Int × Int × Int) => X0_plan_b11_body (fun (s : St) (x0 x1 x3 : Int) => rec (s, x0, x1, x3)) a.1 a.2.1 a.2.2.1 a.2.2.2) n (s, x0, x1, x3)
theorem X0_plan_b11_0 (s : St) (x0 x1 x3 : Int) : X0_plan_b11 0 s x0 x1 x3 = none := rfl
theorem X0_plan_b11_1 (n : Nat) (s : St) (x0 x1 x3 : Int) : X0_plan_b11 (n + 1) s x0 x1 x3 = X0_plan_b11_body (X0_plan_b11 n) s x0 x1 x3 := rfl
set_option maxRecDepth 100000 in
set_option maxHeartbeats 4000000 in
theorem X0_plan_b11_body_s (G : Gx) (l : Launch) (rk11 : St → Int → Int → Int → Rs) (hk11 : ∀ (s : St) (x0 x1 x3 : Int), V G l mX0_plan 11 [(0, (2, x0)), (1, (2, x1)), (3, (0, x3))] [] s (rk11 s x0 x1 x3)) (s : St) (x0 x1 x3 : Int) : V G l mX0_plan 11 [(0, (2, x0)), (1, (2, x1)), (3, (0, x3))] [] s (X0_plan_b11_body rk11 s x0 x1 x3) := by
  unfold X0_plan_b11_body
  refine V_iload_n dec_X0_plan.1.1.2.2.2.1 2 rfl ?_
  refine V_if_lt (tgt := 63) dec_X0_plan.1.1.2.2.2.2 (by decide) ?_ ?_
  · exact V_vret rfl dec_X0_plan.2.2.2.2.2.2
  · refine V_iload_n dec_X0_plan.1.2.1.1.1 2 rfl ?_
    refine V_aload_n dec_X0_plan.1.2.1.1.2 0 rfl ?_
    refine V_getI 0 4 nf_0_4 ft_0_4 fl_X0_28 dec_X0_plan.1.2.1.2.1 ?_
    refine V_iconst dec_X0_plan.1.2.1.2.2 rfl ?_
    refine V_ixor dec_X0_plan.1.2.2.1.1 ?_
    refine V_iand dec_X0_plan.1.2.2.1.2 ?_
    refine V_if_ne (tgt := 57) dec_X0_plan.1.2.2.2.1 (by decide) ?_ ?_
    · exact V_pick [0, 1, 2] rfl (X0_plan_b57_s G l rk11 hk11 s x0 x1 x3)
    · refine V_iload_n dec_X0_plan.1.2.2.2.2.1 2 rfl ?_
      refine V_istore (lv' := [(4, (0, x3)), (0, (2, x0)), (1, (2, x1)), (3, (0, x3))]) dec_X0_plan.1.2.2.2.2.2 (by decide) rfl ?_
      exact V_pick [1, 2, 3, 0] rfl (X0_plan_b29_s G l rk11 hk11 FU s x0 x1 x3 x3)
theorem X0_plan_b11_s (G : Gx) (l : Launch) (n : Nat) (s : St) (x0 x1 x3 : Int) : V G l mX0_plan 11 [(0, (2, x0)), (1, (2, x1)), (3, (0, x3))] [] s (X0_plan_b11 n s x0 x1 x3) :=
  V_iter (LV := fun a : St × Int × Int × Int => [(0, (2, a.2.1)), (1, (2, a.2.2.1)), (3, (0, a.2.2.2))]) (ST := fun a : St × Int × Int × Int => []) (SS := fun a : St × Int × Int × Int => a.1) (fun rec hrec a => X0_plan_b11_body_s G l (fun (s : St) (x0 x1 x3 : Int) => rec (s, x0, x1, x3)) (fun (s : St) (x0 x1 x3 : Int) => hrec (s, x0, x1, x3)) a.1 a.2.1 a.2.2.1 a.2.2.2) n (s, x0, x1, x3)
def X0_plan (s : St) (a0 a1 a2 : Int) : Rs :=
  grd (isK s 10 a0) (bnd (X0_collect s a0 a1 a2) (fun r1 s2 => grd (isK s2 10 a0) (X0_plan_b11 FU s2 a0 a1 (gI s2 a0 4))))
set_option maxRecDepth 100000 in
set_option maxHeartbeats 4000000 in
theorem X0_plan_s (G : Gx) (l : Launch) (s : St) (a0 a1 a2 : Int) : Snd G l mX0_plan [(2, a0), (2, a1), (0, a2)] s (X0_plan s a0 a1 a2) := by
  refine Snd.of (by decide +kernel) rfl ?_
  show V G l mX0_plan 0 [(0, (2, a0)), (1, (2, a1)), (2, (0, a2))] [] s _
  unfold X0_plan
  refine V_aload_n dec_X0_plan.1.1.1.1.1 0 rfl ?_
  refine V_aload_n dec_X0_plan.1.1.1.1.2 1 rfl ?_
  refine V_iload_n dec_X0_plan.1.1.1.2.1 2 rfl ?_
  refine V_callV0 (ci := 0) (a := a0) (As := [(2, a1), (0, a2)]) (st := []) rfl rfl (X0_collect_s G l s a0 a1 a2) cal_X0_collect rfl ml_X0_24 rfl rfl dec_X0_plan.1.1.1.2.2 (k_void rfl fun r1 s2 => ?_)
  refine V_aload_n dec_X0_plan.1.1.2.1.1 0 rfl ?_
  refine V_getI 0 4 nf_0_4 ft_0_4 fl_X0_28 dec_X0_plan.1.1.2.1.2 ?_
  refine V_istore_n (lv' := [(3, (0, (gI s2 a0 4))), (0, (2, a0)), (1, (2, a1)), (2, (0, a2))]) dec_X0_plan.1.1.2.2.1 (by decide) rfl ?_
  exact V_pick [1, 2, 0] rfl (X0_plan_b11_s G l FU s2 a0 a1 (gI s2 a0 4))
theorem dec_X0_stepsFrom : (((((decode cX0_stepsFrom 0 = .ok (.aload_n 0, 1) ∧ (decode cX0_stepsFrom 1 = .ok (.getfield 28, 3) ∧ decode cX0_stepsFrom 4 = .ok (.ifCond .ne 5, 3))) ∧ (decode cX0_stepsFrom 7 = .ok (.iconst 0, 1) ∧ (decode cX0_stepsFrom 8 = .ok (.ireturn, 1) ∧ decode cX0_stepsFrom 9 = .ok (.ldc 65, 2)))) ∧ ((decode cX0_stepsFrom 11 = .ok (.istore_n 3, 1) ∧ (decode cX0_stepsFrom 12 = .ok (.iconst 0, 1) ∧ decode cX0_stepsFrom 13 = .ok (.istore 4, 2))) ∧ (decode cX0_stepsFrom 15 = .ok (.iload 4, 2) ∧ (decode cX0_stepsFrom 17 = .ok (.aload_n 2, 1) ∧ decode cX0_stepsFrom 18 = .ok (.getfield 36, 3))))) ∧ (((decode cX0_stepsFrom 21 = .ok (.getfield 54, 3) ∧ (decode cX0_stepsFrom 24 = .ok (.if_icmp .ge 66, 3) ∧ decode cX0_stepsFrom 27 = .ok (.aload_n 0, 1))) ∧ (decode cX0_stepsFrom 28 = .ok (.getfield 15, 3) ∧ (decode cX0_stepsFrom 31 = .ok (.iload 4, 2) ∧ decode cX0_stepsFrom 33 = .ok (.iaload, 1)))) ∧ ((decode cX0_stepsFrom 34 = .ok (.ifCond .eq 50, 3) ∧ (decode cX0_stepsFrom 37 = .ok (.aload_n 2, 1) ∧ decode cX0_stepsFrom 38 = .ok (.getfield 36, 3))) ∧ (decode cX0_stepsFrom 41 = .ok (.iload_n 1, 1) ∧ (decode cX0_stepsFrom 42 = .ok (.aload_n 2, 1) ∧ decode cX0_stepsFrom 43 = .ok (.getfield 66, 3)))))) ∧ ((((decode cX0_stepsFrom 46 = .ok (.getfield 70, 3) ∧ (decode cX0_stepsFrom 49 = .ok (.iload 4, 2) ∧ decode cX0_stepsFrom 51 = .ok (.iaload, 1))) ∧ (decode cX0_stepsFrom 52 = .ok (.invokevirtual 75, 3) ∧ (decode cX0_stepsFrom 55 = .ok (.istore 5, 2) ∧ decode cX0_stepsFrom 57 = .ok (.iload_n 3, 1)))) ∧ ((decode cX0_stepsFrom 58 = .ok (.iload 5, 2) ∧ (decode cX0_stepsFrom 60 = .ok (.aload_n 0, 1) ∧ decode cX0_stepsFrom 61 = .ok (.getfield 21, 3))) ∧ (decode cX0_stepsFrom 64 = .ok (.aload_n 0, 1) ∧ (decode cX0_stepsFrom 65 = .ok (.aload_n 0, 1) ∧ decode cX0_stepsFrom 66 = .ok (.getfield 15, 3))))) ∧ (((decode cX0_stepsFrom 69 = .ok (.iload 4, 2) ∧ (decode cX0_stepsFrom 71 = .ok (.iaload, 1) ∧ decode cX0_stepsFrom 72 = .ok (.iconst 0, 1))) ∧ (decode cX0_stepsFrom 73 = .ok (.iload 4, 2) ∧ (decode cX0_stepsFrom 75 = .ok (.invokevirtual 57, 3) ∧ decode cX0_stepsFrom 78 = .ok (.iaload, 1)))) ∧ ((decode cX0_stepsFrom 79 = .ok (.iadd, 1) ∧ (decode cX0_stepsFrom 80 = .ok (.invokestatic 78, 3) ∧ decode cX0_stepsFrom 83 = .ok (.istore_n 3, 1))) ∧ ((decode cX0_stepsFrom 84 = .ok (.iinc 4 1, 3) ∧ decode cX0_stepsFrom 87 = .ok (.goto (-72), 3)) ∧ (decode cX0_stepsFrom 90 = .ok (.iload_n 3, 1) ∧ decode cX0_stepsFrom 91 = .ok (.ireturn, 1))))))) := ⟨⟨by decide +kernel, by decide +kernel⟩, ⟨by decide +kernel, ⟨by decide +kernel, by decide +kernel⟩⟩⟩
def X0_stepsFrom_b84 (rk15 : St → Int → Int → Int → Int → Int → Rs) (s : St) (x0 x1 x2 x3 x4 : Int) : Rs :=
  rk15 s x0 x1 x2 x3 (w32 (x4 + 1))
set_option maxRecDepth 100000 in
set_option maxHeartbeats 4000000 in
theorem X0_stepsFrom_b84_s (G : Gx) (l : Launch) (rk15 : St → Int → Int → Int → Int → Int → Rs) (hk15 : ∀ (s : St) (x0 x1 x2 x3 x4 : Int), V G l mX0_stepsFrom 15 [(0, (2, x0)), (1, (0, x1)), (2, (2, x2)), (3, (0, x3)), (4, (0, x4))] [] s (rk15 s x0 x1 x2 x3 x4)) (s : St) (x0 x1 x2 x3 x4 : Int) : V G l mX0_stepsFrom 84 [(0, (2, x0)), (1, (0, x1)), (2, (2, x2)), (3, (0, x3)), (4, (0, x4))] [] s (X0_stepsFrom_b84 rk15 s x0 x1 x2 x3 x4) := by
  unfold X0_stepsFrom_b84
  refine V_iinc (lv' := [(4, (0, (w32 (x4 + 1)))), (0, (2, x0)), (1, (0, x1)), (2, (2, x2)), (3, (0, x3))]) dec_X0_stepsFrom.2.2.2.2.1.1 4 rfl (by decide) rfl ?_
  refine V_goto (tgt := 15) dec_X0_stepsFrom.2.2.2.2.1.2 (by decide) ?_
  exact V_pick [1, 2, 3, 4, 0] rfl (hk15 s x0 x1 x2 x3 (w32 (x4 + 1)))
def X0_stepsFrom_b15_body (rk15 : St → Int → Int → Int → Int → Int → Rs) (s : St) (x0 x1 x2 x3 x4 : Int) : Rs :=
  grd (isK s 20 x2) (grd (isK s 19 (gR s x2 0)) (if (gI s (gR s x2 0) 2) ≤ x4 then (some (x3, s)) else (grd (isK s 10 x0) (grd (isK s 1 (gR s x0 2) ∧ 0 ≤ x4 ∧ x4 < ln s (gR s x0 2)) (if (gI s (gR s x0 2) x4.toNat) = 0 then (X0_stepsFrom_b84 rk15 s x0 x1 x2 x3 x4) else (grd (isK s 20 x2) (grd (isK s 20 x2) (grd (isK s 16 (gR s x2 1)) (grd (isK s 1 (gR s (gR s x2 1) 1) ∧ 0 ≤ x4 ∧ x4 < ln s (gR s (gR s x2 1) 1)) (grd (isK s 19 (gR s x2 0)) (bnd (X9_distance s (gR s x2 0) x1 (gI s (gR s (gR s x2 1) 1) x4.toNat)) (fun r1 s2 => grd (isK s2 10 x0) (grd (isK s2 10 x0) (grd (isK s2 1 (gR s2 x0 2) ∧ 0 ≤ x4 ∧ x4 < ln s2 (gR s2 x0 2)) (grd (isK s2 10 x0) (bnd (X0_indexOf s2 x0 (gI s2 (gR s2 x0 2) x4.toNat) 0 x4) (fun r3 s4 => grd (isK s4 1 (gR s2 x0 1) ∧ 0 ≤ r3 ∧ r3 < ln s4 (gR s2 x0 1)) (bnd (JM_min s4 x3 (w32 (r1 + (gI s4 (gR s2 x0 1) r3.toNat)))) (fun r5 s6 => X0_stepsFrom_b84 rk15 s6 x0 x1 x2 r5 x4)))))))))))))))))))
def X0_stepsFrom_b15 (n : Nat) (s : St) (x0 x1 x2 x3 x4 : Int) : Rs := iter (fun (rec : St × Int × Int × Int × Int × Int → Rs) (a : St × Int × Int × Int × Int × Int) => X0_stepsFrom_b15_body (fun (s : St) (x0 x1 x2 x3 x4 : Int) => rec (s, x0, x1, x2, x3, x4)) a.1 a.2.1 a.2.2.1 a.2.2.2.1 a.2.2.2.2.1 a.2.2.2.2.2) n (s, x0, x1, x2, x3, x4)
theorem X0_stepsFrom_b15_0 (s : St) (x0 x1 x2 x3 x4 : Int) : X0_stepsFrom_b15 0 s x0 x1 x2 x3 x4 = none := rfl
theorem X0_stepsFrom_b15_1 (n : Nat) (s : St) (x0 x1 x2 x3 x4 : Int) : X0_stepsFrom_b15 (n + 1) s x0 x1 x2 x3 x4 = X0_stepsFrom_b15_body (X0_stepsFrom_b15 n) s x0 x1 x2 x3 x4 := rfl
set_option maxRecDepth 100000 in
set_option maxHeartbeats 4000000 in
theorem X0_stepsFrom_b15_body_s (G : Gx) (l : Launch) (rk15 : St → Int → Int → Int → Int → Int → Rs) (hk15 : ∀ (s : St) (x0 x1 x2 x3 x4 : Int), V G l mX0_stepsFrom 15 [(0, (2, x0)), (1, (0, x1)), (2, (2, x2)), (3, (0, x3)), (4, (0, x4))] [] s (rk15 s x0 x1 x2 x3 x4)) (s : St) (x0 x1 x2 x3 x4 : Int) : V G l mX0_stepsFrom 15 [(0, (2, x0)), (1, (0, x1)), (2, (2, x2)), (3, (0, x3)), (4, (0, x4))] [] s (X0_stepsFrom_b15_body rk15 s x0 x1 x2 x3 x4) := by
  unfold X0_stepsFrom_b15_body
  refine V_iload dec_X0_stepsFrom.1.1.2.2.1 4 rfl ?_
  refine V_aload_n dec_X0_stepsFrom.1.1.2.2.2.1 2 rfl ?_
  refine V_getR 10 0 nf_10_0 ft_10_0 fl_X0_36 dec_X0_stepsFrom.1.1.2.2.2.2 ?_
  refine V_getI 9 2 nf_9_2 ft_9_2 fl_X0_54 dec_X0_stepsFrom.1.2.1.1.1 ?_
  refine V_icmp_ge (tgt := 90) dec_X0_stepsFrom.1.2.1.1.2.1 (by decide) ?_ ?_
  · refine V_iload_n dec_X0_stepsFrom.2.2.2.2.2.1 3 rfl ?_
    exact V_iret rfl dec_X0_stepsFrom.2.2.2.2.2.2
  · refine V_aload_n dec_X0_stepsFrom.1.2.1.1.2.2 0 rfl ?_
    refine V_getR 0 2 nf_0_2 ft_0_2 fl_X0_15 dec_X0_stepsFrom.1.2.1.2.1 ?_
    refine V_iload dec_X0_stepsFrom.1.2.1.2.2.1 4 rfl ?_
    refine V_iald dec_X0_stepsFrom.1.2.1.2.2.2 ?_
    refine V_if_eq (tgt := 84) dec_X0_stepsFrom.1.2.2.1.1 (by decide) ?_ ?_
    · exact V_pick [0, 1, 2, 3, 4] rfl (X0_stepsFrom_b84_s G l rk15 hk15 s x0 x1 x2 x3 x4)
    · refine V_aload_n dec_X0_stepsFrom.1.2.2.1.2.1 2 rfl ?_
      refine V_getR 10 0 nf_10_0 ft_10_0 fl_X0_36 dec_X0_stepsFrom.1.2.2.1.2.2 ?_
      refine V_iload_n dec_X0_stepsFrom.1.2.2.2.1 1 rfl ?_
      refine V_aload_n dec_X0_stepsFrom.1.2.2.2.2.1 2 rfl ?_
      refine V_getR 10 1 nf_10_1 ft_10_1 fl_X0_66 dec_X0_stepsFrom.1.2.2.2.2.2 ?_
      refine V_getR 6 1 nf_6_1 ft_6_1 fl_X0_70 dec_X0_stepsFrom.2.1.1.1.1 ?_
      refine V_iload dec_X0_stepsFrom.2.1.1.1.2.1 4 rfl ?_
      refine V_iald dec_X0_stepsFrom.2.1.1.1.2.2 ?_
      refine V_callV0 (ci := 9) (a := (gR s x2 0)) (As := [(0, x1), (0, (gI s (gR s (gR s x2 1) 1) x4.toNat))]) (st := []) rfl rfl (X9_distance_s G l s (gR s x2 0) x1 (gI s (gR s (gR s x2 1) 1) x4.toNat)) cal_X9_distance rfl ml_X0_75 rfl rfl dec_X0_stepsFrom.2.1.1.2.1 (k_tag (tag := 0) rfl fun r1 s2 => ?_)
      refine V_istore (lv' := [(5, (0, r1)), (0, (2, x0)), (1, (0, x1)), (2, (2, x2)), (3, (0, x3)), (4, (0, x4))]) dec_X0_stepsFrom.2.1.1.2.2.1 (by decide) rfl ?_
      refine V_iload_n dec_X0_stepsFrom.2.1.1.2.2.2 4 rfl ?_
      refine V_iload dec_X0_stepsFrom.2.1.2.1.1 0 rfl ?_
      refine V_aload_n dec_X0_stepsFrom.2.1.2.1.2.1 1 rfl ?_
      refine V_getR 0 1 nf_0_1 ft_0_1 fl_X0_21 dec_X0_stepsFrom.2.1.2.1.2.2 ?_
      refine V_aload_n dec_X0_stepsFrom.2.1.2.2.1 1 rfl ?_
      refine V_aload_n dec_X0_stepsFrom.2.1.2.2.2.1 1 rfl ?_
      refine V_getR 0 2 nf_0_2 ft_0_2 fl_X0_15 dec_X0_stepsFrom.2.1.2.2.2.2 ?_
      refine V_iload dec_X0_stepsFrom.2.2.1.1.1 5 rfl ?_
      refine V_iald dec_X0_stepsFrom.2.2.1.1.2.1 ?_
      refine V_iconst dec_X0_stepsFrom.2.2.1.1.2.2 rfl ?_
      refine V_iload dec_X0_stepsFrom.2.2.1.2.1 5 rfl ?_
      refine V_callV0 (ci := 0) (a := x0) (As := [(0, (gI s2 (gR s2 x0 2) x4.toNat)), (0, 0), (0, x4)]) (st := [(2, (gR s2 x0 1)), (0, r1), (0, x3)]) rfl rfl (X0_indexOf_s G l s2 x0 (gI s2 (gR s2 x0 2) x4.toNat) 0 x4) cal_X0_indexOf rfl ml_X0_57 rfl rfl dec_X0_stepsFrom.2.2.1.2.2.1 (k_tag (tag := 0) rfl fun r3 s4 => ?_)
      refine V_iald dec_X0_stepsFrom.2.2.1.2.2.2 ?_
      refine V_iadd dec_X0_stepsFrom.2.2.2.1.1 ?_
      refine V_callS0 (As := [(0, x3), (0, (w32 (r1 + (gI s4 (gR s2 x0 1) r3.toNat))))]) (st := []) (host := "") rfl (JM_min_s G l s4 x3 (w32 (r1 + (gI s4 (gR s2 x0 1) r3.toNat)))) cal_JM_min rfl (Or.inl ml_X0_78) rfl rfl dec_X0_stepsFrom.2.2.2.1.2.1 (k_tag (tag := 0) rfl fun r5 s6 => ?_)
      refine V_istore_n (lv' := [(3, (0, r5)), (5, (0, r1)), (0, (2, x0)), (1, (0, x1)), (2, (2, x2)), (4, (0, x4))]) dec_X0_stepsFrom.2.2.2.1.2.2 (by decide) rfl ?_
      exact V_pick [2, 3, 4, 0, 5] rfl (X0_stepsFrom_b84_s G l rk15 hk15 s6 x0 x1 x2 r5 x4)
theorem X0_stepsFrom_b15_s (G : Gx) (l : Launch) (n : Nat) (s : St) (x0 x1 x2 x3 x4 : Int) : V G l mX0_stepsFrom 15 [(0, (2, x0)), (1, (0, x1)), (2, (2, x2)), (3, (0, x3)), (4, (0, x4))] [] s (X0_stepsFrom_b15 n s x0 x1 x2 x3 x4) :=
  V_iter (LV := fun a : St × Int × Int × Int × Int × Int => [(0, (2, a.2.1)), (1, (0, a.2.2.1)), (2, (2, a.2.2.2.1)), (3, (0, a.2.2.2.2.1)), (4, (0, a.2.2.2.2.2))]) (ST := fun a : St × Int × Int × Int × Int × Int => []) (SS := fun a : St × Int × Int × Int × Int × Int => a.1) (fun rec hrec a => X0_stepsFrom_b15_body_s G l (fun (s : St) (x0 x1 x2 x3 x4 : Int) => rec (s, x0, x1, x2, x3, x4)) (fun (s : St) (x0 x1 x2 x3 x4 : Int) => hrec (s, x0, x1, x2, x3, x4)) a.1 a.2.1 a.2.2.1 a.2.2.2.1 a.2.2.2.2.1 a.2.2.2.2.2) n (s, x0, x1, x2, x3, x4)
def X0_stepsFrom (s : St) (a0 a1 a2 : Int) : Rs :=
  grd (isK s 10 a0) (if ¬ (gI s a0 4) = 0 then (X0_stepsFrom_b15 FU s a0 a1 a2 1000000 0) else (some (0, s)))
set_option maxRecDepth 100000 in
set_option maxHeartbeats 4000000 in
theorem X0_stepsFrom_s (G : Gx) (l : Launch) (s : St) (a0 a1 a2 : Int) : Snd G l mX0_stepsFrom [(2, a0), (0, a1), (2, a2)] s (X0_stepsFrom s a0 a1 a2) := by
  refine Snd.of (by decide +kernel) rfl ?_
  show V G l mX0_stepsFrom 0 [(0, (2, a0)), (1, (0, a1)), (2, (2, a2))] [] s _
  unfold X0_stepsFrom
  refine V_aload_n dec_X0_stepsFrom.1.1.1.1.1 0 rfl ?_
  refine V_getI 0 4 nf_0_4 ft_0_4 fl_X0_28 dec_X0_stepsFrom.1.1.1.1.2.1 ?_
  refine V_if_ne (tgt := 9) dec_X0_stepsFrom.1.1.1.1.2.2 (by decide) ?_ ?_
  · refine V_ldc (n := 1000000) cw_X0_65 (by decide) dec_X0_stepsFrom.1.1.1.2.2.2 ?_
    refine V_istore_n (lv' := [(3, (0, 1000000)), (0, (2, a0)), (1, (0, a1)), (2, (2, a2))]) dec_X0_stepsFrom.1.1.2.1.1 (by decide) rfl ?_
    refine V_iconst dec_X0_stepsFrom.1.1.2.1.2.1 rfl ?_
    refine V_istore (lv' := [(4, (0, 0)), (3, (0, 1000000)), (0, (2, a0)), (1, (0, a1)), (2, (2, a2))]) dec_X0_stepsFrom.1.1.2.1.2.2 (by decide) rfl ?_
    exact V_pick [2, 3, 4, 1, 0] rfl (X0_stepsFrom_b15_s G l FU s a0 a1 a2 1000000 0)
  · refine V_iconst dec_X0_stepsFrom.1.1.1.2.1 rfl ?_
    exact V_iret rfl dec_X0_stepsFrom.1.1.1.2.2.1
theorem dec_X10_heardBits : ((((decode cX10_heardBits 0 = .ok (.iconst 0, 1) ∧ (decode cX10_heardBits 1 = .ok (.istore_n 3, 1) ∧ decode cX10_heardBits 2 = .ok (.iconst 0, 1))) ∧ (decode cX10_heardBits 3 = .ok (.istore 4, 2) ∧ (decode cX10_heardBits 5 = .ok (.iload 4, 2) ∧ decode cX10_heardBits 7 = .ok (.aload_n 0, 1)))) ∧ ((decode cX10_heardBits 8 = .ok (.getfield 25, 3) ∧ (decode cX10_heardBits 11 = .ok (.getfield 91, 3) ∧ decode cX10_heardBits 14 = .ok (.if_icmp .ge 27, 3))) ∧ (decode cX10_heardBits 17 = .ok (.aload_n 0, 1) ∧ (decode cX10_heardBits 18 = .ok (.iload 4, 2) ∧ decode cX10_heardBits 20 = .ok (.iload_n 2, 1))))) ∧ (((decode cX10_heardBits 21 = .ok (.invokevirtual 83, 3) ∧ (decode cX10_heardBits 24 = .ok (.iload_n 1, 1) ∧ decode cX10_heardBits 25 = .ok (.if_icmp .ne 10, 3))) ∧ (decode cX10_heardBits 28 = .ok (.iload_n 3, 1) ∧ (decode cX10_heardBits 29 = .ok (.iconst 1, 1) ∧ decode cX10_heardBits 30 = .ok (.iload 4, 2)))) ∧ ((decode cX10_heardBits 32 = .ok (.ishl, 1) ∧ (decode cX10_heardBits 33 = .ok (.ior, 1) ∧ decode cX10_heardBits 34 = .ok (.istore_n 3, 1))) ∧ ((decode cX10_heardBits 35 = .ok (.iinc 4 1, 3) ∧ decode cX10_heardBits 38 = .ok (.goto (-33), 3)) ∧ (decode cX10_heardBits 41 = .ok (.iload_n 3, 1) ∧ decode cX10_heardBits 42 = .ok (.ireturn, 1)))))) := ⟨by decide +kernel, ⟨by decide +kernel, by decide +kernel⟩⟩
def X10_heardBits_b35 (rk5 : St → Int → Int → Int → Int → Int → Rs) (s : St) (x0 x1 x2 x3 x4 : Int) : Rs :=
  rk5 s x0 x1 x2 x3 (w32 (x4 + 1))
set_option maxRecDepth 100000 in
set_option maxHeartbeats 4000000 in
theorem X10_heardBits_b35_s (G : Gx) (l : Launch) (rk5 : St → Int → Int → Int → Int → Int → Rs) (hk5 : ∀ (s : St) (x0 x1 x2 x3 x4 : Int), V G l mX10_heardBits 5 [(0, (2, x0)), (1, (0, x1)), (2, (0, x2)), (3, (0, x3)), (4, (0, x4))] [] s (rk5 s x0 x1 x2 x3 x4)) (s : St) (x0 x1 x2 x3 x4 : Int) : V G l mX10_heardBits 35 [(0, (2, x0)), (1, (0, x1)), (2, (0, x2)), (3, (0, x3)), (4, (0, x4))] [] s (X10_heardBits_b35 rk5 s x0 x1 x2 x3 x4) := by
  unfold X10_heardBits_b35
  refine V_iinc (lv' := [(4, (0, (w32 (x4 + 1)))), (0, (2, x0)), (1, (0, x1)), (2, (0, x2)), (3, (0, x3))]) dec_X10_heardBits.2.2.2.1.1 4 rfl (by decide) rfl ?_
  refine V_goto (tgt := 5) dec_X10_heardBits.2.2.2.1.2 (by decide) ?_
  exact V_pick [1, 2, 3, 4, 0] rfl (hk5 s x0 x1 x2 x3 (w32 (x4 + 1)))
def X10_heardBits_b5_body (rk5 : St → Int → Int → Int → Int → Int → Rs) (s : St) (x0 x1 x2 x3 x4 : Int) : Rs :=
  grd (isK s 20 x0) (grd (isK s 19 (gR s x0 0)) (if (gI s (gR s x0 0) 3) ≤ x4 then (some (x3, s)) else (grd (isK s 20 x0) (bnd (X10_listener s x0 x4 x2) (fun r1 s2 => if ¬ r1 = x1 then (X10_heardBits_b35 rk5 s2 x0 x1 x2 x3 x4) else (X10_heardBits_b35 rk5 s2 x0 x1 x2 (or32 x3 (shl32 1 x4)) x4))))))
def X10_heardBits_b5 (n : Nat) (s : St) (x0 x1 x2 x3 x4 : Int) : Rs := iter (fun (rec : St × Int × Int × Int × Int × Int → Rs) (a : St × Int × Int × Int × Int × Int) => X10_heardBits_b5_body (fun (s : St) (x0 x1 x2 x3 x4 : Int) => rec (s, x0, x1, x2, x3, x4)) a.1 a.2.1 a.2.2.1 a.2.2.2.1 a.2.2.2.2.1 a.2.2.2.2.2) n (s, x0, x1, x2, x3, x4)
theorem X10_heardBits_b5_0 (s : St) (x0 x1 x2 x3 x4 : Int) : X10_heardBits_b5 0 s x0 x1 x2 x3 x4 = none := rfl
theorem X10_heardBits_b5_1 (n : Nat) (s : St) (x0 x1 x2 x3 x4 : Int) : X10_heardBits_b5 (n + 1) s x0 x1 x2 x3 x4 = X10_heardBits_b5_body (X10_heardBits_b5 n) s x0 x1 x2 x3 x4 := rfl
set_option maxRecDepth 100000 in
set_option maxHeartbeats 4000000 in
theorem X10_heardBits_b5_body_s (G : Gx) (l : Launch) (rk5 : St → Int → Int → Int → Int → Int → Rs) (hk5 : ∀ (s : St) (x0 x1 x2 x3 x4 : Int), V G l mX10_heardBits 5 [(0, (2, x0)), (1, (0, x1)), (2, (0, x2)), (3, (0, x3)), (4, (0, x4))] [] s (rk5 s x0 x1 x2 x3 x4)) (s : St) (x0 x1 x2 x3 x4 : Int) : V G l mX10_heardBits 5 [(0, (2, x0)), (1, (0, x1)), (2, (0, x2)), (3, (0, x3)), (4, (0, x4))] [] s (X10_heardBits_b5_body rk5 s x0 x1 x2 x3 x4) := by
  unfold X10_heardBits_b5_body
  refine V_iload dec_X10_heardBits.1.1.2.2.1 4 rfl ?_
  refine V_aload_n dec_X10_heardBits.1.1.2.2.2 0 rfl ?_
  refine V_getR 10 0 nf_10_0 ft_10_0 fl_X10_25 dec_X10_heardBits.1.2.1.1 ?_
  refine V_getI 9 3 nf_9_3 ft_9_3 fl_X10_91 dec_X10_heardBits.1.2.1.2.1 ?_
  refine V_icmp_ge (tgt := 41) dec_X10_heardBits.1.2.1.2.2 (by decide) ?_ ?_
  · refine V_iload_n dec_X10_heardBits.2.2.2.2.1 3 rfl ?_
    exact V_iret rfl dec_X10_heardBits.2.2.2.2.2
  · refine V_aload_n dec_X10_heardBits.1.2.2.1 0 rfl ?_
    refine V_iload dec_X10_heardBits.1.2.2.2.1 4 rfl ?_
    refine V_iload_n dec_X10_heardBits.1.2.2.2.2 2 rfl ?_
    refine V_callV0 (ci := 10) (a := x0) (As := [(0, x4), (0, x2)]) (st := []) rfl rfl (X10_listener_s G l s x0 x4 x2) cal_X10_listener rfl ml_X10_83 rfl rfl dec_X10_heardBits.2.1.1.1 (k_tag (tag := 0) rfl fun r1 s2 => ?_)
    refine V_iload_n dec_X10_heardBits.2.1.1.2.1 1 rfl ?_
    refine V_icmp_ne (tgt := 35) dec_X10_heardBits.2.1.1.2.2 (by decide) ?_ ?_
    · exact V_pick [0, 1, 2, 3, 4] rfl (X10_heardBits_b35_s G l rk5 hk5 s2 x0 x1 x2 x3 x4)
    · refine V_iload_n dec_X10_heardBits.2.1.2.1 3 rfl ?_
      refine V_iconst dec_X10_heardBits.2.1.2.2.1 rfl ?_
      refine V_iload dec_X10_heardBits.2.1.2.2.2 4 rfl ?_
      refine V_ishl dec_X10_heardBits.2.2.1.1 ?_
      refine V_ior dec_X10_heardBits.2.2.1.2.1 ?_
      refine V_istore_n (lv' := [(3, (0, (or32 x3 (shl32 1 x4)))), (0, (2, x0)), (1, (0, x1)), (2, (0, x2)), (4, (0, x4))]) dec_X10_heardBits.2.2.1.2.2 (by decide) rfl ?_
      exact V_pick [1, 2, 3, 0, 4] rfl (X10_heardBits_b35_s G l rk5 hk5 s2 x0 x1 x2 (or32 x3 (shl32 1 x4)) x4)
theorem X10_heardBits_b5_s (G : Gx) (l : Launch) (n : Nat) (s : St) (x0 x1 x2 x3 x4 : Int) : V G l mX10_heardBits 5 [(0, (2, x0)), (1, (0, x1)), (2, (0, x2)), (3, (0, x3)), (4, (0, x4))] [] s (X10_heardBits_b5 n s x0 x1 x2 x3 x4) :=
  V_iter (LV := fun a : St × Int × Int × Int × Int × Int => [(0, (2, a.2.1)), (1, (0, a.2.2.1)), (2, (0, a.2.2.2.1)), (3, (0, a.2.2.2.2.1)), (4, (0, a.2.2.2.2.2))]) (ST := fun a : St × Int × Int × Int × Int × Int => []) (SS := fun a : St × Int × Int × Int × Int × Int => a.1) (fun rec hrec a => X10_heardBits_b5_body_s G l (fun (s : St) (x0 x1 x2 x3 x4 : Int) => rec (s, x0, x1, x2, x3, x4)) (fun (s : St) (x0 x1 x2 x3 x4 : Int) => hrec (s, x0, x1, x2, x3, x4)) a.1 a.2.1 a.2.2.1 a.2.2.2.1 a.2.2.2.2.1 a.2.2.2.2.2) n (s, x0, x1, x2, x3, x4)
def X10_heardBits (s : St) (a0 a1 a2 : Int) : Rs :=
  X10_heardBits_b5 FU s a0 a1 a2 0 0
set_option maxRecDepth 100000 in
set_option maxHeartbeats 4000000 in
theorem X10_heardBits_s (G : Gx) (l : Launch) (s : St) (a0 a1 a2 : Int) : Snd G l mX10_heardBits [(2, a0), (0, a1), (0, a2)] s (X10_heardBits s a0 a1 a2) := by
  refine Snd.of (by decide +kernel) rfl ?_
  show V G l mX10_heardBits 0 [(0, (2, a0)), (1, (0, a1)), (2, (0, a2))] [] s _
  unfold X10_heardBits
  refine V_iconst dec_X10_heardBits.1.1.1.1 rfl ?_
  refine V_istore_n (lv' := [(3, (0, 0)), (0, (2, a0)), (1, (0, a1)), (2, (0, a2))]) dec_X10_heardBits.1.1.1.2.1 (by decide) rfl ?_
  refine V_iconst dec_X10_heardBits.1.1.1.2.2 rfl ?_
  refine V_istore (lv' := [(4, (0, 0)), (3, (0, 0)), (0, (2, a0)), (1, (0, a1)), (2, (0, a2))]) dec_X10_heardBits.1.1.2.1 (by decide) rfl ?_
  exact V_pick [2, 3, 4, 1, 0] rfl (X10_heardBits_b5_s G l FU s a0 a1 a2 0 0)
theorem dec_X6_init : (((decode cX6_init 0 = .ok (.aload_n 0, 1) ∧ (decode cX6_init 1 = .ok (.invokespecial 3, 3) ∧ decode cX6_init 4 = .ok (.aload_n 0, 1))) ∧ ((decode cX6_init 5 = .ok (.bipush 6, 2) ∧ decode cX6_init 7 = .ok (.newarray .int, 2)) ∧ (decode cX6_init 9 = .ok (.putfield 9, 3) ∧ decode cX6_init 12 = .ok (.aload_n 0, 1)))) ∧ (((decode cX6_init 13 = .ok (.bipush 6, 2) ∧ decode cX6_init 15 = .ok (.newarray .int, 2)) ∧ (decode cX6_init 17 = .ok (.putfield 15, 3) ∧ decode cX6_init 20 = .ok (.aload_n 0, 1))) ∧ ((decode cX6_init 21 = .ok (.bipush 6, 2) ∧ decode cX6_init 23 = .ok (.newarray .int, 2)) ∧ (decode cX6_init 25 = .ok (.putfield 18, 3) ∧ decode cX6_init 28 = .ok (.return_, 1))))) := ⟨by decide +kernel, by decide +kernel⟩
def X6_init (s : St) (a0 : Int) : Rs :=
  grd (isK s 16 a0) (grd (s.1.1 < 1000000 ∧ 0 ≤ (6 : Int) ∧ (6 : Int) ≤ 100000) (lets (nw s 1 (6 : Int).toNat) (fun s1 => grd (isK s1 16 a0) (lets (pR s1 a0 1 (s.1.1 : Int)) (fun s2 => grd (s2.1.1 < 1000000 ∧ 0 ≤ (6 : Int) ∧ (6 : Int) ≤ 100000) (lets (nw s2 1 (6 : Int).toNat) (fun s3 => grd (isK s3 16 a0) (lets (pR s3 a0 2 (s2.1.1 : Int)) (fun s4 => grd (s4.1.1 < 1000000 ∧ 0 ≤ (6 : Int) ∧ (6 : Int) ≤ 100000) (lets (nw s4 1 (6 : Int).toNat) (fun s5 => grd (isK s5 16 a0) (lets (pR s5 a0 3 (s4.1.1 : Int)) (fun s6 => some (0, s6))))))))))))))
set_option maxRecDepth 100000 in
set_option maxHeartbeats 4000000 in
theorem X6_init_s (G : Gx) (l : Launch) (s : St) (a0 : Int) : Snd G l mX6_init [(2, a0)] s (X6_init s a0) := by
  refine Snd.of (by decide +kernel) rfl ?_
  show V G l mX6_init 0 [(0, (2, a0))] [] s _
  unfold X6_init
  refine V_aload_n dec_X6_init.1.1.1 0 rfl ?_
  refine V_objInit (ci := 6) ml_X6_3 oi_inst oi_code rfl rfl dec_X6_init.1.1.2.1 ?_
  refine V_aload_n dec_X6_init.1.1.2.2 0 rfl ?_
  refine V_bipush dec_X6_init.1.2.1.1 rfl ?_
  refine V_newarr (at0 := .int) (by decide) ac_int dec_X6_init.1.2.1.2 ?_
  refine V_lets fun s1 => ?_
  refine V_putR (host := "") 6 1 nf_6_1 ty_6_1 (Or.inl ⟨fl_X6_9, Or.inr ⟨rfl, rfl, rfl⟩⟩) dec_X6_init.1.2.2.1 ?_
  refine V_lets fun s2 => ?_
  refine V_aload_n dec_X6_init.1.2.2.2 0 rfl ?_
  refine V_bipush dec_X6_init.2.1.1.1 rfl ?_
  refine V_newarr (at0 := .int) (by decide) ac_int dec_X6_init.2.1.1.2 ?_
  refine V_lets fun s3 => ?_
  refine V_putR (host := "") 6 2 nf_6_2 ty_6_2 (Or.inl ⟨fl_X6_15, Or.inr ⟨rfl, rfl, rfl⟩⟩) dec_X6_init.2.1.2.1 ?_
  refine V_lets fun s4 => ?_
  refine V_aload_n dec_X6_init.2.1.2.2 0 rfl ?_
  refine V_bipush dec_X6_init.2.2.1.1 rfl ?_
  refine V_newarr (at0 := .int) (by decide) ac_int dec_X6_init.2.2.1.2 ?_
  refine V_lets fun s5 => ?_
  refine V_putR (host := "") 6 3 nf_6_3 ty_6_3 (Or.inl ⟨fl_X6_18, Or.inr ⟨rfl, rfl, rfl⟩⟩) dec_X6_init.2.2.2.1 ?_
  refine V_lets fun s6 => ?_
  exact V_vret rfl dec_X6_init.2.2.2.2
theorem dec_X7_init : (((decode cX7_init 0 = .ok (.aload_n 0, 1) ∧ decode cX7_init 1 = .ok (.invokespecial 3, 3)) ∧ (decode cX7_init 4 = .ok (.aload_n 0, 1) ∧ (decode cX7_init 5 = .ok (.bipush 40, 2) ∧ decode cX7_init 7 = .ok (.newarray .int, 2)))) ∧ ((decode cX7_init 9 = .ok (.putfield 9, 3) ∧ (decode cX7_init 12 = .ok (.aload_n 0, 1) ∧ decode cX7_init 13 = .ok (.bipush 40, 2))) ∧ (decode cX7_init 15 = .ok (.newarray .int, 2) ∧ (decode cX7_init 17 = .ok (.putfield 15, 3) ∧ decode cX7_init 20 = .ok (.return_, 1))))) := by decide +kernel
def X7_init (s : St) (a0 : Int) : Rs :=
  grd (isK s 17 a0) (grd (s.1.1 < 1000000 ∧ 0 ≤ (40 : Int) ∧ (40 : Int) ≤ 100000) (lets (nw s 1 (40 : Int).toNat) (fun s1 => grd (isK s1 17 a0) (lets (pR s1 a0 0 (s.1.1 : Int)) (fun s2 => grd (s2.1.1 < 1000000 ∧ 0 ≤ (40 : Int) ∧ (40 : Int) ≤ 100000) (lets (nw s2 1 (40 : Int).toNat) (fun s3 => grd (isK s3 17 a0) (lets (pR s3 a0 1 (s2.1.1 : Int)) (fun s4 => some (0, s4))))))))))
set_option maxRecDepth 100000 in
set_option maxHeartbeats 4000000 in
theorem X7_init_s (G : Gx) (l : Launch) (s : St) (a0 : Int) : Snd G l mX7_init [(2, a0)] s (X7_init s a0) := by
  refine Snd.of (by decide +kernel) rfl ?_
  show V G l mX7_init 0 [(0, (2, a0))] [] s _
  unfold X7_init
  refine V_aload_n dec_X7_init.1.1.1 0 rfl ?_
  refine V_objInit (ci := 7) ml_X7_3 oi_inst oi_code rfl rfl dec_X7_init.1.1.2 ?_
  refine V_aload_n dec_X7_init.1.2.1 0 rfl ?_
  refine V_bipush dec_X7_init.1.2.2.1 rfl ?_
  refine V_newarr (at0 := .int) (by decide) ac_int dec_X7_init.1.2.2.2 ?_
  refine V_lets fun s1 => ?_
  refine V_putR (host := "") 7 0 nf_7_0 ty_7_0 (Or.inl ⟨fl_X7_9, Or.inr ⟨rfl, rfl, rfl⟩⟩) dec_X7_init.2.1.1 ?_
  refine V_lets fun s2 => ?_
  refine V_aload_n dec_X7_init.2.1.2.1 0 rfl ?_
  refine V_bipush dec_X7_init.2.1.2.2 rfl ?_
  refine V_newarr (at0 := .int) (by decide) ac_int dec_X7_init.2.2.1 ?_
  refine V_lets fun s3 => ?_
  refine V_putR (host := "") 7 1 nf_7_1 ty_7_1 (Or.inl ⟨fl_X7_15, Or.inr ⟨rfl, rfl, rfl⟩⟩) dec_X7_init.2.2.2.1 ?_
  refine V_lets fun s4 => ?_
  exact V_vret rfl dec_X7_init.2.2.2.2
theorem dec_X10_init : ((((decode cX10_init 0 = .ok (.aload_n 0, 1) ∧ decode cX10_init 1 = .ok (.invokespecial 3, 3)) ∧ (decode cX10_init 4 = .ok (.aload_n 0, 1) ∧ decode cX10_init 5 = .ok (.new 9, 3))) ∧ ((decode cX10_init 8 = .ok (.dup, 1) ∧ decode cX10_init 9 = .ok (.invokespecial 11, 3)) ∧ (decode cX10_init 12 = .ok (.putfield 12, 3) ∧ decode cX10_init 15 = .ok (.aload_n 0, 1)))) ∧ (((decode cX10_init 16 = .ok (.new 18, 3) ∧ decode cX10_init 19 = .ok (.dup, 1)) ∧ (decode cX10_init 20 = .ok (.invokespecial 20, 3) ∧ decode cX10_init 23 = .ok (.putfield 21, 3))) ∧ ((decode cX10_init 26 = .ok (.aload_n 0, 1) ∧ decode cX10_init 27 = .ok (.aload_n 1, 1)) ∧ (decode cX10_init 28 = .ok (.putfield 25, 3) ∧ decode cX10_init 31 = .ok (.return_, 1))))) := ⟨by decide +kernel, by decide +kernel⟩
def X10_init (s : St) (a0 a1 : Int) : Rs :=
  grd (isK s 20 a0) (grd (s.1.1 < 1000000) (lets (nw s 16 4) (fun s1 => grd (isK s1 16 (s.1.1 : Int)) (bnd (X6_init s1 (s.1.1 : Int)) (fun r2 s3 => grd (isK s3 20 a0) (lets (pR s3 a0 1 (s.1.1 : Int)) (fun s4 => grd (s4.1.1 < 1000000) (lets (nw s4 17 3) (fun s5 => grd (isK s5 17 (s4.1.1 : Int)) (bnd (X7_init s5 (s4.1.1 : Int)) (fun r6 s7 => grd (isK s7 20 a0) (lets (pR s7 a0 2 (s4.1.1 : Int)) (fun s8 => grd (isK s8 20 a0) (lets (pR s8 a0 0 a1) (fun s9 => some (0, s9))))))))))))))))
set_option maxRecDepth 100000 in
set_option maxHeartbeats 4000000 in
theorem X10_init_s (G : Gx) (l : Launch) (s : St) (a0 a1 : Int) : Snd G l mX10_init [(2, a0), (2, a1)] s (X10_init s a0 a1) := by
  refine Snd.of (by decide +kernel) rfl ?_
  show V G l mX10_init 0 [(0, (2, a0)), (1, (2, a1))] [] s _
  unfold X10_init
  refine V_aload_n dec_X10_init.1.1.1.1 0 rfl ?_
  refine V_objInit (ci := 10) ml_X10_3 oi_inst oi_code rfl rfl dec_X10_init.1.1.1.2 ?_
  refine V_aload_n dec_X10_init.1.1.2.1 0 rfl ?_
  refine V_new 6 (RX6, TX6, 4) rfl cl_X10_9 in_X6 iz_X6 dec_X10_init.1.1.2.2 ?_
  refine V_lets fun s1 => ?_
  refine V_dup (nl2 _) dec_X10_init.1.2.1.1 ?_
  refine V_callI0 (ci := 6) (a := (s.1.1 : Int)) (As := []) (st := [(2, (s.1.1 : Int)), (2, a0)]) (host := RX11) rfl rfl (X6_init_s G l s1 (s.1.1 : Int)) cal_X6_init rfl (Or.inr ml_X10_11) rfl rfl dec_X10_init.1.2.1.2 (fun r2 s3 => ?_)
  refine V_putR (host := "") 10 1 nf_10_1 ty_10_1 (Or.inl ⟨fl_X10_12, Or.inr ⟨rfl, rfl, rfl⟩⟩) dec_X10_init.1.2.2.1 ?_
  refine V_lets fun s4 => ?_
  refine V_aload_n dec_X10_init.1.2.2.2 0 rfl ?_
  refine V_new 7 (RX7, TX7, 3) rfl cl_X10_18 in_X7 iz_X7 dec_X10_init.2.1.1.1 ?_
  refine V_lets fun s5 => ?_
  refine V_dup (nl2 _) dec_X10_init.2.1.1.2 ?_
  refine V_callI0 (ci := 7) (a := (s4.1.1 : Int)) (As := []) (st := [(2, (s4.1.1 : Int)), (2, a0)]) (host := RX11) rfl rfl (X7_init_s G l s5 (s4.1.1 : Int)) cal_X7_init rfl (Or.inr ml_X10_20) rfl rfl dec_X10_init.2.1.2.1 (fun r6 s7 => ?_)
  refine V_putR (host := "") 10 2 nf_10_2 ty_10_2 (Or.inl ⟨fl_X10_21, Or.inr ⟨rfl, rfl, rfl⟩⟩) dec_X10_init.2.1.2.2 ?_
  refine V_lets fun s8 => ?_
  refine V_aload_n dec_X10_init.2.2.1.1 0 rfl ?_
  refine V_aload_n dec_X10_init.2.2.1.2 1 rfl ?_
  refine V_putR (host := "") 10 0 nf_10_0 ty_10_0 (Or.inl ⟨fl_X10_25, Or.inr ⟨rfl, rfl, rfl⟩⟩) dec_X10_init.2.2.2.1 ?_
  refine V_lets fun s9 => ?_
  exact V_vret rfl dec_X10_init.2.2.2.2
theorem dec_X10_isRight : (((decode cX10_isRight 0 = .ok (.aload_n 0, 1) ∧ (decode cX10_isRight 1 = .ok (.iload_n 1, 1) ∧ decode cX10_isRight 2 = .ok (.iload_n 2, 1))) ∧ ((decode cX10_isRight 3 = .ok (.invokevirtual 83, 3) ∧ decode cX10_isRight 6 = .ok (.aload_n 0, 1)) ∧ (decode cX10_isRight 7 = .ok (.getfield 25, 3) ∧ decode cX10_isRight 10 = .ok (.getfield 71, 3)))) ∧ ((decode cX10_isRight 13 = .ok (.iload_n 1, 1) ∧ (decode cX10_isRight 14 = .ok (.iaload, 1) ∧ decode cX10_isRight 15 = .ok (.if_icmp .ne 7, 3))) ∧ ((decode cX10_isRight 18 = .ok (.iconst 1, 1) ∧ decode cX10_isRight 19 = .ok (.goto 4, 3)) ∧ (decode cX10_isRight 22 = .ok (.iconst 0, 1) ∧ decode cX10_isRight 23 = .ok (.ireturn, 1))))) := ⟨by decide +kernel, by decide +kernel⟩
def X10_isRight_b23 (s : St) (k0 : Int) : Rs :=
  grd (k0 = 0 ∨ k0 = 1) (some (k0, s))
set_option maxRecDepth 100000 in
set_option maxHeartbeats 4000000 in
theorem X10_isRight_b23_s (G : Gx) (l : Launch) (s : St) (k0 : Int) : V G l mX10_isRight 23 [] [(0, k0)] s (X10_isRight_b23 s k0) := by
  unfold X10_isRight_b23
  exact V_zret rfl dec_X10_isRight.2.2.2.2
def X10_isRight (s : St) (a0 a1 a2 : Int) : Rs :=
  grd (isK s 20 a0) (bnd (X10_listener s a0 a1 a2) (fun r1 s2 => grd (isK s2 20 a0) (grd (isK s2 19 (gR s2 a0 0)) (grd (isK s2 1 (gR s2 (gR s2 a0 0) 8) ∧ 0 ≤ a1 ∧ a1 < ln s2 (gR s2 (gR s2 a0 0) 8)) (if ¬ r1 = (gI s2 (gR s2 (gR s2 a0 0) 8) a1.toNat) then (X10_isRight_b23 s2 0) else (X10_isRight_b23 s2 1))))))
set_option maxRecDepth 100000 in
set_option maxHeartbeats 4000000 in
theorem X10_isRight_s (G : Gx) (l : Launch) (s : St) (a0 a1 a2 : Int) : Snd G l mX10_isRight [(2, a0), (0, a1), (0, a2)] s (X10_isRight s a0 a1 a2) := by
  refine Snd.of (by decide +kernel) rfl ?_
  show V G l mX10_isRight 0 [(0, (2, a0)), (1, (0, a1)), (2, (0, a2))] [] s _
  unfold X10_isRight
  refine V_aload_n dec_X10_isRight.1.1.1 0 rfl ?_
  refine V_iload_n dec_X10_isRight.1.1.2.1 1 rfl ?_
  refine V_iload_n dec_X10_isRight.1.1.2.2 2 rfl ?_
  refine V_callV0 (ci := 10) (a := a0) (As := [(0, a1), (0, a2)]) (st := []) rfl rfl (X10_listener_s G l s a0 a1 a2) cal_X10_listener rfl ml_X10_83 rfl rfl dec_X10_isRight.1.2.1.1 (k_tag (tag := 0) rfl fun r1 s2 => ?_)
  refine V_aload_n dec_X10_isRight.1.2.1.2 0 rfl ?_
  refine V_getR 10 0 nf_10_0 ft_10_0 fl_X10_25 dec_X10_isRight.1.2.2.1 ?_
  refine V_getR 9 8 nf_9_8 ft_9_8 fl_X10_71 dec_X10_isRight.1.2.2.2 ?_
  refine V_iload_n dec_X10_isRight.2.1.1 1 rfl ?_
  refine V_iald dec_X10_isRight.2.1.2.1 ?_
  refine V_icmp_ne (tgt := 22) dec_X10_isRight.2.1.2.2 (by decide) ?_ ?_
  · refine V_iconst dec_X10_isRight.2.2.2.1 rfl ?_
    exact V_pick [] rfl (X10_isRight_b23_s G l s2 0)
  · refine V_iconst dec_X10_isRight.2.2.1.1 rfl ?_
    refine V_goto (tgt := 23) dec_X10_isRight.2.2.1.2 (by decide) ?_
    exact V_pick [] rfl (X10_isRight_b23_s G l s2 1)
theorem dec_X10_isRightWith : ((((decode cX10_isRightWith 0 = .ok (.aload_n 0, 1) ∧ decode cX10_isRightWith 1 = .ok (.getfield 21, 3)) ∧ (decode cX10_isRightWith 4 = .ok (.aload_n 0, 1) ∧ (decode cX10_isRightWith 5 = .ok (.iload_n 1, 1) ∧ decode cX10_isRightWith 6 = .ok (.aload_n 0, 1)))) ∧ ((decode cX10_isRightWith 7 = .ok (.iload_n 1, 1) ∧ (decode cX10_isRightWith 8 = .ok (.invokevirtual 74, 3) ∧ decode cX10_isRightWith 11 = .ok (.iload_n 2, 1))) ∧ (decode cX10_isRightWith 12 = .ok (.iload_n 3, 1) ∧ (decode cX10_isRightWith 13 = .ok (.iload 4, 2) ∧ decode cX10_isRightWith 15 = .ok (.invokevirtual 67, 3))))) ∧ (((decode cX10_isRightWith 18 = .ok (.invokevirtual 80, 3) ∧ decode cX10_isRightWith 21 = .ok (.aload_n 0, 1)) ∧ (decode cX10_isRightWith 22 = .ok (.getfield 25, 3) ∧ (decode cX10_isRightWith 25 = .ok (.getfield 71, 3) ∧ decode cX10_isRightWith 28 = .ok (.iload_n 1, 1)))) ∧ ((decode cX10_isRightWith 29 = .ok (.iaload, 1) ∧ (decode cX10_isRightWith 30 = .ok (.if_icmp .ne 7, 3) ∧ decode cX10_isRightWith 33 = .ok (.iconst 1, 1))) ∧ (decode cX10_isRightWith 34 = .ok (.goto 4, 3) ∧ (decode cX10_isRightWith 37 = .ok (.iconst 0, 1) ∧ decode cX10_isRightWith 38 = .ok (.ireturn, 1)))))) := ⟨by decide +kernel, by decide +kernel⟩
def X10_isRightWith_b38 (s : St) (k0 : Int) : Rs :=
  grd (k0 = 0 ∨ k0 = 1) (some (k0, s))
set_option maxRecDepth 100000 in
set_option maxHeartbeats 4000000 in
theorem X10_isRightWith_b38_s (G : Gx) (l : Launch) (s : St) (k0 : Int) : V G l mX10_isRightWith 38 [] [(0, k0)] s (X10_isRightWith_b38 s k0) := by
  unfold X10_isRightWith_b38
  exact V_zret rfl dec_X10_isRightWith.2.2.2.2.2
def X10_isRightWith (s : St) (a0 a1 a2 a3 a4 : Int) : Rs :=
  grd (isK s 20 a0) (grd (isK s 20 a0) (bnd (X10_aimOf s a0 a1) (fun r1 s2 => grd (isK s2 20 a0) (bnd (X10_landingWith s2 a0 a1 r1 a2 a3 a4) (fun r3 s4 => grd (isK s4 17 (gR s a0 2)) (bnd (X7_listenerAt s4 (gR s a0 2) r3) (fun r5 s6 => grd (isK s6 20 a0) (grd (isK s6 19 (gR s6 a0 0)) (grd (isK s6 1 (gR s6 (gR s6 a0 0) 8) ∧ 0 ≤ a1 ∧ a1 < ln s6 (gR s6 (gR s6 a0 0) 8)) (if ¬ r5 = (gI s6 (gR s6 (gR s6 a0 0) 8) a1.toNat) then (X10_isRightWith_b38 s6 0) else (X10_isRightWith_b38 s6 1)))))))))))
set_option maxRecDepth 100000 in
set_option maxHeartbeats 4000000 in
theorem X10_isRightWith_s (G : Gx) (l : Launch) (s : St) (a0 a1 a2 a3 a4 : Int) : Snd G l mX10_isRightWith [(2, a0), (0, a1), (0, a2), (0, a3), (0, a4)] s (X10_isRightWith s a0 a1 a2 a3 a4) := by
  refine Snd.of (by decide +kernel) rfl ?_
  show V G l mX10_isRightWith 0 [(0, (2, a0)), (1, (0, a1)), (2, (0, a2)), (3, (0, a3)), (4, (0, a4))] [] s _
  unfold X10_isRightWith
  refine V_aload_n dec_X10_isRightWith.1.1.1.1 0 rfl ?_
  refine V_getR 10 2 nf_10_2 ft_10_2 fl_X10_21 dec_X10_isRightWith.1.1.1.2 ?_
  refine V_aload_n dec_X10_isRightWith.1.1.2.1 0 rfl ?_
  refine V_iload_n dec_X10_isRightWith.1.1.2.2.1 1 rfl ?_
  refine V_aload_n dec_X10_isRightWith.1.1.2.2.2 0 rfl ?_
  refine V_iload_n dec_X10_isRightWith.1.2.1.1 1 rfl ?_
  refine V_callV0 (ci := 10) (a := a0) (As := [(0, a1)]) (st := [(0, a1), (2, a0), (2, (gR s a0 2))]) rfl rfl (X10_aimOf_s G l s a0 a1) cal_X10_aimOf rfl ml_X10_74 rfl rfl dec_X10_isRightWith.1.2.1.2.1 (k_tag (tag := 0) rfl fun r1 s2 => ?_)
  refine V_iload_n dec_X10_isRightWith.1.2.1.2.2 2 rfl ?_
  refine V_iload_n dec_X10_isRightWith.1.2.2.1 3 rfl ?_
  refine V_iload dec_X10_isRightWith.1.2.2.2.1 4 rfl ?_
  refine V_callV0 (ci := 10) (a := a0) (As := [(0, a1), (0, r1), (0, a2), (0, a3), (0, a4)]) (st := [(2, (gR s a0 2))]) rfl rfl (X10_landingWith_s G l s2 a0 a1 r1 a2 a3 a4) cal_X10_landingWith rfl ml_X10_67 rfl rfl dec_X10_isRightWith.1.2.2.2.2 (k_tag (tag := 0) rfl fun r3 s4 => ?_)
  refine V_callV0 (ci := 7) (a := (gR s a0 2)) (As := [(0, r3)]) (st := []) rfl rfl (X7_listenerAt_s G l s4 (gR s a0 2) r3) cal_X7_listenerAt rfl ml_X10_80 rfl rfl dec_X10_isRightWith.2.1.1.1 (k_tag (tag := 0) rfl fun r5 s6 => ?_)
  refine V_aload_n dec_X10_isRightWith.2.1.1.2 0 rfl ?_
  refine V_getR 10 0 nf_10_0 ft_10_0 fl_X10_25 dec_X10_isRightWith.2.1.2.1 ?_
  refine V_getR 9 8 nf_9_8 ft_9_8 fl_X10_71 dec_X10_isRightWith.2.1.2.2.1 ?_
  refine V_iload_n dec_X10_isRightWith.2.1.2.2.2 1 rfl ?_
  refine V_iald dec_X10_isRightWith.2.2.1.1 ?_
  refine V_icmp_ne (tgt := 37) dec_X10_isRightWith.2.2.1.2.1 (by decide) ?_ ?_
  · refine V_iconst dec_X10_isRightWith.2.2.2.2.1 rfl ?_
    exact V_pick [] rfl (X10_isRightWith_b38_s G l s6 0)
  · refine V_iconst dec_X10_isRightWith.2.2.1.2.2 rfl ?_
    refine V_goto (tgt := 38) dec_X10_isRightWith.2.2.2.1 (by decide) ?_
    exact V_pick [] rfl (X10_isRightWith_b38_s G l s6 1)
theorem dec_X10_landing : (((decode cX10_landing 0 = .ok (.aload_n 0, 1) ∧ decode cX10_landing 1 = .ok (.iload_n 1, 1)) ∧ (decode cX10_landing 2 = .ok (.aload_n 0, 1) ∧ decode cX10_landing 3 = .ok (.iload_n 1, 1))) ∧ ((decode cX10_landing 4 = .ok (.invokevirtual 74, 3) ∧ decode cX10_landing 7 = .ok (.iload_n 2, 1)) ∧ (decode cX10_landing 8 = .ok (.invokevirtual 77, 3) ∧ decode cX10_landing 11 = .ok (.ireturn, 1)))) := by decide +kernel
def X10_landing (s : St) (a0 a1 a2 : Int) : Rs :=
  grd (isK s 20 a0) (bnd (X10_aimOf s a0 a1) (fun r1 s2 => grd (isK s2 20 a0) (bnd (X10_landingAimed s2 a0 a1 r1 a2) (fun r3 s4 => some (r3, s4)))))
set_option maxRecDepth 100000 in
set_option maxHeartbeats 4000000 in
theorem X10_landing_s (G : Gx) (l : Launch) (s : St) (a0 a1 a2 : Int) : Snd G l mX10_landing [(2, a0), (0, a1), (0, a2)] s (X10_landing s a0 a1 a2) := by
  refine Snd.of (by decide +kernel) rfl ?_
  show V G l mX10_landing 0 [(0, (2, a0)), (1, (0, a1)), (2, (0, a2))] [] s _
  unfold X10_landing
  refine V_aload_n dec_X10_landing.1.1.1 0 rfl ?_
  refine V_iload_n dec_X10_landing.1.1.2 1 rfl ?_
  refine V_aload_n dec_X10_landing.1.2.1 0 rfl ?_
  refine V_iload_n dec_X10_landing.1.2.2 1 rfl ?_
  refine V_callV0 (ci := 10) (a := a0) (As := [(0, a1)]) (st := [(0, a1), (2, a0)]) rfl rfl (X10_aimOf_s G l s a0 a1) cal_X10_aimOf rfl ml_X10_74 rfl rfl dec_X10_landing.2.1.1 (k_tag (tag := 0) rfl fun r1 s2 => ?_)
  refine V_iload_n dec_X10_landing.2.1.2 2 rfl ?_
  refine V_callV0 (ci := 10) (a := a0) (As := [(0, a1), (0, r1), (0, a2)]) (st := []) rfl rfl (X10_landingAimed_s G l s2 a0 a1 r1 a2) cal_X10_landingAimed rfl ml_X10_77 rfl rfl dec_X10_landing.2.2.1 (k_tag (tag := 0) rfl fun r3 s4 => ?_)
  exact V_iret rfl dec_X10_landing.2.2.2
theorem dec_X10_listenerAimed : (((decode cX10_listenerAimed 0 = .ok (.aload_n 0, 1) ∧ decode cX10_listenerAimed 1 = .ok (.getfield 21, 3)) ∧ (decode cX10_listenerAimed 4 = .ok (.aload_n 0, 1) ∧ decode cX10_listenerAimed 5 = .ok (.iload_n 1, 1))) ∧ ((decode cX10_listenerAimed 6 = .ok (.iload_n 2, 1) ∧ decode cX10_listenerAimed 7 = .ok (.iload_n 3, 1)) ∧ (decode cX10_listenerAimed 8 = .ok (.invokevirtual 77, 3) ∧ (decode cX10_listenerAimed 11 = .ok (.invokevirtual 80, 3) ∧ decode cX10_listenerAimed 14 = .ok (.ireturn, 1))))) := by decide +kernel
def X10_listenerAimed (s : St) (a0 a1 a2 a3 : Int) : Rs :=
  grd (isK s 20 a0) (grd (isK s 20 a0) (bnd (X10_landingAimed s a0 a1 a2 a3) (fun r1 s2 => grd (isK s2 17 (gR s a0 2)) (bnd (X7_listenerAt s2 (gR s a0 2) r1) (fun r3 s4 => some (r3, s4))))))
set_option maxRecDepth 100000 in
set_option maxHeartbeats 4000000 in
theorem X10_listenerAimed_s (G : Gx) (l : Launch) (s : St) (a0 a1 a2 a3 : Int) : Snd G l mX10_listenerAimed [(2, a0), (0, a1), (0, a2), (0, a3)] s (X10_listenerAimed s a0 a1 a2 a3) := by
  refine Snd.of (by decide +kernel) rfl ?_
  show V G l mX10_listenerAimed 0 [(0, (2, a0)), (1, (0, a1)), (2, (0, a2)), (3, (0, a3))] [] s _
  unfold X10_listenerAimed
  refine V_aload_n dec_X10_listenerAimed.1.1.1 0 rfl ?_
  refine V_getR 10 2 nf_10_2 ft_10_2 fl_X10_21 dec_X10_listenerAimed.1.1.2 ?_
  refine V_aload_n dec_X10_listenerAimed.1.2.1 0 rfl ?_
  refine V_iload_n dec_X10_listenerAimed.1.2.2 1 rfl ?_
  refine V_iload_n dec_X10_listenerAimed.2.1.1 2 rfl ?_
  refine V_iload_n dec_X10_listenerAimed.2.1.2 3 rfl ?_
  refine V_callV0 (ci := 10) (a := a0) (As := [(0, a1), (0, a2), (0, a3)]) (st := [(2, (gR s a0 2))]) rfl rfl (X10_landingAimed_s G l s a0 a1 a2 a3) cal_X10_landingAimed rfl ml_X10_77 rfl rfl dec_X10_listenerAimed.2.2.1 (k_tag (tag := 0) rfl fun r1 s2 => ?_)
  refine V_callV0 (ci := 7) (a := (gR s a0 2)) (As := [(0, r1)]) (st := []) rfl rfl (X7_listenerAt_s G l s2 (gR s a0 2) r1) cal_X7_listenerAt rfl ml_X10_80 rfl rfl dec_X10_listenerAimed.2.2.2.1 (k_tag (tag := 0) rfl fun r3 s4 => ?_)
  exact V_iret rfl dec_X10_listenerAimed.2.2.2.2
theorem dec_X10_listenerFurtherOn : ((((decode cX10_listenerFurtherOn 0 = .ok (.aload_n 0, 1) ∧ decode cX10_listenerFurtherOn 1 = .ok (.getfield 21, 3)) ∧ (decode cX10_listenerFurtherOn 4 = .ok (.aload_n 0, 1) ∧ decode cX10_listenerFurtherOn 5 = .ok (.getfield 25, 3))) ∧ ((decode cX10_listenerFurtherOn 8 = .ok (.aload_n 0, 1) ∧ decode cX10_listenerFurtherOn 9 = .ok (.iload_n 1, 1)) ∧ (decode cX10_listenerFurtherOn 10 = .ok (.aload_n 0, 1) ∧ decode cX10_listenerFurtherOn 11 = .ok (.iload_n 1, 1)))) ∧ (((decode cX10_listenerFurtherOn 12 = .ok (.invokevirtual 74, 3) ∧ decode cX10_listenerFurtherOn 15 = .ok (.iload_n 2, 1)) ∧ (decode cX10_listenerFurtherOn 16 = .ok (.invokevirtual 77, 3) ∧ decode cX10_listenerFurtherOn 19 = .ok (.iconst 1, 1))) ∧ ((decode cX10_listenerFurtherOn 20 = .ok (.iadd, 1) ∧ decode cX10_listenerFurtherOn 21 = .ok (.invokevirtual 57, 3)) ∧ (decode cX10_listenerFurtherOn 24 = .ok (.invokevirtual 80, 3) ∧ decode cX10_listenerFurtherOn 27 = .ok (.ireturn, 1))))) := ⟨by decide +kernel, by decide +kernel⟩
def X10_listenerFurtherOn (s : St) (a0 a1 a2 : Int) : Rs :=
  grd (isK s 20 a0) (grd (isK s 20 a0) (grd (isK s 20 a0) (bnd (X10_aimOf s a0 a1) (fun r1 s2 => grd (isK s2 20 a0) (bnd (X10_landingAimed s2 a0 a1 r1 a2) (fun r3 s4 => grd (isK s4 19 (gR s a0 0)) (bnd (X9_around s4 (gR s a0 0) (w32 (r3 + 1))) (fun r5 s6 => grd (isK s6 17 (gR s a0 2)) (bnd (X7_listenerAt s6 (gR s a0 2) r5) (fun r7 s8 => some (r7, s8)))))))))))
set_option maxRecDepth 100000 in
set_option maxHeartbeats 4000000 in
theorem X10_listenerFurtherOn_s (G : Gx) (l : Launch) (s : St) (a0 a1 a2 : Int) : Snd G l mX10_listenerFurtherOn [(2, a0), (0, a1), (0, a2)] s (X10_listenerFurtherOn s a0 a1 a2) := by
  refine Snd.of (by decide +kernel) rfl ?_
  show V G l mX10_listenerFurtherOn 0 [(0, (2, a0)), (1, (0, a1)), (2, (0, a2))] [] s _
  unfold X10_listenerFurtherOn
  refine V_aload_n dec_X10_listenerFurtherOn.1.1.1.1 0 rfl ?_
  refine V_getR 10 2 nf_10_2 ft_10_2 fl_X10_21 dec_X10_listenerFurtherOn.1.1.1.2 ?_
  refine V_aload_n dec_X10_listenerFurtherOn.1.1.2.1 0 rfl ?_
  refine V_getR 10 0 nf_10_0 ft_10_0 fl_X10_25 dec_X10_listenerFurtherOn.1.1.2.2 ?_
  refine V_aload_n dec_X10_listenerFurtherOn.1.2.1.1 0 rfl ?_
  refine V_iload_n dec_X10_listenerFurtherOn.1.2.1.2 1 rfl ?_
  refine V_aload_n dec_X10_listenerFurtherOn.1.2.2.1 0 rfl ?_
  refine V_iload_n dec_X10_listenerFurtherOn.1.2.2.2 1 rfl ?_
  refine V_callV0 (ci := 10) (a := a0) (As := [(0, a1)]) (st := [(0, a1), (2, a0), (2, (gR s a0 0)), (2, (gR s a0 2))]) rfl rfl (X10_aimOf_s G l s a0 a1) cal_X10_aimOf rfl ml_X10_74 rfl rfl dec_X10_listenerFurtherOn.2.1.1.1 (k_tag (tag := 0) rfl fun r1 s2 => ?_)
  refine V_iload_n dec_X10_listenerFurtherOn.2.1.1.2 2 rfl ?_
  refine V_callV0 (ci := 10) (a := a0) (As := [(0, a1), (0, r1), (0, a2)]) (st := [(2, (gR s a0 0)), (2, (gR s a0 2))]) rfl rfl (X10_landingAimed_s G l s2 a0 a1 r1 a2) cal_X10_landingAimed rfl ml_X10_77 rfl rfl dec_X10_listenerFurtherOn.2.1.2.1 (k_tag (tag := 0) rfl fun r3 s4 => ?_)
  refine V_iconst dec_X10_listenerFurtherOn.2.1.2.2 rfl ?_
  refine V_iadd dec_X10_listenerFurtherOn.2.2.1.1 ?_
  refine V_callV0 (ci := 9) (a := (gR s a0 0)) (As := [(0, (w32 (r3 + 1)))]) (st := [(2, (gR s a0 2))]) rfl rfl (X9_around_s G l s4 (gR s a0 0) (w32 (r3 + 1))) cal_X9_around rfl ml_X10_57 rfl rfl dec_X10_listenerFurtherOn.2.2.1.2 (k_tag (tag := 0) rfl fun r5 s6 => ?_)
  refine V_callV0 (ci := 7) (a := (gR s a0 2)) (As := [(0, r5)]) (st := []) rfl rfl (X7_listenerAt_s G l s6 (gR s a0 2) r5) cal_X7_listenerAt rfl ml_X10_80 rfl rfl dec_X10_listenerFurtherOn.2.2.2.1 (k_tag (tag := 0) rfl fun r7 s8 => ?_)
  exact V_iret rfl dec_X10_listenerFurtherOn.2.2.2.2
theorem dec_X10_mirrorCount : ((((decode cX10_mirrorCount 0 = .ok (.iconst 0, 1) ∧ decode cX10_mirrorCount 1 = .ok (.istore_n 1, 1)) ∧ (decode cX10_mirrorCount 2 = .ok (.iconst 0, 1) ∧ (decode cX10_mirrorCount 3 = .ok (.istore_n 2, 1) ∧ decode cX10_mirrorCount 4 = .ok (.iload_n 2, 1)))) ∧ ((decode cX10_mirrorCount 5 = .ok (.aload_n 0, 1) ∧ decode cX10_mirrorCount 6 = .ok (.getfield 25, 3)) ∧ (decode cX10_mirrorCount 9 = .ok (.getfield 91, 3) ∧ (decode cX10_mirrorCount 12 = .ok (.if_icmp .ge 24, 3) ∧ decode cX10_mirrorCount 15 = .ok (.aload_n 0, 1))))) ∧ (((decode cX10_mirrorCount 16 = .ok (.getfield 12, 3) ∧ decode cX10_mirrorCount 19 = .ok (.getfield 64, 3)) ∧ (decode cX10_mirrorCount 22 = .ok (.iload_n 2, 1) ∧ (decode cX10_mirrorCount 23 = .ok (.iaload, 1) ∧ decode cX10_mirrorCount 24 = .ok (.ifCond .lt 6, 3)))) ∧ ((decode cX10_mirrorCount 27 = .ok (.iinc 1 1, 3) ∧ decode cX10_mirrorCount 30 = .ok (.iinc 2 1, 3)) ∧ (decode cX10_mirrorCount 33 = .ok (.goto (-29), 3) ∧ (decode cX10_mirrorCount 36 = .ok (.iload_n 1, 1) ∧ decode cX10_mirrorCount 37 = .ok (.ireturn, 1)))))) := ⟨by decide +kernel, by decide +kernel⟩
def X10_mirrorCount_b30 (rk4 : St → Int → Int → Int → Rs) (s : St) (x0 x1 x2 : Int) : Rs :=
  rk4 s x0 x1 (w32 (x2 + 1))
set_option maxRecDepth 100000 in
set_option maxHeartbeats 4000000 in
theorem X10_mirrorCount_b30_s (G : Gx) (l : Launch) (rk4 : St → Int → Int → Int → Rs) (hk4 : ∀ (s : St) (x0 x1 x2 : Int), V G l mX10_mirrorCount 4 [(0, (2, x0)), (1, (0, x1)), (2, (0, x2))] [] s (rk4 s x0 x1 x2)) (s : St) (x0 x1 x2 : Int) : V G l mX10_mirrorCount 30 [(0, (2, x0)), (1, (0, x1)), (2, (0, x2))] [] s (X10_mirrorCount_b30 rk4 s x0 x1 x2) := by
  unfold X10_mirrorCount_b30
  refine V_iinc (lv' := [(2, (0, (w32 (x2 + 1)))), (0, (2, x0)), (1, (0, x1))]) dec_X10_mirrorCount.2.2.1.2 2 rfl (by decide) rfl ?_
  refine V_goto (tgt := 4) dec_X10_mirrorCount.2.2.2.1 (by decide) ?_
  exact V_pick [1, 2, 0] rfl (hk4 s x0 x1 (w32 (x2 + 1)))
def X10_mirrorCount_b4_body (rk4 : St → Int → Int → Int → Rs) (s : St) (x0 x1 x2 : Int) : Rs :=
  grd (isK s 20 x0) (grd (isK s 19 (gR s x0 0)) (if (gI s (gR s x0 0) 3) ≤ x2 then (some (x1, s)) else (grd (isK s 20 x0) (grd (isK s 16 (gR s x0 1)) (grd (isK s 1 (gR s (gR s x0 1) 3) ∧ 0 ≤ x2 ∧ x2 < ln s (gR s (gR s x0 1) 3)) (if (gI s (gR s (gR s x0 1) 3) x2.toNat) < 0 then (X10_mirrorCount_b30 rk4 s x0 x1 x2) else (X10_mirrorCount_b30 rk4 s x0 (w32 (x1 + 1)) x2)))))))
def X10_mirrorCount_b4 (n : Nat) (s : St) (x0 x1 x2 : Int) : Rs := iter (fun (rec : St × Int × Int × Int → Rs) (a : St × Int × Int × Int) => X10_mirrorCount_b4_body (fun (s : St) (x0 x1 x2 : Int) => rec (s, x0, x1, x2)) a.1 a.2.1 a.2.2.1 a.2.2.2) n (s, x0, x1, x2)
theorem X10_mirrorCount_b4_0 (s : St) (x0 x1 x2 : Int) : X10_mirrorCount_b4 0 s x0 x1 x2 = none := rfl
theorem X10_mirrorCount_b4_1 (n : Nat) (s : St) (x0 x1 x2 : Int) : X10_mirrorCount_b4 (n + 1) s x0 x1 x2 = X10_mirrorCount_b4_body (X10_mirrorCount_b4 n) s x0 x1 x2 := rfl
set_option maxRecDepth 100000 in
set_option maxHeartbeats 4000000 in
theorem X10_mirrorCount_b4_body_s (G : Gx) (l : Launch) (rk4 : St → Int → Int → Int → Rs) (hk4 : ∀ (s : St) (x0 x1 x2 : Int), V G l mX10_mirrorCount 4 [(0, (2, x0)), (1, (0, x1)), (2, (0, x2))] [] s (rk4 s x0 x1 x2)) (s : St) (x0 x1 x2 : Int) : V G l mX10_mirrorCount 4 [(0, (2, x0)), (1, (0, x1)), (2, (0, x2))] [] s (X10_mirrorCount_b4_body rk4 s x0 x1 x2) := by
  unfold X10_mirrorCount_b4_body
  refine V_iload_n dec_X10_mirrorCount.1.1.2.2.2 2 rfl ?_
  refine V_aload_n dec_X10_mirrorCount.1.2.1.1 0 rfl ?_
  refine V_getR 10 0 nf_10_0 ft_10_0 fl_X10_25 dec_X10_mirrorCount.1.2.1.2 ?_
  refine V_getI 9 3 nf_9_3 ft_9_3 fl_X10_91 dec_X10_mirrorCount.1.2.2.1 ?_
  refine V_icmp_ge (tgt := 36) dec_X10_mirrorCount.1.2.2.2.1 (by decide) ?_ ?_
  · refine V_iload_n dec_X10_mirrorCount.2.2.2.2.1 1 rfl ?_
    exact V_iret rfl dec_X10_mirrorCount.2.2.2.2.2
  · refine V_aload_n dec_X10_mirrorCount.1.2.2.2.2 0 rfl ?_
    refine V_getR 10 1 nf_10_1 ft_10_1 fl_X10_12 dec_X10_mirrorCount.2.1.1.1 ?_
    refine V_getR 6 3 nf_6_3 ft_6_3 fl_X10_64 dec_X10_mirrorCount.2.1.1.2 ?_
    refine V_iload_n dec_X10_mirrorCount.2.1.2.1 2 rfl ?_
    refine V_iald dec_X10_mirrorCount.2.1.2.2.1 ?_
    refine V_if_lt (tgt := 30) dec_X10_mirrorCount.2.1.2.2.2 (by decide) ?_ ?_
    · exact V_pick [0, 1, 2] rfl (X10_mirrorCount_b30_s G l rk4 hk4 s x0 x1 x2)
    · refine V_iinc (lv' := [(1, (0, (w32 (x1 + 1)))), (0, (2, x0)), (2, (0, x2))]) dec_X10_mirrorCount.2.2.1.1 1 rfl (by decide) rfl ?_
      exact V_pick [1, 0, 2] rfl (X10_mirrorCount_b30_s G l rk4 hk4 s x0 (w32 (x1 + 1)) x2)
theorem X10_mirrorCount_b4_s (G : Gx) (l : Launch) (n : Nat) (s : St) (x0 x1 x2 : Int) : V G l mX10_mirrorCount 4 [(0, (2, x0)), (1, (0, x1)), (2, (0, x2))] [] s (X10_mirrorCount_b4 n s x0 x1 x2) :=
  V_iter (LV := fun a : St × Int × Int × Int => [(0, (2, a.2.1)), (1, (0, a.2.2.1)), (2, (0, a.2.2.2))]) (ST := fun a : St × Int × Int × Int => []) (SS := fun a : St × Int × Int × Int => a.1) (fun rec hrec a => X10_mirrorCount_b4_body_s G l (fun (s : St) (x0 x1 x2 : Int) => rec (s, x0, x1, x2)) (fun (s : St) (x0 x1 x2 : Int) => hrec (s, x0, x1, x2)) a.1 a.2.1 a.2.2.1 a.2.2.2) n (s, x0, x1, x2)
def X10_mirrorCount (s : St) (a0 : Int) : Rs :=
  X10_mirrorCount_b4 FU s a0 0 0
set_option maxRecDepth 100000 in
set_option maxHeartbeats 4000000 in
theorem X10_mirrorCount_s (G : Gx) (l : Launch) (s : St) (a0 : Int) : Snd G l mX10_mirrorCount [(2, a0)] s (X10_mirrorCount s a0) := by
  refine Snd.of (by decide +kernel) rfl ?_
  show V G l mX10_mirrorCount 0 [(0, (2, a0))] [] s _
  unfold X10_mirrorCount
  refine V_iconst dec_X10_mirrorCount.1.1.1.1 rfl ?_
  refine V_istore_n (lv' := [(1, (0, 0)), (0, (2, a0))]) dec_X10_mirrorCount.1.1.1.2 (by decide) rfl ?_
  refine V_iconst dec_X10_mirrorCount.1.1.2.1 rfl ?_
  refine V_istore_n (lv' := [(2, (0, 0)), (1, (0, 0)), (0, (2, a0))]) dec_X10_mirrorCount.1.1.2.2.1 (by decide) rfl ?_
  exact V_pick [2, 1, 0] rfl (X10_mirrorCount_b4_s G l FU s a0 0 0)
theorem dec_X7_lay : ((((((decode cX7_lay 0 = .ok (.aload_n 0, 1) ∧ decode cX7_lay 1 = .ok (.iload_n 1, 1)) ∧ (decode cX7_lay 2 = .ok (.bipush 40, 2) ∧ (decode cX7_lay 4 = .ok (.invokestatic 18, 3) ∧ decode cX7_lay 7 = .ok (.putfield 24, 3)))) ∧ ((decode cX7_lay 10 = .ok (.iconst 0, 1) ∧ decode cX7_lay 11 = .ok (.istore 4, 2)) ∧ (decode cX7_lay 13 = .ok (.iload 4, 2) ∧ (decode cX7_lay 15 = .ok (.aload_n 0, 1) ∧ decode cX7_lay 16 = .ok (.getfield 24, 3))))) ∧ (((decode cX7_lay 19 = .ok (.if_icmp .ge 18, 3) ∧ decode cX7_lay 22 = .ok (.aload_n 0, 1)) ∧ (decode cX7_lay 23 = .ok (.getfield 9, 3) ∧ (decode cX7_lay 26 = .ok (.iload 4, 2) ∧ decode cX7_lay 28 = .ok (.bipush (-2), 2)))) ∧ ((decode cX7_lay 30 = .ok (.iastore, 1) ∧ (decode cX7_lay 31 = .ok (.iinc 4 1, 3) ∧ decode cX7_lay 34 = .ok (.goto (-21), 3))) ∧ (decode cX7_lay 37 = .ok (.iconst 0, 1) ∧ (decode cX7_lay 38 = .ok (.istore 4, 2) ∧ decode cX7_lay 40 = .ok (.iload 4, 2)))))) ∧ ((((decode cX7_lay 42 = .ok (.iload_n 3, 1) ∧ decode cX7_lay 43 = .ok (.if_icmp .ge 38, 3)) ∧ (decode cX7_lay 46 = .ok (.iload 4, 2) ∧ (decode cX7_lay 48 = .ok (.aload_n 2, 1) ∧ decode cX7_lay 49 = .ok (.arraylength, 1)))) ∧ ((decode cX7_lay 50 = .ok (.if_icmp .ge 31, 3) ∧ decode cX7_lay 53 = .ok (.aload_n 0, 1)) ∧ (decode cX7_lay 54 = .ok (.aload_n 2, 1) ∧ (decode cX7_lay 55 = .ok (.iload 4, 2) ∧ decode cX7_lay 57 = .ok (.iaload, 1))))) ∧ (((decode cX7_lay 58 = .ok (.invokevirtual 28, 3) ∧ decode cX7_lay 61 = .ok (.ifCond .eq 14, 3)) ∧ (decode cX7_lay 64 = .ok (.aload_n 0, 1) ∧ (decode cX7_lay 65 = .ok (.getfield 9, 3) ∧ decode cX7_lay 68 = .ok (.aload_n 2, 1)))) ∧ ((decode cX7_lay 69 = .ok (.iload 4, 2) ∧ (decode cX7_lay 71 = .ok (.iaload, 1) ∧ decode cX7_lay 72 = .ok (.iload 4, 2))) ∧ (decode cX7_lay 74 = .ok (.iastore, 1) ∧ (decode cX7_lay 75 = .ok (.iinc 4 1, 3) ∧ decode cX7_lay 78 = .ok (.goto (-38), 3))))))) ∧ (((((decode cX7_lay 81 = .ok (.bipush (-2), 2) ∧ decode cX7_lay 83 = .ok (.istore 4, 2)) ∧ (decode cX7_lay 85 = .ok (.iconst 2, 1) ∧ (decode cX7_lay 86 = .ok (.aload_n 0, 1) ∧ decode cX7_lay 87 = .ok (.getfield 24, 3)))) ∧ ((decode cX7_lay 90 = .ok (.imul, 1) ∧ decode cX7_lay 91 = .ok (.iconst 1, 1)) ∧ (decode cX7_lay 92 = .ok (.isub, 1) ∧ (decode cX7_lay 93 = .ok (.istore 5, 2) ∧ decode cX7_lay 95 = .ok (.iload 5, 2))))) ∧ (((decode cX7_lay 97 = .ok (.ifCond .lt 67, 3) ∧ decode cX7_lay 100 = .ok (.iload 5, 2)) ∧ (decode cX7_lay 102 = .ok (.aload_n 0, 1) ∧ (decode cX7_lay 103 = .ok (.getfield 24, 3) ∧ decode cX7_lay 106 = .ok (.if_icmp .ge 8, 3)))) ∧ ((decode cX7_lay 109 = .ok (.iload 5, 2) ∧ (decode cX7_lay 111 = .ok (.goto 10, 3) ∧ decode cX7_lay 114 = .ok (.iload 5, 2))) ∧ (decode cX7_lay 116 = .ok (.aload_n 0, 1) ∧ (decode cX7_lay 117 = .ok (.getfield 24, 3) ∧ decode cX7_lay 120 = .ok (.isub, 1)))))) ∧ ((((decode cX7_lay 121 = .ok (.istore 6, 2) ∧ decode cX7_lay 123 = .ok (.aload_n 0, 1)) ∧ (decode cX7_lay 124 = .ok (.getfield 9, 3) ∧ (decode cX7_lay 127 = .ok (.iload 6, 2) ∧ decode cX7_lay 129 = .ok (.iaload, 1)))) ∧ ((decode cX7_lay 130 = .ok (.bipush (-2), 2) ∧ (decode cX7_lay 132 = .ok (.if_icmp .ne 8, 3) ∧ decode cX7_lay 135 = .ok (.iload 4, 2))) ∧ (decode cX7_lay 137 = .ok (.goto 10, 3) ∧ (decode cX7_lay 140 = .ok (.aload_n 0, 1) ∧ decode cX7_lay 141 = .ok (.getfield 9, 3))))) ∧ (((decode cX7_lay 144 = .ok (.iload 6, 2) ∧ decode cX7_lay 146 = .ok (.iaload, 1)) ∧ (decode cX7_lay 147 = .ok (.istore 4, 2) ∧ (decode cX7_lay 149 = .ok (.aload_n 0, 1) ∧ decode cX7_lay 150 = .ok (.getfield 15, 3)))) ∧ ((decode cX7_lay 153 = .ok (.iload 6, 2) ∧ (decode cX7_lay 155 = .ok (.iload 4, 2) ∧ decode cX7_lay 157 = .ok (.iastore, 1))) ∧ (decode cX7_lay 158 = .ok (.iinc 5 (-1), 3) ∧ (decode cX7_lay 161 = .ok (.goto (-66), 3) ∧ decode cX7_lay 164 = .ok (.return_, 1)))))))) := ⟨⟨⟨by decide +kernel, by decide +kernel⟩, ⟨by decide +kernel, by decide +kernel⟩⟩, ⟨⟨by decide +kernel, by decide +kernel⟩, ⟨by decide +kernel, by decide +kernel⟩⟩⟩
def X7_lay_b147 (rk95 : St → Int → Int → Int → Rs) (s : St) (x0 x5 x6 k0 : Int) : Rs :=
  grd (isK s 17 x0) (grd (isK s 1 (gR s x0 1) ∧ 0 ≤ x6 ∧ x6 < ln s (gR s x0 1)) (lets (pI s (gR s x0 1) x6.toNat k0) (fun s5 => rk95 s5 x0 k0 (w32 (x5 + (-1))))))
set_option maxRecDepth 100000 in
set_option maxHeartbeats 4000000 in
theorem X7_lay_b147_s (G : Gx) (l : Launch) (rk95 : St → Int → Int → Int → Rs) (hk95 : ∀ (s : St) (x0 x4 x5 : Int), V G l mX7_lay 95 [(0, (2, x0)), (4, (0, x4)), (5, (0, x5))] [] s (rk95 s x0 x4 x5)) (s : St) (x0 x5 x6 k0 : Int) : V G l mX7_lay 147 [(0, (2, x0)), (5, (0, x5)), (6, (0, x6))] [(0, k0)] s (X7_lay_b147 rk95 s x0 x5 x6 k0) := by
  unfold X7_lay_b147
  refine V_istore (lv' := [(4, (0, k0)), (0, (2, x0)), (5, (0, x5)), (6, (0, x6))]) dec_X7_lay.2.2.2.1.2.1 (by decide) rfl ?_
  refine V_aload_n dec_X7_lay.2.2.2.1.2.2.1 1 rfl ?_
  refine V_getR 7 1 nf_7_1 ft_7_1 fl_X7_15 dec_X7_lay.2.2.2.1.2.2.2 ?_
  refine V_iload dec_X7_lay.2.2.2.2.1.1 3 rfl ?_
  refine V_iload dec_X7_lay.2.2.2.2.1.2.1 0 rfl ?_
  refine V_iast dec_X7_lay.2.2.2.2.1.2.2 ?_
  refine V_lets fun s5 => ?_
  refine V_iinc (lv' := [(5, (0, (w32 (x5 + (-1))))), (4, (0, k0)), (0, (2, x0)), (6, (0, x6))]) dec_X7_lay.2.2.2.2.2.1 2 rfl (by decide) rfl ?_
  refine V_goto (tgt := 95) dec_X7_lay.2.2.2.2.2.2.1 (by decide) ?_
  exact V_pick [2, 1, 0] rfl (hk95 s5 x0 k0 (w32 (x5 + (-1))))
def X7_lay_b121 (rk95 : St → Int → Int → Int → Rs) (s : St) (x0 x4 x5 k0 : Int) : Rs :=
  grd (isK s 17 x0) (grd (isK s 1 (gR s x0 0) ∧ 0 ≤ k0 ∧ k0 < ln s (gR s x0 0)) (if ¬ (gI s (gR s x0 0) k0.toNat) = ((-2) : Int) then (grd (isK s 17 x0) (grd (isK s 1 (gR s x0 0) ∧ 0 ≤ k0 ∧ k0 < ln s (gR s x0 0)) (X7_lay_b147 rk95 s x0 x5 k0 (gI s (gR s x0 0) k0.toNat)))) else (X7_lay_b147 rk95 s x0 x5 k0 x4)))
set_option maxRecDepth 100000 in
set_option maxHeartbeats 4000000 in
theorem X7_lay_b121_s (G : Gx) (l : Launch) (rk95 : St → Int → Int → Int → Rs) (hk95 : ∀ (s : St) (x0 x4 x5 : Int), V G l mX7_lay 95 [(0, (2, x0)), (4, (0, x4)), (5, (0, x5))] [] s (rk95 s x0 x4 x5)) (s : St) (x0 x4 x5 k0 : Int) : V G l mX7_lay 121 [(0, (2, x0)), (4, (0, x4)), (5, (0, x5))] [(0, k0)] s (X7_lay_b121 rk95 s x0 x4 x5 k0) := by
  unfold X7_lay_b121
  refine V_istore (lv' := [(6, (0, k0)), (0, (2, x0)), (4, (0, x4)), (5, (0, x5))]) dec_X7_lay.2.2.1.1.1.1 (by decide) rfl ?_
  refine V_aload_n dec_X7_lay.2.2.1.1.1.2 1 rfl ?_
  refine V_getR 7 0 nf_7_0 ft_7_0 fl_X7_9 dec_X7_lay.2.2.1.1.2.1 ?_
  refine V_iload dec_X7_lay.2.2.1.1.2.2.1 0 rfl ?_
  refine V_iald dec_X7_lay.2.2.1.1.2.2.2 ?_
  refine V_bipush dec_X7_lay.2.2.1.2.1.1 rfl ?_
  refine V_icmp_ne (tgt := 140) dec_X7_lay.2.2.1.2.1.2.1 (by decide) ?_ ?_
  · refine V_aload_n dec_X7_lay.2.2.1.2.2.2.1 1 rfl ?_
    refine V_getR 7 0 nf_7_0 ft_7_0 fl_X7_9 dec_X7_lay.2.2.1.2.2.2.2 ?_
    refine V_iload dec_X7_lay.2.2.2.1.1.1 0 rfl ?_
    refine V_iald dec_X7_lay.2.2.2.1.1.2 ?_
    exact V_pick [1, 3, 0] rfl (X7_lay_b147_s G l rk95 hk95 s x0 x5 k0 (gI s (gR s x0 0) k0.toNat))
  · refine V_iload dec_X7_lay.2.2.1.2.1.2.2 2 rfl ?_
    refine V_goto (tgt := 147) dec_X7_lay.2.2.1.2.2.1 (by decide) ?_
    exact V_pick [1, 3, 0] rfl (X7_lay_b147_s G l rk95 hk95 s x0 x5 k0 x4)
def X7_lay_b95_body (rk95 : St → Int → Int → Int → Rs) (s : St) (x0 x4 x5 : Int) : Rs :=
  if x5 < 0 then (some (0, s)) else (grd (isK s 17 x0) (if (gI s x0 2) ≤ x5 then (grd (isK s 17 x0) (X7_lay_b121 rk95 s x0 x4 x5 (w32 (x5 - (gI s x0 2))))) else (X7_lay_b121 rk95 s x0 x4 x5 x5)))
def X7_lay_b95 (n : Nat) (s : St) (x0 x4 x5 : Int) : Rs := iter (fun (rec : St × Int × Int × Int → Rs) (a : St × Int × Int × Int) => X7_lay_b95_body (fun (s : St) (x0 x4 x5 : Int) => rec (s, x0, x4, x5)) a.1 a.2.1 a.2.2.1 a.2.2.2) n (s, x0, x4, x5)
theorem X7_lay_b95_0 (s : St) (x0 x4 x5 : Int) : X7_lay_b95 0 s x0 x4 x5 = none := rfl
theorem X7_lay_b95_1 (n : Nat) (s : St) (x0 x4 x5 : Int) : X7_lay_b95 (n + 1) s x0 x4 x5 = X7_lay_b95_body (X7_lay_b95 n) s x0 x4 x5 := rfl
set_option maxRecDepth 100000 in
set_option maxHeartbeats 4000000 in
theorem X7_lay_b95_body_s (G : Gx) (l : Launch) (rk95 : St → Int → Int → Int → Rs) (hk95 : ∀ (s : St) (x0 x4 x5 : Int), V G l mX7_lay 95 [(0, (2, x0)), (4, (0, x4)), (5, (0, x5))] [] s (rk95 s x0 x4 x5)) (s : St) (x0 x4 x5 : Int) : V G l mX7_lay 95 [(0, (2, x0)), (4, (0, x4)), (5, (0, x5))] [] s (X7_lay_b95_body rk95 s x0 x4 x5) := by
  unfold X7_lay_b95_body
  refine V_iload dec_X7_lay.2.1.1.2.2.2.2 2 rfl ?_
  refine V_if_lt (tgt := 164) dec_X7_lay.2.1.2.1.1.1 (by decide) ?_ ?_
  · exact V_vret rfl dec_X7_lay.2.2.2.2.2.2.2
  · refine V_iload dec_X7_lay.2.1.2.1.1.2 2 rfl ?_
    refine V_aload_n dec_X7_lay.2.1.2.1.2.1 0 rfl ?_
    refine V_getI 7 2 nf_7_2 ft_7_2 fl_X7_24 dec_X7_lay.2.1.2.1.2.2.1 ?_
    refine V_icmp_ge (tgt := 114) dec_X7_lay.2.1.2.1.2.2.2 (by decide) ?_ ?_
    · refine V_iload dec_X7_lay.2.1.2.2.1.2.2 2 rfl ?_
      refine V_aload_n dec_X7_lay.2.1.2.2.2.1 0 rfl ?_
      refine V_getI 7 2 nf_7_2 ft_7_2 fl_X7_24 dec_X7_lay.2.1.2.2.2.2.1 ?_
      refine V_isub dec_X7_lay.2.1.2.2.2.2.2 ?_
      exact V_pick [0, 1, 2] rfl (X7_lay_b121_s G l rk95 hk95 s x0 x4 x5 (w32 (x5 - (gI s x0 2))))
    · refine V_iload dec_X7_lay.2.1.2.2.1.1 2 rfl ?_
      refine V_goto (tgt := 121) dec_X7_lay.2.1.2.2.1.2.1 (by decide) ?_
      exact V_pick [0, 1, 2] rfl (X7_lay_b121_s G l rk95 hk95 s x0 x4 x5 x5)
theorem X7_lay_b95_s (G : Gx) (l : Launch) (n : Nat) (s : St) (x0 x4 x5 : Int) : V G l mX7_lay 95 [(0, (2, x0)), (4, (0, x4)), (5, (0, x5))] [] s (X7_lay_b95 n s x0 x4 x5) :=
  V_iter (LV := fun a : St × Int × Int × Int => [(0, (2, a.2.1)), (4, (0, a.2.2.1)), (5, (0, a.2.2.2))]) (ST := fun a : St × Int × Int × Int => []) (SS := fun a : St × Int × Int × Int => a.1) (fun rec hrec a => X7_lay_b95_body_s G l (fun (s : St) (x0 x4 x5 : Int) => rec (s, x0, x4, x5)) (fun (s : St) (x0 x4 x5 : Int) => hrec (s, x0, x4, x5)) a.1 a.2.1 a.2.2.1 a.2.2.2) n (s, x0, x4, x5)
def X7_lay_b81 (s : St) (x0 : Int) : Rs :=
  grd (isK s 17 x0) (letv (w32 ((w32 (2 * (gI s x0 2))) - 1)) (fun y4 => X7_lay_b95 FU s x0 (-2) y4))
set_option maxRecDepth 100000 in
set_option maxHeartbeats 4000000 in
theorem X7_lay_b81_s (G : Gx) (l : Launch) (s : St) (x0 : Int) : V G l mX7_lay 81 [(0, (2, x0))] [] s (X7_lay_b81 s x0) := by
  unfold X7_lay_b81
  refine V_bipush dec_X7_lay.2.1.1.1.1.1 rfl ?_
  refine V_istore (lv' := [(4, (0, (-2))), (0, (2, x0))]) dec_X7_lay.2.1.1.1.1.2 (by decide) rfl ?_
  refine V_iconst dec_X7_lay.2.1.1.1.2.1 rfl ?_
  refine V_aload_n dec_X7_lay.2.1.1.1.2.2.1 1 rfl ?_
  refine V_getI 7 2 nf_7_2 ft_7_2 fl_X7_24 dec_X7_lay.2.1.1.1.2.2.2 ?_
  refine V_imul dec_X7_lay.2.1.1.2.1.1 ?_
  refine V_iconst dec_X7_lay.2.1.1.2.1.2 rfl ?_
  refine V_isub dec_X7_lay.2.1.1.2.2.1 ?_
  refine V_letv fun y4 => ?_
  refine V_istore (lv' := [(5, (0, y4)), (4, (0, (-2))), (0, (2, x0))]) dec_X7_lay.2.1.1.2.2.2.1 (by decide) rfl ?_
  exact V_pick [2, 1, 0] rfl (X7_lay_b95_s G l FU s x0 (-2) y4)
def X7_lay_b75 (rk40 : St → Int → Int → Int → Int → Rs) (s : St) (x0 x2 x3 x4 : Int) : Rs :=
  rk40 s x0 x2 x3 (w32 (x4 + 1))
set_option maxRecDepth 100000 in
set_option maxHeartbeats 4000000 in
theorem X7_lay_b75_s (G : Gx) (l : Launch) (rk40 : St → Int → Int → Int → Int → Rs) (hk40 : ∀ (s : St) (x0 x2 x3 x4 : Int), V G l mX7_lay 40 [(0, (2, x0)), (2, (2, x2)), (3, (0, x3)), (4, (0, x4))] [] s (rk40 s x0 x2 x3 x4)) (s : St) (x0 x2 x3 x4 : Int) : V G l mX7_lay 75 [(0, (2, x0)), (2, (2, x2)), (3, (0, x3)), (4, (0, x4))] [] s (X7_lay_b75 rk40 s x0 x2 x3 x4) := by
  unfold X7_lay_b75
  refine V_iinc (lv' := [(4, (0, (w32 (x4 + 1)))), (0, (2, x0)), (2, (2, x2)), (3, (0, x3))]) dec_X7_lay.1.2.2.2.2.2.1 3 rfl (by decide) rfl ?_
  refine V_goto (tgt := 40) dec_X7_lay.1.2.2.2.2.2.2 (by decide) ?_
  exact V_pick [1, 2, 3, 0] rfl (hk40 s x0 x2 x3 (w32 (x4 + 1)))
def X7_lay_b40_body (rk40 : St → Int → Int → Int → Int → Rs) (s : St) (x0 x2 x3 x4 : Int) : Rs :=
  if x3 ≤ x4 then (X7_lay_b81 s x0) else (grd (isK s 1 x2) (if (ln s x2) ≤ x4 then (X7_lay_b81 s x0) else (grd (isK s 1 x2 ∧ 0 ≤ x4 ∧ x4 < ln s x2) (grd (isK s 17 x0) (bnd (X7_isHouse s x0 (gI s x2 x4.toNat)) (fun r6 s7 => if r6 = 0 then (X7_lay_b75 rk40 s7 x0 x2 x3 x4) else (grd (isK s7 17 x0) (grd (isK s7 1 x2 ∧ 0 ≤ x4 ∧ x4 < ln s7 x2) (grd (isK s7 1 (gR s7 x0 0) ∧ 0 ≤ (gI s7 x2 x4.toNat) ∧ (gI s7 x2 x4.toNat) < ln s7 (gR s7 x0 0)) (lets (pI s7 (gR s7 x0 0) (gI s7 x2 x4.toNat).toNat x4) (fun s8 => X7_lay_b75 rk40 s8 x0 x2 x3 x4)))))))))))
def X7_lay_b40 (n : Nat) (s : St) (x0 x2 x3 x4 : Int) : Rs := iter (fun (rec : St × Int × Int × Int × Int → Rs) (a : St × Int × Int × Int × Int) => X7_lay_b40_body (fun (s : St) (x0 x2 x3 x4 : Int) => rec (s, x0, x2, x3, x4)) a.1 a.2.1 a.2.2.1 a.2.2.2.1 a.2.2.2.2) n (s, x0, x2, x3, x4)
theorem X7_lay_b40_0 (s : St) (x0 x2 x3 x4 : Int) : X7_lay_b40 0 s x0 x2 x3 x4 = none := rfl
theorem X7_lay_b40_1 (n : Nat) (s : St) (x0 x2 x3 x4 : Int) : X7_lay_b40 (n + 1) s x0 x2 x3 x4 = X7_lay_b40_body (X7_lay_b40 n) s x0 x2 x3 x4 := rfl
set_option maxRecDepth 100000 in
set_option maxHeartbeats 4000000 in
theorem X7_lay_b40_body_s (G : Gx) (l : Launch) (rk40 : St → Int → Int → Int → Int → Rs) (hk40 : ∀ (s : St) (x0 x2 x3 x4 : Int), V G l mX7_lay 40 [(0, (2, x0)), (2, (2, x2)), (3, (0, x3)), (4, (0, x4))] [] s (rk40 s x0 x2 x3 x4)) (s : St) (x0 x2 x3 x4 : Int) : V G l mX7_lay 40 [(0, (2, x0)), (2, (2, x2)), (3, (0, x3)), (4, (0, x4))] [] s (X7_lay_b40_body rk40 s x0 x2 x3 x4) := by
  unfold X7_lay_b40_body
  refine V_iload dec_X7_lay.1.1.2.2.2.2.2 3 rfl ?_
  refine V_iload_n dec_X7_lay.1.2.1.1.1.1 2 rfl ?_
  refine V_icmp_ge (tgt := 81) dec_X7_lay.1.2.1.1.1.2 (by decide) ?_ ?_
  · exact V_pick [0] rfl (X7_lay_b81_s G l s x0)
  · refine V_iload dec_X7_lay.1.2.1.1.2.1 3 rfl ?_
    refine V_aload_n dec_X7_lay.1.2.1.1.2.2.1 1 rfl ?_
    refine V_alen 1 (by decide) dec_X7_lay.1.2.1.1.2.2.2 ?_
    refine V_icmp_ge (tgt := 81) dec_X7_lay.1.2.1.2.1.1 (by decide) ?_ ?_
    · exact V_pick [0] rfl (X7_lay_b81_s G l s x0)
    · refine V_aload_n dec_X7_lay.1.2.1.2.1.2 0 rfl ?_
      refine V_aload_n dec_X7_lay.1.2.1.2.2.1 1 rfl ?_
      refine V_iload dec_X7_lay.1.2.1.2.2.2.1 3 rfl ?_
      refine V_iald dec_X7_lay.1.2.1.2.2.2.2 ?_
      refine V_callV0 (ci := 7) (a := x0) (As := [(0, (gI s x2 x4.toNat))]) (st := []) rfl rfl (X7_isHouse_s G l s x0 (gI s x2 x4.toNat)) cal_X7_isHouse rfl ml_X7_28 rfl rfl dec_X7_lay.1.2.2.1.1.1 (k_tag (tag := 0) rfl fun r6 s7 => ?_)
      refine V_if_eq (tgt := 75) dec_X7_lay.1.2.2.1.1.2 (by decide) ?_ ?_
      · exact V_pick [0, 1, 2, 3] rfl (X7_lay_b75_s G l rk40 hk40 s7 x0 x2 x3 x4)
      · refine V_aload_n dec_X7_lay.1.2.2.1.2.1 0 rfl ?_
        refine V_getR 7 0 nf_7_0 ft_7_0 fl_X7_9 dec_X7_lay.1.2.2.1.2.2.1 ?_
        refine V_aload_n dec_X7_lay.1.2.2.1.2.2.2 1 rfl ?_
        refine V_iload dec_X7_lay.1.2.2.2.1.1 3 rfl ?_
        refine V_iald dec_X7_lay.1.2.2.2.1.2.1 ?_
        refine V_iload dec_X7_lay.1.2.2.2.1.2.2 3 rfl ?_
        refine V_iast dec_X7_lay.1.2.2.2.2.1 ?_
        refine V_lets fun s8 => ?_
        exact V_pick [0, 1, 2, 3] rfl (X7_lay_b75_s G l rk40 hk40 s8 x0 x2 x3 x4)
theorem X7_lay_b40_s (G : Gx) (l : Launch) (n : Nat) (s : St) (x0 x2 x3 x4 : Int) : V G l mX7_lay 40 [(0, (2, x0)), (2, (2, x2)), (3, (0, x3)), (4, (0, x4))] [] s (X7_lay_b40 n s x0 x2 x3 x4) :=
  V_iter (LV := fun a : St × Int × Int × Int × Int => [(0, (2, a.2.1)), (2, (2, a.2.2.1)), (3, (0, a.2.2.2.1)), (4, (0, a.2.2.2.2))]) (ST := fun a : St × Int × Int × Int × Int => []) (SS := fun a : St × Int × Int × Int × Int => a.1) (fun rec hrec a => X7_lay_b40_body_s G l (fun (s : St) (x0 x2 x3 x4 : Int) => rec (s, x0, x2, x3, x4)) (fun (s : St) (x0 x2 x3 x4 : Int) => hrec (s, x0, x2, x3, x4)) a.1 a.2.1 a.2.2.1 a.2.2.2.1 a.2.2.2.2) n (s, x0, x2, x3, x4)
def X7_lay_b13_body (rk13 : St → Int → Int → Int → Int → Rs) (s : St) (x0 x2 x3 x4 : Int) : Rs :=
  grd (isK s 17 x0) (if (gI s x0 2) ≤ x4 then (X7_lay_b40 FU s x0 x2 x3 0) else (grd (isK s 17 x0) (grd (isK s 1 (gR s x0 0) ∧ 0 ≤ x4 ∧ x4 < ln s (gR s x0 0)) (lets (pI s (gR s x0 0) x4.toNat (-2)) (fun s9 => rk13 s9 x0 x2 x3 (w32 (x4 + 1)))))))
def X7_lay_b13 (n : Nat) (s : St) (x0 x2 x3 x4 : Int) : Rs := iter (fun (rec : St × Int × Int × Int × Int → Rs) (a : St × Int × Int × Int × Int) => X7_lay_b13_body (fun (s : St) (x0 x2 x3 x4 : Int) => rec (s, x0, x2, x3, x4)) a.1 a.2.1 a.2.2.1 a.2.2.2.1 a.2.2.2.2) n (s, x0, x2, x3, x4)
theorem X7_lay_b13_0 (s : St) (x0 x2 x3 x4 : Int) : X7_lay_b13 0 s x0 x2 x3 x4 = none := rfl
theorem X7_lay_b13_1 (n : Nat) (s : St) (x0 x2 x3 x4 : Int) : X7_lay_b13 (n + 1) s x0 x2 x3 x4 = X7_lay_b13_body (X7_lay_b13 n) s x0 x2 x3 x4 := rfl
set_option maxRecDepth 100000 in
set_option maxHeartbeats 4000000 in
theorem X7_lay_b13_body_s (G : Gx) (l : Launch) (rk13 : St → Int → Int → Int → Int → Rs) (hk13 : ∀ (s : St) (x0 x2 x3 x4 : Int), V G l mX7_lay 13 [(0, (2, x0)), (2, (2, x2)), (3, (0, x3)), (4, (0, x4))] [] s (rk13 s x0 x2 x3 x4)) (s : St) (x0 x2 x3 x4 : Int) : V G l mX7_lay 13 [(0, (2, x0)), (2, (2, x2)), (3, (0, x3)), (4, (0, x4))] [] s (X7_lay_b13_body rk13 s x0 x2 x3 x4) := by
  unfold X7_lay_b13_body
  refine V_iload dec_X7_lay.1.1.1.2.2.1 3 rfl ?_
  refine V_aload_n dec_X7_lay.1.1.1.2.2.2.1 0 rfl ?_
  refine V_getI 7 2 nf_7_2 ft_7_2 fl_X7_24 dec_X7_lay.1.1.1.2.2.2.2 ?_
  refine V_icmp_ge (tgt := 37) dec_X7_lay.1.1.2.1.1.1 (by decide) ?_ ?_
  · refine V_iconst dec_X7_lay.1.1.2.2.2.1 rfl ?_
    refine V_istore (lv' := [(4, (0, 0)), (0, (2, x0)), (2, (2, x2)), (3, (0, x3))]) dec_X7_lay.1.1.2.2.2.2.1 (by decide) rfl ?_
    exact V_pick [1, 2, 3, 0] rfl (X7_lay_b40_s G l FU s x0 x2 x3 0)
  · refine V_aload_n dec_X7_lay.1.1.2.1.1.2 0 rfl ?_
    refine V_getR 7 0 nf_7_0 ft_7_0 fl_X7_9 dec_X7_lay.1.1.2.1.2.1 ?_
    refine V_iload dec_X7_lay.1.1.2.1.2.2.1 3 rfl ?_
    refine V_bipush dec_X7_lay.1.1.2.1.2.2.2 rfl ?_
    refine V_iast dec_X7_lay.1.1.2.2.1.1 ?_
    refine V_lets fun s9 => ?_
    refine V_iinc (lv' := [(4, (0, (w32 (x4 + 1)))), (0, (2, x0)), (2, (2, x2)), (3, (0, x3))]) dec_X7_lay.1.1.2.2.1.2.1 3 rfl (by decide) rfl ?_
    refine V_goto (tgt := 13) dec_X7_lay.1.1.2.2.1.2.2 (by decide) ?_
    exact V_pick [1, 2, 3, 0] rfl (hk13 s9 x0 x2 x3 (w32 (x4 + 1)))
theorem X7_lay_b13_s (G : Gx) (l : Launch) (n : Nat) (s : St) (x0 x2 x3 x4 : Int) : V G l mX7_lay 13 [(0, (2, x0)), (2, (2, x2)), (3, (0, x3)), (4, (0, x4))] [] s (X7_lay_b13 n s x0 x2 x3 x4) :=
  V_iter (LV := fun a : St × Int × Int × Int × Int => [(0, (2, a.2.1)), (2, (2, a.2.2.1)), (3, (0, a.2.2.2.1)), (4, (0, a.2.2.2.2))]) (ST := fun a : St × Int × Int × Int × Int => []) (SS := fun a : St × Int × Int × Int × Int => a.1) (fun rec hrec a => X7_lay_b13_body_s G l (fun (s : St) (x0 x2 x3 x4 : Int) => rec (s, x0, x2, x3, x4)) (fun (s : St) (x0 x2 x3 x4 : Int) => hrec (s, x0, x2, x3, x4)) a.1 a.2.1 a.2.2.1 a.2.2.2.1 a.2.2.2.2) n (s, x0, x2, x3, x4)
def X7_lay (s : St) (a0 a1 a2 a3 : Int) : Rs :=
  bnd (JM_min s a1 40) (fun r1 s2 => grd (isK s2 17 a0) (lets (pI s2 a0 2 r1) (fun s3 => X7_lay_b13 FU s3 a0 a2 a3 0)))
set_option maxRecDepth 100000 in
set_option maxHeartbeats 4000000 in
theorem X7_lay_s (G : Gx) (l : Launch) (s : St) (a0 a1 a2 a3 : Int) : Snd G l mX7_lay [(2, a0), (0, a1), (2, a2), (0, a3)] s (X7_lay s a0 a1 a2 a3) := by
  refine Snd.of (by decide +kernel) rfl ?_
  show V G l mX7_lay 0 [(0, (2, a0)), (1, (0, a1)), (2, (2, a2)), (3, (0, a3))] [] s _
  unfold X7_lay
  refine V_aload_n dec_X7_lay.1.1.1.1.1.1 0 rfl ?_
  refine V_iload_n dec_X7_lay.1.1.1.1.1.2 1 rfl ?_
  refine V_bipush dec_X7_lay.1.1.1.1.2.1 rfl ?_
  refine V_callS0 (As := [(0, a1), (0, 40)]) (st := [(2, a0)]) (host := "") rfl (JM_min_s G l s a1 40) cal_JM_min rfl (Or.inl ml_X7_18) rfl rfl dec_X7_lay.1.1.1.1.2.2.1 (k_tag (tag := 0) rfl fun r1 s2 => ?_)
  refine V_putI (host := "") 7 2 nf_7_2 ty_7_2 (Or.inl ⟨fl_X7_24, Or.inl rfl⟩) dec_X7_lay.1.1.1.1.2.2.2 ?_
  refine V_lets fun s3 => ?_
  refine V_iconst dec_X7_lay.1.1.1.2.1.1 rfl ?_
  refine V_istore (lv' := [(4, (0, 0)), (0, (2, a0)), (1, (0, a1)), (2, (2, a2)), (3, (0, a3))]) dec_X7_lay.1.1.1.2.1.2 (by decide) rfl ?_
  exact V_pick [1, 3, 4, 0] rfl (X7_lay_b13_s G l FU s3 a0 a2 a3 0)
theorem dec_X10_putPerson : ((((decode cX10_putPerson 0 = .ok (.aload_n 0, 1) ∧ decode cX10_putPerson 1 = .ok (.getfield 12, 3)) ∧ (decode cX10_putPerson 4 = .ok (.getfield 39, 3) ∧ decode cX10_putPerson 7 = .ok (.iload_n 1, 1))) ∧ ((decode cX10_putPerson 8 = .ok (.iload_n 2, 1) ∧ decode cX10_putPerson 9 = .ok (.iastore, 1)) ∧ (decode cX10_putPerson 10 = .ok (.aload_n 0, 1) ∧ (decode cX10_putPerson 11 = .ok (.getfield 21, 3) ∧ decode cX10_putPerson 14 = .ok (.aload_n 0, 1))))) ∧ (((decode cX10_putPerson 15 = .ok (.getfield 25, 3) ∧ decode cX10_putPerson 18 = .ok (.getfield 33, 3)) ∧ (decode cX10_putPerson 21 = .ok (.aload_n 0, 1) ∧ (decode cX10_putPerson 22 = .ok (.getfield 12, 3) ∧ decode cX10_putPerson 25 = .ok (.getfield 39, 3)))) ∧ ((decode cX10_putPerson 28 = .ok (.aload_n 0, 1) ∧ decode cX10_putPerson 29 = .ok (.getfield 25, 3)) ∧ (decode cX10_putPerson 32 = .ok (.getfield 43, 3) ∧ (decode cX10_putPerson 35 = .ok (.invokevirtual 46, 3) ∧ decode cX10_putPerson 38 = .ok (.return_, 1)))))) := ⟨by decide +kernel, by decide +kernel⟩
def X10_putPerson (s : St) (a0 a1 a2 : Int) : Rs :=
  grd (isK s 20 a0) (grd (isK s 16 (gR s a0 1)) (grd (isK s 1 (gR s (gR s a0 1) 1) ∧ 0 ≤ a1 ∧ a1 < ln s (gR s (gR s a0 1) 1)) (lets (pI s (gR s (gR s a0 1) 1) a1.toNat a2) (fun s1 => grd (isK s1 20 a0) (grd (isK s1 20 a0) (grd (isK s1 19 (gR s1 a0 0)) (grd (isK s1 20 a0) (grd (isK s1 16 (gR s1 a0 1)) (grd (isK s1 20 a0) (grd (isK s1 19 (gR s1 a0 0)) (grd (isK s1 17 (gR s1 a0 2)) (bnd (X7_lay s1 (gR s1 a0 2) (gI s1 (gR s1 a0 0) 0) (gR s1 (gR s1 a0 1) 1) (gI s1 (gR s1 a0 0) 2)) (fun r2 s3 => some (0, s3))))))))))))))
set_option maxRecDepth 100000 in
set_option maxHeartbeats 4000000 in
theorem X10_putPerson_s (G : Gx) (l : Launch) (s : St) (a0 a1 a2 : Int) : Snd G l mX10_putPerson [(2, a0), (0, a1), (0, a2)] s (X10_putPerson s a0 a1 a2) := by
  refine Snd.of (by decide +kernel) rfl ?_
  show V G l mX10_putPerson 0 [(0, (2, a0)), (1, (0, a1)), (2, (0, a2))] [] s _
  unfold X10_putPerson
  refine V_aload_n dec_X10_putPerson.1.1.1.1 0 rfl ?_
  refine V_getR 10 1 nf_10_1 ft_10_1 fl_X10_12 dec_X10_putPerson.1.1.1.2 ?_
  refine V_getR 6 1 nf_6_1 ft_6_1 fl_X10_39 dec_X10_putPerson.1.1.2.1 ?_
  refine V_iload_n dec_X10_putPerson.1.1.2.2 1 rfl ?_
  refine V_iload_n dec_X10_putPerson.1.2.1.1 2 rfl ?_
  refine V_iast dec_X10_putPerson.1.2.1.2 ?_
  refine V_lets fun s1 => ?_
  refine V_aload_n dec_X10_putPerson.1.2.2.1 0 rfl ?_
  refine V_getR 10 2 nf_10_2 ft_10_2 fl_X10_21 dec_X10_putPerson.1.2.2.2.1 ?_
  refine V_aload_n dec_X10_putPerson.1.2.2.2.2 0 rfl ?_
  refine V_getR 10 0 nf_10_0 ft_10_0 fl_X10_25 dec_X10_putPerson.2.1.1.1 ?_
  refine V_getI 9 0 nf_9_0 ft_9_0 fl_X10_33 dec_X10_putPerson.2.1.1.2 ?_
  refine V_aload_n dec_X10_putPerson.2.1.2.1 0 rfl ?_
  refine V_getR 10 1 nf_10_1 ft_10_1 fl_X10_12 dec_X10_putPerson.2.1.2.2.1 ?_
  refine V_getR 6 1 nf_6_1 ft_6_1 fl_X10_39 dec_X10_putPerson.2.1.2.2.2 ?_
  refine V_aload_n dec_X10_putPerson.2.2.1.1 0 rfl ?_
  refine V_getR 10 0 nf_10_0 ft_10_0 fl_X10_25 dec_X10_putPerson.2.2.1.2 ?_
  refine V_getI 9 2 nf_9_2 ft_9_2 fl_X10_43 dec_X10_putPerson.2.2.2.1 ?_
  refine V_callV0 (ci := 7) (a := (gR s1 a0 2)) (As := [(0, (gI s1 (gR s1 a0 0) 0)), (2, (gR s1 (gR s1 a0 1) 1)), (0, (gI s1 (gR s1 a0 0) 2))]) (st := []) rfl rfl (X7_lay_s G l s1 (gR s1 a0 2) (gI s1 (gR s1 a0 0) 0) (gR s1 (gR s1 a0 1) 1) (gI s1 (gR s1 a0 0) 2)) cal_X7_lay rfl ml_X10_46 rfl rfl dec_X10_putPerson.2.2.2.2.1 (k_void rfl fun r2 s3 => ?_)
  exact V_vret rfl dec_X10_putPerson.2.2.2.2.2
theorem dec_X10_rightBits : ((((decode cX10_rightBits 0 = .ok (.iconst 0, 1) ∧ (decode cX10_rightBits 1 = .ok (.istore_n 2, 1) ∧ decode cX10_rightBits 2 = .ok (.iconst 0, 1))) ∧ ((decode cX10_rightBits 3 = .ok (.istore_n 3, 1) ∧ decode cX10_rightBits 4 = .ok (.iload_n 3, 1)) ∧ (decode cX10_rightBits 5 = .ok (.aload_n 0, 1) ∧ decode cX10_rightBits 6 = .ok (.getfield 25, 3)))) ∧ ((decode cX10_rightBits 9 = .ok (.getfield 91, 3) ∧ (decode cX10_rightBits 12 = .ok (.if_icmp .ge 33, 3) ∧ decode cX10_rightBits 15 = .ok (.aload_n 0, 1))) ∧ ((decode cX10_rightBits 16 = .ok (.iload_n 3, 1) ∧ decode cX10_rightBits 17 = .ok (.iload_n 1, 1)) ∧ (decode cX10_rightBits 18 = .ok (.invokevirtual 83, 3) ∧ decode cX10_rightBits 21 = .ok (.aload_n 0, 1))))) ∧ (((decode cX10_rightBits 22 = .ok (.getfield 25, 3) ∧ (decode cX10_rightBits 25 = .ok (.getfield 71, 3) ∧ decode cX10_rightBits 28 = .ok (.iload_n 3, 1))) ∧ ((decode cX10_rightBits 29 = .ok (.iaload, 1) ∧ decode cX10_rightBits 30 = .ok (.if_icmp .ne 9, 3)) ∧ (decode cX10_rightBits 33 = .ok (.iload_n 2, 1) ∧ decode cX10_rightBits 34 = .ok (.iconst 1, 1)))) ∧ (((decode cX10_rightBits 35 = .ok (.iload_n 3, 1) ∧ decode cX10_rightBits 36 = .ok (.ishl, 1)) ∧ (decode cX10_rightBits 37 = .ok (.ior, 1) ∧ decode cX10_rightBits 38 = .ok (.istore_n 2, 1))) ∧ ((decode cX10_rightBits 39 = .ok (.iinc 3 1, 3) ∧ decode cX10_rightBits 42 = .ok (.goto (-38), 3)) ∧ (decode cX10_rightBits 45 = .ok (.iload_n 2, 1) ∧ decode cX10_rightBits 46 = .ok (.ireturn, 1)))))) := ⟨⟨by decide +kernel, by decide +kernel⟩, ⟨by decide +kernel, by decide +kernel⟩⟩
def X10_rightBits_b39 (rk4 : St → Int → Int → Int → Int → Rs) (s : St) (x0 x1 x2 x3 : Int) : Rs :=
  rk4 s x0 x1 x2 (w32 (x3 + 1))
set_option maxRecDepth 100000 in
set_option maxHeartbeats 4000000 in
theorem X10_rightBits_b39_s (G : Gx) (l : Launch) (rk4 : St → Int → Int → Int → Int → Rs) (hk4 : ∀ (s : St) (x0 x1 x2 x3 : Int), V G l mX10_rightBits 4 [(0, (2, x0)), (1, (0, x1)), (2, (0, x2)), (3, (0, x3))] [] s (rk4 s x0 x1 x2 x3)) (s : St) (x0 x1 x2 x3 : Int) : V G l mX10_rightBits 39 [(0, (2, x0)), (1, (0, x1)), (2, (0, x2)), (3, (0, x3))] [] s (X10_rightBits_b39 rk4 s x0 x1 x2 x3) := by
  unfold X10_rightBits_b39
  refine V_iinc (lv' := [(3, (0, (w32 (x3 + 1)))), (0, (2, x0)), (1, (0, x1)), (2, (0, x2))]) dec_X10_rightBits.2.2.2.1.1 3 rfl (by decide) rfl ?_
  refine V_goto (tgt := 4) dec_X10_rightBits.2.2.2.1.2 (by decide) ?_
  exact V_pick [1, 2, 3, 0] rfl (hk4 s x0 x1 x2 (w32 (x3 + 1)))
def X10_rightBits_b4_body (rk4 : St → Int → Int → Int → Int → Rs) (s : St) (x0 x1 x2 x3 : Int) : Rs :=
  grd (isK s 20 x0) (grd (isK s 19 (gR s x0 0)) (if (gI s (gR s x0 0) 3) ≤ x3 then (some (x2, s)) else (grd (isK s 20 x0) (bnd (X10_listener s x0 x3 x1) (fun r1 s2 => grd (isK s2 20 x0) (grd (isK s2 19 (gR s2 x0 0)) (grd (isK s2 1 (gR s2 (gR s2 x0 0) 8) ∧ 0 ≤ x3 ∧ x3 < ln s2 (gR s2 (gR s2 x0 0) 8)) (if ¬ r1 = (gI s2 (gR s2 (gR s2 x0 0) 8) x3.toNat) then (X10_rightBits_b39 rk4 s2 x0 x1 x2 x3) else (X10_rightBits_b39 rk4 s2 x0 x1 (or32 x2 (shl32 1 x3)) x3)))))))))
def X10_rightBits_b4 (n : Nat) (s : St) (x0 x1 x2 x3 : Int) : Rs := iter (fun (rec : St × Int × Int × Int × Int → Rs) (a : St × Int × Int × Int × Int) => X10_rightBits_b4_body (fun (s : St) (x0 x1 x2 x3 : Int) => rec (s, x0, x1, x2, x3)) a.1 a.2.1 a.2.2.1 a.2.2.2.1 a.2.2.2.2) n (s, x0, x1, x2, x3)
theorem X10_rightBits_b4_0 (s : St) (x0 x1 x2 x3 : Int) : X10_rightBits_b4 0 s x0 x1 x2 x3 = none := rfl
theorem X10_rightBits_b4_1 (n : Nat) (s : St) (x0 x1 x2 x3 : Int) : X10_rightBits_b4 (n + 1) s x0 x1 x2 x3 = X10_rightBits_b4_body (X10_rightBits_b4 n) s x0 x1 x2 x3 := rfl
set_option maxRecDepth 100000 in
set_option maxHeartbeats 4000000 in
theorem X10_rightBits_b4_body_s (G : Gx) (l : Launch) (rk4 : St → Int → Int → Int → Int → Rs) (hk4 : ∀ (s : St) (x0 x1 x2 x3 : Int), V G l mX10_rightBits 4 [(0, (2, x0)), (1, (0, x1)), (2, (0, x2)), (3, (0, x3))] [] s (rk4 s x0 x1 x2 x3)) (s : St) (x0 x1 x2 x3 : Int) : V G l mX10_rightBits 4 [(0, (2, x0)), (1, (0, x1)), (2, (0, x2)), (3, (0, x3))] [] s (X10_rightBits_b4_body rk4 s x0 x1 x2 x3) := by
  unfold X10_rightBits_b4_body
  refine V_iload_n dec_X10_rightBits.1.1.2.1.2 3 rfl ?_
  refine V_aload_n dec_X10_rightBits.1.1.2.2.1 0 rfl ?_
  refine V_getR 10 0 nf_10_0 ft_10_0 fl_X10_25 dec_X10_rightBits.1.1.2.2.2 ?_
  refine V_getI 9 3 nf_9_3 ft_9_3 fl_X10_91 dec_X10_rightBits.1.2.1.1 ?_
  refine V_icmp_ge (tgt := 45) dec_X10_rightBits.1.2.1.2.1 (by decide) ?_ ?_
  · refine V_iload_n dec_X10_rightBits.2.2.2.2.1 2 rfl ?_
    exact V_iret rfl dec_X10_rightBits.2.2.2.2.2
  · refine V_aload_n dec_X10_rightBits.1.2.1.2.2 0 rfl ?_
    refine V_iload_n dec_X10_rightBits.1.2.2.1.1 3 rfl ?_
    refine V_iload_n dec_X10_rightBits.1.2.2.1.2 1 rfl ?_
    refine V_callV0 (ci := 10) (a := x0) (As := [(0, x3), (0, x1)]) (st := []) rfl rfl (X10_listener_s G l s x0 x3 x1) cal_X10_listener rfl ml_X10_83 rfl rfl dec_X10_rightBits.1.2.2.2.1 (k_tag (tag := 0) rfl fun r1 s2 => ?_)
    refine V_aload_n dec_X10_rightBits.1.2.2.2.2 0 rfl ?_
    refine V_getR 10 0 nf_10_0 ft_10_0 fl_X10_25 dec_X10_rightBits.2.1.1.1 ?_
    refine V_getR 9 8 nf_9_8 ft_9_8 fl_X10_71 dec_X10_rightBits.2.1.1.2.1 ?_
    refine V_iload_n dec_X10_rightBits.2.1.1.2.2 3 rfl ?_
    refine V_iald dec_X10_rightBits.2.1.2.1.1 ?_
    refine V_icmp_ne (tgt := 39) dec_X10_rightBits.2.1.2.1.2 (by decide) ?_ ?_
    · exact V_pick [0, 1, 2, 3] rfl (X10_rightBits_b39_s G l rk4 hk4 s2 x0 x1 x2 x3)
    · refine V_iload_n dec_X10_rightBits.2.1.2.2.1 2 rfl ?_
      refine V_iconst dec_X10_rightBits.2.1.2.2.2 rfl ?_
      refine V_iload_n dec_X10_rightBits.2.2.1.1.1 3 rfl ?_
      refine V_ishl dec_X10_rightBits.2.2.1.1.2 ?_
      refine V_ior dec_X10_rightBits.2.2.1.2.1 ?_
      refine V_istore_n (lv' := [(2, (0, (or32 x2 (shl32 1 x3)))), (0, (2, x0)), (1, (0, x1)), (3, (0, x3))]) dec_X10_rightBits.2.2.1.2.2 (by decide) rfl ?_
      exact V_pick [1, 2, 0, 3] rfl (X10_rightBits_b39_s G l rk4 hk4 s2 x0 x1 (or32 x2 (shl32 1 x3)) x3)
theorem X10_rightBits_b4_s (G : Gx) (l : Launch) (n : Nat) (s : St) (x0 x1 x2 x3 : Int) : V G l mX10_rightBits 4 [(0, (2, x0)), (1, (0, x1)), (2, (0, x2)), (3, (0, x3))] [] s (X10_rightBits_b4 n s x0 x1 x2 x3) :=
  V_iter (LV := fun a : St × Int × Int × Int × Int => [(0, (2, a.2.1)), (1, (0, a.2.2.1)), (2, (0, a.2.2.2.1)), (3, (0, a.2.2.2.2))]) (ST := fun a : St × Int × Int × Int × Int => []) (SS := fun a : St × Int × Int × Int × Int => a.1) (fun rec hrec a => X10_rightBits_b4_body_s G l (fun (s : St) (x0 x1 x2 x3 : Int) => rec (s, x0, x1, x2, x3)) (fun (s : St) (x0 x1 x2 x3 : Int) => hrec (s, x0, x1, x2, x3)) a.1 a.2.1 a.2.2.1 a.2.2.2.1 a.2.2.2.2) n (s, x0, x1, x2, x3)
def X10_rightBits (s : St) (a0 a1 : Int) : Rs :=
  X10_rightBits_b4 FU s a0 a1 0 0
set_option maxRecDepth 100000 in
set_option maxHeartbeats 4000000 in
theorem X10_rightBits_s (G : Gx) (l : Launch) (s : St) (a0 a1 : Int) : Snd G l mX10_rightBits [(2, a0), (0, a1)] s (X10_rightBits s a0 a1) := by
  refine Snd.of (by decide +kernel) rfl ?_
  show V G l mX10_rightBits 0 [(0, (2, a0)), (1, (0, a1))] [] s _
  unfold X10_rightBits
  refine V_iconst dec_X10_rightBits.1.1.1.1 rfl ?_
  refine V_istore_n (lv' := [(2, (0, 0)), (0, (2, a0)), (1, (0, a1))]) dec_X10_rightBits.1.1.1.2.1 (by decide) rfl ?_
  refine V_iconst dec_X10_rightBits.1.1.1.2.2 rfl ?_
  refine V_istore_n (lv' := [(3, (0, 0)), (2, (0, 0)), (0, (2, a0)), (1, (0, a1))]) dec_X10_rightBits.1.1.2.1.1 (by decide) rfl ?_
  exact V_pick [2, 3, 1, 0] rfl (X10_rightBits_b4_s G l FU s a0 a1 0 0)
theorem dec_J6_bitCount_0f7a4 : (((((decode cJ6_bitCount_0f7a4 0 = .ok (.iload_n 0, 1) ∧ decode cJ6_bitCount_0f7a4 1 = .ok (.iload_n 0, 1)) ∧ (decode cJ6_bitCount_0f7a4 2 = .ok (.iconst 1, 1) ∧ (decode cJ6_bitCount_0f7a4 3 = .ok (.iushr, 1) ∧ decode cJ6_bitCount_0f7a4 4 = .ok (.ldc_w 265, 3)))) ∧ ((decode cJ6_bitCount_0f7a4 7 = .ok (.iand, 1) ∧ decode cJ6_bitCount_0f7a4 8 = .ok (.isub, 1)) ∧ (decode cJ6_bitCount_0f7a4 9 = .ok (.istore_n 0, 1) ∧ (decode cJ6_bitCount_0f7a4 10 = .ok (.iload_n 0, 1) ∧ decode cJ6_bitCount_0f7a4 11 = .ok (.ldc_w 266, 3))))) ∧ (((decode cJ6_bitCount_0f7a4 14 = .ok (.iand, 1) ∧ decode cJ6_bitCount_0f7a4 15 = .ok (.iload_n 0, 1)) ∧ (decode cJ6_bitCount_0f7a4 16 = .ok (.iconst 2, 1) ∧ (decode cJ6_bitCount_0f7a4 17 = .ok (.iushr, 1) ∧ decode cJ6_bitCount_0f7a4 18 = .ok (.ldc_w 266, 3)))) ∧ ((decode cJ6_bitCount_0f7a4 21 = .ok (.iand, 1) ∧ (decode cJ6_bitCount_0f7a4 22 = .ok (.iadd, 1) ∧ decode cJ6_bitCount_0f7a4 23 = .ok (.istore_n 0, 1))) ∧ (decode cJ6_bitCount_0f7a4 24 = .ok (.iload_n 0, 1) ∧ (decode cJ6_bitCount_0f7a4 25 = .ok (.iload_n 0, 1) ∧ decode cJ6_bitCount_0f7a4 26 = .ok (.iconst 4, 1)))))) ∧ ((((decode cJ6_bitCount_0f7a4 27 = .ok (.iushr, 1) ∧ decode cJ6_bitCount_0f7a4 28 = .ok (.iadd, 1)) ∧ (decode cJ6_bitCount_0f7a4 29 = .ok (.ldc_w 267, 3) ∧ (decode cJ6_bitCount_0f7a4 32 = .ok (.iand, 1) ∧ decode cJ6_bitCount_0f7a4 33 = .ok (.istore_n 0, 1)))) ∧ ((decode cJ6_bitCount_0f7a4 34 = .ok (.iload_n 0, 1) ∧ decode cJ6_bitCount_0f7a4 35 = .ok (.iload_n 0, 1)) ∧ (decode cJ6_bitCount_0f7a4 36 = .ok (.bipush 8, 2) ∧ (decode cJ6_bitCount_0f7a4 38 = .ok (.iushr, 1) ∧ decode cJ6_bitCount_0f7a4 39 = .ok (.iadd, 1))))) ∧ (((decode cJ6_bitCount_0f7a4 40 = .ok (.istore_n 0, 1) ∧ decode cJ6_bitCount_0f7a4 41 = .ok (.iload_n 0, 1)) ∧ (decode cJ6_bitCount_0f7a4 42 = .ok (.iload_n 0, 1) ∧ (decode cJ6_bitCount_0f7a4 43 = .ok (.bipush 16, 2) ∧ decode cJ6_bitCount_0f7a4 45 = .ok (.iushr, 1)))) ∧ ((decode cJ6_bitCount_0f7a4 46 = .ok (.iadd, 1) ∧ (decode cJ6_bitCount_0f7a4 47 = .ok (.istore_n 0, 1) ∧ decode cJ6_bitCount_0f7a4 48 = .ok (.iload_n 0, 1))) ∧ (decode cJ6_bitCount_0f7a4 49 = .ok (.bipush 63, 2) ∧ (decode cJ6_bitCount_0f7a4 51 = .ok (.iand, 1) ∧ decode cJ6_bitCount_0f7a4 52 = .ok (.ireturn, 1))))))) := ⟨⟨by decide +kernel, by decide +kernel⟩, ⟨by decide +kernel, by decide +kernel⟩⟩
def J6_bitCount_0f7a4 (s : St) (a0 : Int) : Rs :=
  letv (w32 (a0 - (and32 (ushr32 a0 1) 1431655765))) (fun y1 => letv (w32 ((and32 y1 858993459) + (and32 (ushr32 y1 2) 858993459))) (fun y2 => letv (and32 (w32 (y2 + (ushr32 y2 4))) 252645135) (fun y3 => letv (w32 (y3 + (ushr32 y3 8))) (fun y4 => letv (w32 (y4 + (ushr32 y4 16))) (fun y5 => some ((and32 y5 63), s))))))
set_option maxRecDepth 100000 in
set_option maxHeartbeats 4000000 in
theorem J6_bitCount_0f7a4_s (G : Gx) (l : Launch) (s : St) (a0 : Int) : Snd G l mJ6_bitCount_0f7a4 [(0, a0)] s (J6_bitCount_0f7a4 s a0) := by
  refine Snd.of (by decide +kernel) rfl ?_
  show V G l mJ6_bitCount_0f7a4 0 [(0, (0, a0))] [] s _
  unfold J6_bitCount_0f7a4
  refine V_iload_n dec_J6_bitCount_0f7a4.1.1.1.1.1 0 rfl ?_
  refine V_iload_n dec_J6_bitCount_0f7a4.1.1.1.1.2 0 rfl ?_
  refine V_iconst dec_J6_bitCount_0f7a4.1.1.1.2.1 rfl ?_
  refine V_iushr dec_J6_bitCount_0f7a4.1.1.1.2.2.1 ?_
  refine V_ldcw (n := 1431655765) cw_J6_265 (by decide) dec_J6_bitCount_0f7a4.1.1.1.2.2.2 ?_
  refine V_iand dec_J6_bitCount_0f7a4.1.1.2.1.1 ?_
  refine V_isub dec_J6_bitCount_0f7a4.1.1.2.1.2 ?_
  refine V_letv fun y1 => ?_
  refine V_istore_n (lv' := [(0, (0, y1))]) dec_J6_bitCount_0f7a4.1.1.2.2.1 (by decide) rfl ?_
  refine V_iload_n dec_J6_bitCount_0f7a4.1.1.2.2.2.1 0 rfl ?_
  refine V_ldcw (n := 858993459) cw_J6_266 (by decide) dec_J6_bitCount_0f7a4.1.1.2.2.2.2 ?_
  refine V_iand dec_J6_bitCount_0f7a4.1.2.1.1.1 ?_
  refine V_iload_n dec_J6_bitCount_0f7a4.1.2.1.1.2 0 rfl ?_
  refine V_iconst dec_J6_bitCount_0f7a4.1.2.1.2.1 rfl ?_
  refine V_iushr dec_J6_bitCount_0f7a4.1.2.1.2.2.1 ?_
  refine V_ldcw (n := 858993459) cw_J6_266 (by decide) dec_J6_bitCount_0f7a4.1.2.1.2.2.2 ?_
  refine V_iand dec_J6_bitCount_0f7a4.1.2.2.1.1 ?_
  refine V_iadd dec_J6_bitCount_0f7a4.1.2.2.1.2.1 ?_
  refine V_letv fun y2 => ?_
  refine V_istore_n (lv' := [(0, (0, y2))]) dec_J6_bitCount_0f7a4.1.2.2.1.2.2 (by decide) rfl ?_
  refine V_iload_n dec_J6_bitCount_0f7a4.1.2.2.2.1 0 rfl ?_
  refine V_iload_n dec_J6_bitCount_0f7a4.1.2.2.2.2.1 0 rfl ?_
  refine V_iconst dec_J6_bitCount_0f7a4.1.2.2.2.2.2 rfl ?_
  refine V_iushr dec_J6_bitCount_0f7a4.2.1.1.1.1 ?_
  refine V_iadd dec_J6_bitCount_0f7a4.2.1.1.1.2 ?_
  refine V_ldcw (n := 252645135) cw_J6_267 (by decide) dec_J6_bitCount_0f7a4.2.1.1.2.1 ?_
  refine V_iand dec_J6_bitCount_0f7a4.2.1.1.2.2.1 ?_
  refine V_letv fun y3 => ?_
  refine V_istore_n (lv' := [(0, (0, y3))]) dec_J6_bitCount_0f7a4.2.1.1.2.2.2 (by decide) rfl ?_
  refine V_iload_n dec_J6_bitCount_0f7a4.2.1.2.1.1 0 rfl ?_
  refine V_iload_n dec_J6_bitCount_0f7a4.2.1.2.1.2 0 rfl ?_
  refine V_bipush dec_J6_bitCount_0f7a4.2.1.2.2.1 rfl ?_
  refine V_iushr dec_J6_bitCount_0f7a4.2.1.2.2.2.1 ?_
  refine V_iadd dec_J6_bitCount_0f7a4.2.1.2.2.2.2 ?_
  refine V_letv fun y4 => ?_
  refine V_istore_n (lv' := [(0, (0, y4))]) dec_J6_bitCount_0f7a4.2.2.1.1.1 (by decide) rfl ?_
  refine V_iload_n dec_J6_bitCount_0f7a4.2.2.1.1.2 0 rfl ?_
  refine V_iload_n dec_J6_bitCount_0f7a4.2.2.1.2.1 0 rfl ?_
  refine V_bipush dec_J6_bitCount_0f7a4.2.2.1.2.2.1 rfl ?_
  refine V_iushr dec_J6_bitCount_0f7a4.2.2.1.2.2.2 ?_
  refine V_iadd dec_J6_bitCount_0f7a4.2.2.2.1.1 ?_
  refine V_letv fun y5 => ?_
  refine V_istore_n (lv' := [(0, (0, y5))]) dec_J6_bitCount_0f7a4.2.2.2.1.2.1 (by decide) rfl ?_
  refine V_iload_n dec_J6_bitCount_0f7a4.2.2.2.1.2.2 0 rfl ?_
  refine V_bipush dec_J6_bitCount_0f7a4.2.2.2.2.1 rfl ?_
  refine V_iand dec_J6_bitCount_0f7a4.2.2.2.2.2.1 ?_
  exact V_iret rfl dec_J6_bitCount_0f7a4.2.2.2.2.2.2
theorem dec_X10_rightCount : ((decode cX10_rightCount 0 = .ok (.aload_n 0, 1) ∧ decode cX10_rightCount 1 = .ok (.iload_n 1, 1)) ∧ (decode cX10_rightCount 2 = .ok (.invokevirtual 94, 3) ∧ (decode cX10_rightCount 5 = .ok (.invokestatic 97, 3) ∧ decode cX10_rightCount 8 = .ok (.ireturn, 1)))) := by decide +kernel
def X10_rightCount (s : St) (a0 a1 : Int) : Rs :=
  grd (isK s 20 a0) (bnd (X10_rightBits s a0 a1) (fun r1 s2 => bnd (J6_bitCount_0f7a4 s2 r1) (fun r3 s4 => some (r3, s4))))
set_option maxRecDepth 100000 in
set_option maxHeartbeats 4000000 in
theorem X10_rightCount_s (G : Gx) (l : Launch) (s : St) (a0 a1 : Int) : Snd G l mX10_rightCount [(2, a0), (0, a1)] s (X10_rightCount s a0 a1) := by
  refine Snd.of (by decide +kernel) rfl ?_
  show V G l mX10_rightCount 0 [(0, (2, a0)), (1, (0, a1))] [] s _
  unfold X10_rightCount
  refine V_aload_n dec_X10_rightCount.1.1 0 rfl ?_
  refine V_iload_n dec_X10_rightCount.1.2 1 rfl ?_
  refine V_callV0 (ci := 10) (a := a0) (As := [(0, a1)]) (st := []) rfl rfl (X10_rightBits_s G l s a0 a1) cal_X10_rightBits rfl ml_X10_94 rfl rfl dec_X10_rightCount.2.1 (k_tag (tag := 0) rfl fun r1 s2 => ?_)
  refine V_callS0 (As := [(0, r1)]) (st := []) (host := "") rfl (J6_bitCount_0f7a4_s G l s2 r1) cal_J6_bitCount_0f7a4 rfl (Or.inl ml_X10_97) rfl rfl dec_X10_rightCount.2.2.1 (k_tag (tag := 0) rfl fun r3 s4 => ?_)
  exact V_iret rfl dec_X10_rightCount.2.2.2
theorem dec_X10_rightNightsWith : ((((decode cX10_rightNightsWith 0 = .ok (.iconst 0, 1) ∧ decode cX10_rightNightsWith 1 = .ok (.istore_n 3, 1)) ∧ (decode cX10_rightNightsWith 2 = .ok (.iconst 0, 1) ∧ (decode cX10_rightNightsWith 3 = .ok (.istore 4, 2) ∧ decode cX10_rightNightsWith 5 = .ok (.iload 4, 2)))) ∧ ((decode cX10_rightNightsWith 7 = .ok (.bipush 99, 2) ∧ (decode cX10_rightNightsWith 9 = .ok (.if_icmp .gt 32, 3) ∧ decode cX10_rightNightsWith 12 = .ok (.aload_n 0, 1))) ∧ (decode cX10_rightNightsWith 13 = .ok (.iload_n 1, 1) ∧ (decode cX10_rightNightsWith 14 = .ok (.aload_n 0, 1) ∧ decode cX10_rightNightsWith 15 = .ok (.getfield 12, 3))))) ∧ (((decode cX10_rightNightsWith 18 = .ok (.getfield 61, 3) ∧ (decode cX10_rightNightsWith 21 = .ok (.iload_n 1, 1) ∧ decode cX10_rightNightsWith 22 = .ok (.iaload, 1))) ∧ (decode cX10_rightNightsWith 23 = .ok (.iload_n 2, 1) ∧ (decode cX10_rightNightsWith 24 = .ok (.iload 4, 2) ∧ decode cX10_rightNightsWith 26 = .ok (.invokevirtual 87, 3)))) ∧ ((decode cX10_rightNightsWith 29 = .ok (.ifCond .eq 6, 3) ∧ (decode cX10_rightNightsWith 32 = .ok (.iinc 3 1, 3) ∧ decode cX10_rightNightsWith 35 = .ok (.iinc 4 1, 3))) ∧ (decode cX10_rightNightsWith 38 = .ok (.goto (-33), 3) ∧ (decode cX10_rightNightsWith 41 = .ok (.iload_n 3, 1) ∧ decode cX10_rightNightsWith 42 = .ok (.ireturn, 1)))))) := ⟨by decide +kernel, by decide +kernel⟩
def X10_rightNightsWith_b35 (rk5 : St → Int → Int → Int → Int → Int → Rs) (s : St) (x0 x1 x2 x3 x4 : Int) : Rs :=
  rk5 s x0 x1 x2 x3 (w32 (x4 + 1))
set_option maxRecDepth 100000 in
set_option maxHeartbeats 4000000 in
theorem X10_rightNightsWith_b35_s (G : Gx) (l : Launch) (rk5 : St → Int → Int → Int → Int → Int → Rs) (hk5 : ∀ (s : St) (x0 x1 x2 x3 x4 : Int), V G l mX10_rightNightsWith 5 [(0, (2, x0)), (1, (0, x1)), (2, (0, x2)), (3, (0, x3)), (4, (0, x4))] [] s (rk5 s x0 x1 x2 x3 x4)) (s : St) (x0 x1 x2 x3 x4 : Int) : V G l mX10_rightNightsWith 35 [(0, (2, x0)), (1, (0, x1)), (2, (0, x2)), (3, (0, x3)), (4, (0, x4))] [] s (X10_rightNightsWith_b35 rk5 s x0 x1 x2 x3 x4) := by
  unfold X10_rightNightsWith_b35
  refine V_iinc (lv' := [(4, (0, (w32 (x4 + 1)))), (0, (2, x0)), (1, (0, x1)), (2, (0, x2)), (3, (0, x3))]) dec_X10_rightNightsWith.2.2.1.2.2 4 rfl (by decide) rfl ?_
  refine V_goto (tgt := 5) dec_X10_rightNightsWith.2.2.2.1 (by decide) ?_
  exact V_pick [1, 2, 3, 4, 0] rfl (hk5 s x0 x1 x2 x3 (w32 (x4 + 1)))
def X10_rightNightsWith_b5_body (rk5 : St → Int → Int → Int → Int → Int → Rs) (s : St) (x0 x1 x2 x3 x4 : Int) : Rs :=
  if (99 : Int) < x4 then (some (x3, s)) else (grd (isK s 20 x0) (grd (isK s 16 (gR s x0 1)) (grd (isK s 1 (gR s (gR s x0 1) 2) ∧ 0 ≤ x1 ∧ x1 < ln s (gR s (gR s x0 1) 2)) (grd (isK s 20 x0) (bnd (X10_isRightWith s x0 x1 (gI s (gR s (gR s x0 1) 2) x1.toNat) x2 x4) (fun r1 s2 => if r1 = 0 then (X10_rightNightsWith_b35 rk5 s2 x0 x1 x2 x3 x4) else (X10_rightNightsWith_b35 rk5 s2 x0 x1 x2 (w32 (x3 + 1)) x4)))))))
def X10_rightNightsWith_b5 (n : Nat) (s : St) (x0 x1 x2 x3 x4 : Int) : Rs := iter (fun (rec : St × Int × Int × Int × Int × Int → Rs) (a : St × Int × Int × Int × Int × Int) => X10_rightNightsWith_b5_body (fun (s : St) (x0 x1 x2 x3 x4 : Int) => rec (s, x0, x1, x2, x3, x4)) a.1 a.2.1 a.2.2.1 a.2.2.2.1 a.2.2.2.2.1 a.2.2.2.2.2) n (s, x0, x1, x2, x3, x4)
theorem X10_rightNightsWith_b5_0 (s : St) (x0 x1 x2 x3 x4 : Int) : X10_rightNightsWith_b5 0 s x0 x1 x2 x3 x4 = none := rfl
theorem X10_rightNightsWith_b5_1 (n : Nat) (s : St) (x0 x1 x2 x3 x4 : Int) : X10_rightNightsWith_b5 (n + 1) s x0 x1 x2 x3 x4 = X10_rightNightsWith_b5_body (X10_rightNightsWith_b5 n) s x0 x1 x2 x3 x4 := rfl
set_option maxRecDepth 100000 in
set_option maxHeartbeats 4000000 in
theorem X10_rightNightsWith_b5_body_s (G : Gx) (l : Launch) (rk5 : St → Int → Int → Int → Int → Int → Rs) (hk5 : ∀ (s : St) (x0 x1 x2 x3 x4 : Int), V G l mX10_rightNightsWith 5 [(0, (2, x0)), (1, (0, x1)), (2, (0, x2)), (3, (0, x3)), (4, (0, x4))] [] s (rk5 s x0 x1 x2 x3 x4)) (s : St) (x0 x1 x2 x3 x4 : Int) : V G l mX10_rightNightsWith 5 [(0, (2, x0)), (1, (0, x1)), (2, (0, x2)), (3, (0, x3)), (4, (0, x4))] [] s (X10_rightNightsWith_b5_body rk5 s x0 x1 x2 x3 x4) := by
  unfold X10_rightNightsWith_b5_body
  refine V_iload dec_X10_rightNightsWith.1.1.2.2.2 4 rfl ?_
  refine V_bipush dec_X10_rightNightsWith.1.2.1.1 rfl ?_
  refine V_icmp_gt (tgt := 41) dec_X10_rightNightsWith.1.2.1.2.1 (by decide) ?_ ?_
  · refine V_iload_n dec_X10_rightNightsWith.2.2.2.2.1 3 rfl ?_
    exact V_iret rfl dec_X10_rightNightsWith.2.2.2.2.2
  · refine V_aload_n dec_X10_rightNightsWith.1.2.1.2.2 0 rfl ?_
    refine V_iload_n dec_X10_rightNightsWith.1.2.2.1 1 rfl ?_
    refine V_aload_n dec_X10_rightNightsWith.1.2.2.2.1 0 rfl ?_
    refine V_getR 10 1 nf_10_1 ft_10_1 fl_X10_12 dec_X10_rightNightsWith.1.2.2.2.2 ?_
    refine V_getR 6 2 nf_6_2 ft_6_2 fl_X10_61 dec_X10_rightNightsWith.2.1.1.1 ?_
    refine V_iload_n dec_X10_rightNightsWith.2.1.1.2.1 1 rfl ?_
    refine V_iald dec_X10_rightNightsWith.2.1.1.2.2 ?_
    refine V_iload_n dec_X10_rightNightsWith.2.1.2.1 2 rfl ?_
    refine V_iload dec_X10_rightNightsWith.2.1.2.2.1 4 rfl ?_
    refine V_callV0 (ci := 10) (a := x0) (As := [(0, x1), (0, (gI s (gR s (gR s x0 1) 2) x1.toNat)), (0, x2), (0, x4)]) (st := []) rfl rfl (X10_isRightWith_s G l s x0 x1 (gI s (gR s (gR s x0 1) 2) x1.toNat) x2 x4) cal_X10_isRightWith rfl ml_X10_87 rfl rfl dec_X10_rightNightsWith.2.1.2.2.2 (k_tag (tag := 0) rfl fun r1 s2 => ?_)
    refine V_if_eq (tgt := 35) dec_X10_rightNightsWith.2.2.1.1 (by decide) ?_ ?_
    · exact V_pick [0, 1, 2, 3, 4] rfl (X10_rightNightsWith_b35_s G l rk5 hk5 s2 x0 x1 x2 x3 x4)
    · refine V_iinc (lv' := [(3, (0, (w32 (x3 + 1)))), (0, (2, x0)), (1, (0, x1)), (2, (0, x2)), (4, (0, x4))]) dec_X10_rightNightsWith.2.2.1.2.1 3 rfl (by decide) rfl ?_
      exact V_pick [1, 2, 3, 0, 4] rfl (X10_rightNightsWith_b35_s G l rk5 hk5 s2 x0 x1 x2 (w32 (x3 + 1)) x4)
theorem X10_rightNightsWith_b5_s (G : Gx) (l : Launch) (n : Nat) (s : St) (x0 x1 x2 x3 x4 : Int) : V G l mX10_rightNightsWith 5 [(0, (2, x0)), (1, (0, x1)), (2, (0, x2)), (3, (0, x3)), (4, (0, x4))] [] s (X10_rightNightsWith_b5 n s x0 x1 x2 x3 x4) :=
  V_iter (LV := fun a : St × Int × Int × Int × Int × Int => [(0, (2, a.2.1)), (1, (0, a.2.2.1)), (2, (0, a.2.2.2.1)), (3, (0, a.2.2.2.2.1)), (4, (0, a.2.2.2.2.2))]) (ST := fun a : St × Int × Int × Int × Int × Int => []) (SS := fun a : St × Int × Int × Int × Int × Int => a.1) (fun rec hrec a => X10_rightNightsWith_b5_body_s G l (fun (s : St) (x0 x1 x2 x3 x4 : Int) => rec (s, x0, x1, x2, x3, x4)) (fun (s : St) (x0 x1 x2 x3 x4 : Int) => hrec (s, x0, x1, x2, x3, x4)) a.1 a.2.1 a.2.2.1 a.2.2.2.1 a.2.2.2.2.1 a.2.2.2.2.2) n (s, x0, x1, x2, x3, x4)
def X10_rightNightsWith (s : St) (a0 a1 a2 : Int) : Rs :=
  X10_rightNightsWith_b5 FU s a0 a1 a2 0 0
set_option maxRecDepth 100000 in
set_option maxHeartbeats 4000000 in
theorem X10_rightNightsWith_s (G : Gx) (l : Launch) (s : St) (a0 a1 a2 : Int) : Snd G l mX10_rightNightsWith [(2, a0), (0, a1), (0, a2)] s (X10_rightNightsWith s a0 a1 a2) := by
  refine Snd.of (by decide +kernel) rfl ?_
  show V G l mX10_rightNightsWith 0 [(0, (2, a0)), (1, (0, a1)), (2, (0, a2))] [] s _
  unfold X10_rightNightsWith
  refine V_iconst dec_X10_rightNightsWith.1.1.1.1 rfl ?_
  refine V_istore_n (lv' := [(3, (0, 0)), (0, (2, a0)), (1, (0, a1)), (2, (0, a2))]) dec_X10_rightNightsWith.1.1.1.2 (by decide) rfl ?_
  refine V_iconst dec_X10_rightNightsWith.1.1.2.1 rfl ?_
  refine V_istore (lv' := [(4, (0, 0)), (3, (0, 0)), (0, (2, a0)), (1, (0, a1)), (2, (0, a2))]) dec_X10_rightNightsWith.1.1.2.2.1 (by decide) rfl ?_
  exact V_pick [2, 3, 4, 1, 0] rfl (X10_rightNightsWith_b5_s G l FU s a0 a1 a2 0 0)
theorem dec_X11_copyRow : (((decode cX11_copyRow 0 = .ok (.aload_n 0, 1) ∧ decode cX11_copyRow 1 = .ok (.iconst 0, 1)) ∧ (decode cX11_copyRow 2 = .ok (.aload_n 1, 1) ∧ (decode cX11_copyRow 3 = .ok (.iconst 0, 1) ∧ decode cX11_copyRow 4 = .ok (.aload_n 0, 1)))) ∧ ((decode cX11_copyRow 5 = .ok (.arraylength, 1) ∧ (decode cX11_copyRow 6 = .ok (.aload_n 1, 1) ∧ decode cX11_copyRow 7 = .ok (.arraylength, 1))) ∧ (decode cX11_copyRow 8 = .ok (.invokestatic 383, 3) ∧ (decode cX11_copyRow 11 = .ok (.invokestatic 388, 3) ∧ decode cX11_copyRow 14 = .ok (.return_, 1))))) := by decide +kernel
def X11_copyRow (s : St) (a0 a1 : Int) : Rs :=
  grd (isK s 1 a0) (grd (isK s 1 a1) (bnd (JM_min s (ln s a0) (ln s a1)) (fun r1 s2 => grd (cpyOK s2 a0 0 a1 0 r1) (lets (cpy s2 a0 0 a1 0 r1) (fun s3 => some (0, s3))))))
set_option maxRecDepth 100000 in
set_option maxHeartbeats 4000000 in
theorem X11_copyRow_s (G : Gx) (l : Launch) (s : St) (a0 a1 : Int) : Snd G l mX11_copyRow [(2, a0), (2, a1)] s (X11_copyRow s a0 a1) := by
  refine Snd.of (by decide +kernel) rfl ?_
  show V G l mX11_copyRow 0 [(0, (2, a0)), (1, (2, a1))] [] s _
  unfold X11_copyRow
  refine V_aload_n dec_X11_copyRow.1.1.1 0 rfl ?_
  refine V_iconst dec_X11_copyRow.1.1.2 rfl ?_
  refine V_aload_n dec_X11_copyRow.1.2.1 1 rfl ?_
  refine V_iconst dec_X11_copyRow.1.2.2.1 rfl ?_
  refine V_aload_n dec_X11_copyRow.1.2.2.2 0 rfl ?_
  refine V_alen 1 (by decide) dec_X11_copyRow.2.1.1 ?_
  refine V_aload_n dec_X11_copyRow.2.1.2.1 1 rfl ?_
  refine V_alen 1 (by decide) dec_X11_copyRow.2.1.2.2 ?_
  refine V_callS0 (As := [(0, (ln s a0)), (0, (ln s a1))]) (st := [(0, 0), (2, a1), (0, 0), (2, a0)]) (host := "") rfl (JM_min_s G l s (ln s a0) (ln s a1)) cal_JM_min rfl (Or.inl ml_X11_383) rfl rfl dec_X11_copyRow.2.2.1 (k_tag (tag := 0) rfl fun r1 s2 => ?_)
  refine V_copy ml_X11_388 rfl rfl dec_X11_copyRow.2.2.2.1 ?_
  refine V_lets fun s3 => ?_
  exact V_vret rfl dec_X11_copyRow.2.2.2.2
theorem dec_X6_copy : ((((decode cX6_copy 0 = .ok (.aload_n 0, 1) ∧ decode cX6_copy 1 = .ok (.aload_n 1, 1)) ∧ (decode cX6_copy 2 = .ok (.getfield 21, 3) ∧ (decode cX6_copy 5 = .ok (.putfield 21, 3) ∧ decode cX6_copy 8 = .ok (.aload_n 1, 1)))) ∧ ((decode cX6_copy 9 = .ok (.getfield 9, 3) ∧ decode cX6_copy 12 = .ok (.aload_n 0, 1)) ∧ (decode cX6_copy 13 = .ok (.getfield 9, 3) ∧ (decode cX6_copy 16 = .ok (.invokestatic 25, 3) ∧ decode cX6_copy 19 = .ok (.aload_n 1, 1))))) ∧ (((decode cX6_copy 20 = .ok (.getfield 15, 3) ∧ decode cX6_copy 23 = .ok (.aload_n 0, 1)) ∧ (decode cX6_copy 24 = .ok (.getfield 15, 3) ∧ (decode cX6_copy 27 = .ok (.invokestatic 25, 3) ∧ decode cX6_copy 30 = .ok (.aload_n 1, 1)))) ∧ ((decode cX6_copy 31 = .ok (.getfield 18, 3) ∧ decode cX6_copy 34 = .ok (.aload_n 0, 1)) ∧ (decode cX6_copy 35 = .ok (.getfield 18, 3) ∧ (decode cX6_copy 38 = .ok (.invokestatic 25, 3) ∧ decode cX6_copy 41 = .ok (.return_, 1)))))) := ⟨by decide +kernel, by decide +kernel⟩
def X6_copy (s : St) (a0 a1 : Int) : Rs :=
  grd (isK s 16 a1) (grd (isK s 16 a0) (lets (pI s a0 0 (gI s a1 0)) (fun s1 => grd (isK s1 16 a1) (grd (isK s1 16 a0) (bnd (X11_copyRow s1 (gR s1 a1 1) (gR s1 a0 1)) (fun r2 s3 => grd (isK s3 16 a1) (grd (isK s3 16 a0) (bnd (X11_copyRow s3 (gR s3 a1 2) (gR s3 a0 2)) (fun r4 s5 => grd (isK s5 16 a1) (grd (isK s5 16 a0) (bnd (X11_copyRow s5 (gR s5 a1 3) (gR s5 a0 3)) (fun r6 s7 => some (0, s7)))))))))))))
set_option maxRecDepth 100000 in
set_option maxHeartbeats 4000000 in
theorem X6_copy_s (G : Gx) (l : Launch) (s : St) (a0 a1 : Int) : Snd G l mX6_copy [(2, a0), (2, a1)] s (X6_copy s a0 a1) := by
  refine Snd.of (by decide +kernel) rfl ?_
  show V G l mX6_copy 0 [(0, (2, a0)), (1, (2, a1))] [] s _
  unfold X6_copy
  refine V_aload_n dec_X6_copy.1.1.1.1 0 rfl ?_
  refine V_aload_n dec_X6_copy.1.1.1.2 1 rfl ?_
  refine V_getI 6 0 nf_6_0 ft_6_0 fl_X6_21 dec_X6_copy.1.1.2.1 ?_
  refine V_putI (host := "") 6 0 nf_6_0 ty_6_0 (Or.inl ⟨fl_X6_21, Or.inl rfl⟩) dec_X6_copy.1.1.2.2.1 ?_
  refine V_lets fun s1 => ?_
  refine V_aload_n dec_X6_copy.1.1.2.2.2 1 rfl ?_
  refine V_getR 6 1 nf_6_1 ft_6_1 fl_X6_9 dec_X6_copy.1.2.1.1 ?_
  refine V_aload_n dec_X6_copy.1.2.1.2 0 rfl ?_
  refine V_getR 6 1 nf_6_1 ft_6_1 fl_X6_9 dec_X6_copy.1.2.2.1 ?_
  refine V_callS0 (As := [(2, (gR s1 a1 1)), (2, (gR s1 a0 1))]) (st := []) (host := RX11) rfl (X11_copyRow_s G l s1 (gR s1 a1 1) (gR s1 a0 1)) cal_X11_copyRow rfl (Or.inr ml_X6_25) rfl rfl dec_X6_copy.1.2.2.2.1 (k_void rfl fun r2 s3 => ?_)
  refine V_aload_n dec_X6_copy.1.2.2.2.2 1 rfl ?_
  refine V_getR 6 2 nf_6_2 ft_6_2 fl_X6_15 dec_X6_copy.2.1.1.1 ?_
  refine V_aload_n dec_X6_copy.2.1.1.2 0 rfl ?_
  refine V_getR 6 2 nf_6_2 ft_6_2 fl_X6_15 dec_X6_copy.2.1.2.1 ?_
  refine V_callS0 (As := [(2, (gR s3 a1 2)), (2, (gR s3 a0 2))]) (st := []) (host := RX11) rfl (X11_copyRow_s G l s3 (gR s3 a1 2) (gR s3 a0 2)) cal_X11_copyRow rfl (Or.inr ml_X6_25) rfl rfl dec_X6_copy.2.1.2.2.1 (k_void rfl fun r4 s5 => ?_)
  refine V_aload_n dec_X6_copy.2.1.2.2.2 1 rfl ?_
  refine V_getR 6 3 nf_6_3 ft_6_3 fl_X6_18 dec_X6_copy.2.2.1.1 ?_
  refine V_aload_n dec_X6_copy.2.2.1.2 0 rfl ?_
  refine V_getR 6 3 nf_6_3 ft_6_3 fl_X6_18 dec_X6_copy.2.2.2.1 ?_
  refine V_callS0 (As := [(2, (gR s5 a1 3)), (2, (gR s5 a0 3))]) (st := []) (host := RX11) rfl (X11_copyRow_s G l s5 (gR s5 a1 3) (gR s5 a0 3)) cal_X11_copyRow rfl (Or.inr ml_X6_25) rfl rfl dec_X6_copy.2.2.2.2.1 (k_void rfl fun r6 s7 => ?_)
  exact V_vret rfl dec_X6_copy.2.2.2.2.2
theorem dec_X10_settle : ((((decode cX10_settle 0 = .ok (.aload_n 0, 1) ∧ decode cX10_settle 1 = .ok (.getfield 12, 3)) ∧ (decode cX10_settle 4 = .ok (.aload_n 1, 1) ∧ decode cX10_settle 5 = .ok (.invokevirtual 29, 3))) ∧ ((decode cX10_settle 8 = .ok (.aload_n 0, 1) ∧ decode cX10_settle 9 = .ok (.getfield 21, 3)) ∧ (decode cX10_settle 12 = .ok (.aload_n 0, 1) ∧ decode cX10_settle 13 = .ok (.getfield 25, 3)))) ∧ (((decode cX10_settle 16 = .ok (.getfield 33, 3) ∧ decode cX10_settle 19 = .ok (.aload_n 0, 1)) ∧ (decode cX10_settle 20 = .ok (.getfield 12, 3) ∧ decode cX10_settle 23 = .ok (.getfield 39, 3))) ∧ ((decode cX10_settle 26 = .ok (.aload_n 0, 1) ∧ decode cX10_settle 27 = .ok (.getfield 25, 3)) ∧ (decode cX10_settle 30 = .ok (.getfield 43, 3) ∧ (decode cX10_settle 33 = .ok (.invokevirtual 46, 3) ∧ decode cX10_settle 36 = .ok (.return_, 1)))))) := ⟨by decide +kernel, by decide +kernel⟩
def X10_settle (s : St) (a0 a1 : Int) : Rs :=
  grd (isK s 20 a0) (grd (isK s 16 (gR s a0 1)) (bnd (X6_copy s (gR s a0 1) a1) (fun r1 s2 => grd (isK s2 20 a0) (grd (isK s2 20 a0) (grd (isK s2 19 (gR s2 a0 0)) (grd (isK s2 20 a0) (grd (isK s2 16 (gR s2 a0 1)) (grd (isK s2 20 a0) (grd (isK s2 19 (gR s2 a0 0)) (grd (isK s2 17 (gR s2 a0 2)) (bnd (X7_lay s2 (gR s2 a0 2) (gI s2 (gR s2 a0 0) 0) (gR s2 (gR s2 a0 1) 1) (gI s2 (gR s2 a0 0) 2)) (fun r3 s4 => some (0, s4)))))))))))))
set_option maxRecDepth 100000 in
set_option maxHeartbeats 4000000 in
theorem X10_settle_s (G : Gx) (l : Launch) (s : St) (a0 a1 : Int) : Snd G l mX10_settle [(2, a0), (2, a1)] s (X10_settle s a0 a1) := by
  refine Snd.of (by decide +kernel) rfl ?_
  show V G l mX10_settle 0 [(0, (2, a0)), (1, (2, a1))] [] s _
  unfold X10_settle
  refine V_aload_n dec_X10_settle.1.1.1.1 0 rfl ?_
  refine V_getR 10 1 nf_10_1 ft_10_1 fl_X10_12 dec_X10_settle.1.1.1.2 ?_
  refine V_aload_n dec_X10_settle.1.1.2.1 1 rfl ?_
  refine V_callV0 (ci := 6) (a := (gR s a0 1)) (As := [(2, a1)]) (st := []) rfl rfl (X6_copy_s G l s (gR s a0 1) a1) cal_X6_copy rfl ml_X10_29 rfl rfl dec_X10_settle.1.1.2.2 (k_void rfl fun r1 s2 => ?_)
  refine V_aload_n dec_X10_settle.1.2.1.1 0 rfl ?_
  refine V_getR 10 2 nf_10_2 ft_10_2 fl_X10_21 dec_X10_settle.1.2.1.2 ?_
  refine V_aload_n dec_X10_settle.1.2.2.1 0 rfl ?_
  refine V_getR 10 0 nf_10_0 ft_10_0 fl_X10_25 dec_X10_settle.1.2.2.2 ?_
  refine V_getI 9 0 nf_9_0 ft_9_0 fl_X10_33 dec_X10_settle.2.1.1.1 ?_
  refine V_aload_n dec_X10_settle.2.1.1.2 0 rfl ?_
  refine V_getR 10 1 nf_10_1 ft_10_1 fl_X10_12 dec_X10_settle.2.1.2.1 ?_
  refine V_getR 6 1 nf_6_1 ft_6_1 fl_X10_39 dec_X10_settle.2.1.2.2 ?_
  refine V_aload_n dec_X10_settle.2.2.1.1 0 rfl ?_
  refine V_getR 10 0 nf_10_0 ft_10_0 fl_X10_25 dec_X10_settle.2.2.1.2 ?_
  refine V_getI 9 2 nf_9_2 ft_9_2 fl_X10_43 dec_X10_settle.2.2.2.1 ?_
  refine V_callV0 (ci := 7) (a := (gR s2 a0 2)) (As := [(0, (gI s2 (gR s2 a0 0) 0)), (2, (gR s2 (gR s2 a0 1) 1)), (0, (gI s2 (gR s2 a0 0) 2))]) (st := []) rfl rfl (X7_lay_s G l s2 (gR s2 a0 2) (gI s2 (gR s2 a0 0) 0) (gR s2 (gR s2 a0 1) 1) (gI s2 (gR s2 a0 0) 2)) cal_X7_lay rfl ml_X10_46 rfl rfl dec_X10_settle.2.2.2.2.1 (k_void rfl fun r3 s4 => ?_)
  exact V_vret rfl dec_X10_settle.2.2.2.2.2
theorem dec_X11_isNoNight : (((decode cX11_isNoNight 0 = .ok (.iload_n 0, 1) ∧ decode cX11_isNoNight 1 = .ok (.ifCond .lt 9, 3)) ∧ (decode cX11_isNoNight 4 = .ok (.iload_n 0, 1) ∧ decode cX11_isNoNight 5 = .ok (.bipush 99, 2))) ∧ ((decode cX11_isNoNight 7 = .ok (.if_icmp .le 7, 3) ∧ decode cX11_isNoNight 10 = .ok (.iconst 1, 1)) ∧ (decode cX11_isNoNight 11 = .ok (.goto 4, 3) ∧ (decode cX11_isNoNight 14 = .ok (.iconst 0, 1) ∧ decode cX11_isNoNight 15 = .ok (.ireturn, 1))))) := by decide +kernel
def X11_isNoNight_b15 (s : St) (k0 : Int) : Rs :=
  grd (k0 = 0 ∨ k0 = 1) (some (k0, s))
set_option maxRecDepth 100000 in
set_option maxHeartbeats 4000000 in
theorem X11_isNoNight_b15_s (G : Gx) (l : Launch) (s : St) (k0 : Int) : V G l mX11_isNoNight 15 [] [(0, k0)] s (X11_isNoNight_b15 s k0) := by
  unfold X11_isNoNight_b15
  exact V_zret rfl dec_X11_isNoNight.2.2.2.2
def X11_isNoNight_b10 (s : St) : Rs :=
  X11_isNoNight_b15 s 1
set_option maxRecDepth 100000 in
set_option maxHeartbeats 4000000 in
theorem X11_isNoNight_b10_s (G : Gx) (l : Launch) (s : St) : V G l mX11_isNoNight 10 [] [] s (X11_isNoNight_b10 s) := by
  unfold X11_isNoNight_b10
  refine V_iconst dec_X11_isNoNight.2.1.2 rfl ?_
  refine V_goto (tgt := 15) dec_X11_isNoNight.2.2.1 (by decide) ?_
  exact V_pick [] rfl (X11_isNoNight_b15_s G l s 1)
def X11_isNoNight (s : St) (a0 : Int) : Rs :=
  if a0 < 0 then (X11_isNoNight_b10 s) else (if a0 ≤ (99 : Int) then (X11_isNoNight_b15 s 0) else (X11_isNoNight_b10 s))
set_option maxRecDepth 100000 in
set_option maxHeartbeats 4000000 in
theorem X11_isNoNight_s (G : Gx) (l : Launch) (s : St) (a0 : Int) : Snd G l mX11_isNoNight [(0, a0)] s (X11_isNoNight s a0) := by
  refine Snd.of (by decide +kernel) rfl ?_
  show V G l mX11_isNoNight 0 [(0, (0, a0))] [] s _
  unfold X11_isNoNight
  refine V_iload_n dec_X11_isNoNight.1.1.1 0 rfl ?_
  refine V_if_lt (tgt := 10) dec_X11_isNoNight.1.1.2 (by decide) ?_ ?_
  · exact V_pick [] rfl (X11_isNoNight_b10_s G l s)
  · refine V_iload_n dec_X11_isNoNight.1.2.1 0 rfl ?_
    refine V_bipush dec_X11_isNoNight.1.2.2 rfl ?_
    refine V_icmp_le (tgt := 14) dec_X11_isNoNight.2.1.1 (by decide) ?_ ?_
    · refine V_iconst dec_X11_isNoNight.2.2.2.1 rfl ?_
      exact V_pick [] rfl (X11_isNoNight_b15_s G l s 0)
    · exact V_pick [] rfl (X11_isNoNight_b10_s G l s)
theorem dec_X11_isNoDead : (((decode cX11_isNoDead 0 = .ok (.iload_n 1, 1) ∧ decode cX11_isNoDead 1 = .ok (.ifCond .lt 14, 3)) ∧ (decode cX11_isNoDead 4 = .ok (.iload_n 1, 1) ∧ (decode cX11_isNoDead 5 = .ok (.aload_n 0, 1) ∧ decode cX11_isNoDead 6 = .ok (.getfield 27, 3)))) ∧ ((decode cX11_isNoDead 9 = .ok (.getfield 225, 3) ∧ (decode cX11_isNoDead 12 = .ok (.if_icmp .lt 7, 3) ∧ decode cX11_isNoDead 15 = .ok (.iconst 1, 1))) ∧ (decode cX11_isNoDead 16 = .ok (.goto 4, 3) ∧ (decode cX11_isNoDead 19 = .ok (.iconst 0, 1) ∧ decode cX11_isNoDead 20 = .ok (.ireturn, 1))))) := by decide +kernel
def X11_isNoDead_b20 (s : St) (k0 : Int) : Rs :=
  grd (k0 = 0 ∨ k0 = 1) (some (k0, s))
set_option maxRecDepth 100000 in
set_option maxHeartbeats 4000000 in
theorem X11_isNoDead_b20_s (G : Gx) (l : Launch) (s : St) (k0 : Int) : V G l mX11_isNoDead 20 [] [(0, k0)] s (X11_isNoDead_b20 s k0) := by
  unfold X11_isNoDead_b20
  exact V_zret rfl dec_X11_isNoDead.2.2.2.2
def X11_isNoDead_b15 (s : St) : Rs :=
  X11_isNoDead_b20 s 1
set_option maxRecDepth 100000 in
set_option maxHeartbeats 4000000 in
theorem X11_isNoDead_b15_s (G : Gx) (l : Launch) (s : St) : V G l mX11_isNoDead 15 [] [] s (X11_isNoDead_b15 s) := by
  unfold X11_isNoDead_b15
  refine V_iconst dec_X11_isNoDead.2.1.2.2 rfl ?_
  refine V_goto (tgt := 20) dec_X11_isNoDead.2.2.1 (by decide) ?_
  exact V_pick [] rfl (X11_isNoDead_b20_s G l s 1)
def X11_isNoDead (s : St) (a0 a1 : Int) : Rs :=
  if a1 < 0 then (X11_isNoDead_b15 s) else (grd (isK s 21 a0) (grd (isK s 19 (gR s a0 6)) (if a1 < (gI s (gR s a0 6) 3) then (X11_isNoDead_b20 s 0) else (X11_isNoDead_b15 s))))
set_option maxRecDepth 100000 in
set_option maxHeartbeats 4000000 in
theorem X11_isNoDead_s (G : Gx) (l : Launch) (s : St) (a0 a1 : Int) : Snd G l mX11_isNoDead [(2, a0), (0, a1)] s (X11_isNoDead s a0 a1) := by
  refine Snd.of (by decide +kernel) rfl ?_
  show V G l mX11_isNoDead 0 [(0, (2, a0)), (1, (0, a1))] [] s _
  unfold X11_isNoDead
  refine V_iload_n dec_X11_isNoDead.1.1.1 1 rfl ?_
  refine V_if_lt (tgt := 15) dec_X11_isNoDead.1.1.2 (by decide) ?_ ?_
  · exact V_pick [] rfl (X11_isNoDead_b15_s G l s)
  · refine V_iload_n dec_X11_isNoDead.1.2.1 1 rfl ?_
    refine V_aload_n dec_X11_isNoDead.1.2.2.1 0 rfl ?_
    refine V_getR 11 6 nf_11_6 ft_11_6 fl_X11_27 dec_X11_isNoDead.1.2.2.2 ?_
    refine V_getI 9 3 nf_9_3 ft_9_3 fl_X11_225 dec_X11_isNoDead.2.1.1 ?_
    refine V_icmp_lt (tgt := 19) dec_X11_isNoDead.2.1.2.1 (by decide) ?_ ?_
    · refine V_iconst dec_X11_isNoDead.2.2.2.1 rfl ?_
      exact V_pick [] rfl (X11_isNoDead_b20_s G l s 0)
    · exact V_pick [] rfl (X11_isNoDead_b15_s G l s)
theorem dec_X11_isNoPerson : (((decode cX11_isNoPerson 0 = .ok (.iload_n 1, 1) ∧ decode cX11_isNoPerson 1 = .ok (.ifCond .lt 14, 3)) ∧ (decode cX11_isNoPerson 4 = .ok (.iload_n 1, 1) ∧ (decode cX11_isNoPerson 5 = .ok (.aload_n 0, 1) ∧ decode cX11_isNoPerson 6 = .ok (.getfield 27, 3)))) ∧ ((decode cX11_isNoPerson 9 = .ok (.getfield 133, 3) ∧ (decode cX11_isNoPerson 12 = .ok (.if_icmp .lt 7, 3) ∧ decode cX11_isNoPerson 15 = .ok (.iconst 1, 1))) ∧ (decode cX11_isNoPerson 16 = .ok (.goto 4, 3) ∧ (decode cX11_isNoPerson 19 = .ok (.iconst 0, 1) ∧ decode cX11_isNoPerson 20 = .ok (.ireturn, 1))))) := by decide +kernel
def X11_isNoPerson_b20 (s : St) (k0 : Int) : Rs :=
  grd (k0 = 0 ∨ k0 = 1) (some (k0, s))
set_option maxRecDepth 100000 in
set_option maxHeartbeats 4000000 in
theorem X11_isNoPerson_b20_s (G : Gx) (l : Launch) (s : St) (k0 : Int) : V G l mX11_isNoPerson 20 [] [(0, k0)] s (X11_isNoPerson_b20 s k0) := by
  unfold X11_isNoPerson_b20
  exact V_zret rfl dec_X11_isNoPerson.2.2.2.2
def X11_isNoPerson_b15 (s : St) : Rs :=
  X11_isNoPerson_b20 s 1
set_option maxRecDepth 100000 in
set_option maxHeartbeats 4000000 in
theorem X11_isNoPerson_b15_s (G : Gx) (l : Launch) (s : St) : V G l mX11_isNoPerson 15 [] [] s (X11_isNoPerson_b15 s) := by
  unfold X11_isNoPerson_b15
  refine V_iconst dec_X11_isNoPerson.2.1.2.2 rfl ?_
  refine V_goto (tgt := 20) dec_X11_isNoPerson.2.2.1 (by decide) ?_
  exact V_pick [] rfl (X11_isNoPerson_b20_s G l s 1)
def X11_isNoPerson (s : St) (a0 a1 : Int) : Rs :=
  if a1 < 0 then (X11_isNoPerson_b15 s) else (grd (isK s 21 a0) (grd (isK s 19 (gR s a0 6)) (if a1 < (gI s (gR s a0 6) 2) then (X11_isNoPerson_b20 s 0) else (X11_isNoPerson_b15 s))))
set_option maxRecDepth 100000 in
set_option maxHeartbeats 4000000 in
theorem X11_isNoPerson_s (G : Gx) (l : Launch) (s : St) (a0 a1 : Int) : Snd G l mX11_isNoPerson [(2, a0), (0, a1)] s (X11_isNoPerson s a0 a1) := by
  refine Snd.of (by decide +kernel) rfl ?_
  show V G l mX11_isNoPerson 0 [(0, (2, a0)), (1, (0, a1))] [] s _
  unfold X11_isNoPerson
  refine V_iload_n dec_X11_isNoPerson.1.1.1 1 rfl ?_
  refine V_if_lt (tgt := 15) dec_X11_isNoPerson.1.1.2 (by decide) ?_ ?_
  · exact V_pick [] rfl (X11_isNoPerson_b15_s G l s)
  · refine V_iload_n dec_X11_isNoPerson.1.2.1 1 rfl ?_
    refine V_aload_n dec_X11_isNoPerson.1.2.2.1 0 rfl ?_
    refine V_getR 11 6 nf_11_6 ft_11_6 fl_X11_27 dec_X11_isNoPerson.1.2.2.2 ?_
    refine V_getI 9 2 nf_9_2 ft_9_2 fl_X11_133 dec_X11_isNoPerson.2.1.1 ?_
    refine V_icmp_lt (tgt := 19) dec_X11_isNoPerson.2.1.2.1 (by decide) ?_ ?_
    · refine V_iconst dec_X11_isNoPerson.2.2.2.1 rfl ?_
      exact V_pick [] rfl (X11_isNoPerson_b20_s G l s 0)
    · exact V_pick [] rfl (X11_isNoPerson_b15_s G l s)
