theorem dec_X13_moveFor : ((((((decode cX13_moveFor 0 = .ok (.aload_n 0, 1) ∧ decode cX13_moveFor 1 = .ok (.iconst 0, 1)) ∧ (decode cX13_moveFor 2 = .ok (.putfield 49, 3) ∧ decode cX13_moveFor 5 = .ok (.aload_n 0, 1))) ∧ ((decode cX13_moveFor 6 = .ok (.aload_n 0, 1) ∧ decode cX13_moveFor 7 = .ok (.iload_n 1, 1)) ∧ (decode cX13_moveFor 8 = .ok (.invokevirtual 339, 3) ∧ decode cX13_moveFor 11 = .ok (.iload_n 2, 1)))) ∧ (((decode cX13_moveFor 12 = .ok (.invokevirtual 354, 3) ∧ decode cX13_moveFor 15 = .ok (.istore_n 3, 1)) ∧ (decode cX13_moveFor 16 = .ok (.iload_n 3, 1) ∧ decode cX13_moveFor 17 = .ok (.ifCond .le 9, 3))) ∧ ((decode cX13_moveFor 20 = .ok (.aload_n 0, 1) ∧ decode cX13_moveFor 21 = .ok (.iload_n 3, 1)) ∧ (decode cX13_moveFor 22 = .ok (.invokevirtual 55, 3) ∧ decode cX13_moveFor 25 = .ok (.ireturn, 1))))) ∧ ((((decode cX13_moveFor 26 = .ok (.aload_n 0, 1) ∧ decode cX13_moveFor 27 = .ok (.invokevirtual 342, 3)) ∧ (decode cX13_moveFor 30 = .ok (.bipush (-2), 2) ∧ decode cX13_moveFor 32 = .ok (.istore 4, 2))) ∧ ((decode cX13_moveFor 34 = .ok (.aload_n 0, 1) ∧ decode cX13_moveFor 35 = .ok (.iload_n 2, 1)) ∧ (decode cX13_moveFor 36 = .ok (.invokevirtual 358, 3) ∧ decode cX13_moveFor 39 = .ok (.invokestatic 361, 3)))) ∧ (((decode cX13_moveFor 42 = .ok (.istore 5, 2) ∧ decode cX13_moveFor 44 = .ok (.iconst 0, 1)) ∧ (decode cX13_moveFor 45 = .ok (.istore 6, 2) ∧ decode cX13_moveFor 47 = .ok (.iload 6, 2))) ∧ ((decode cX13_moveFor 49 = .ok (.aload_n 0, 1) ∧ decode cX13_moveFor 50 = .ok (.getfield 303, 3)) ∧ (decode cX13_moveFor 53 = .ok (.getfield 159, 3) ∧ decode cX13_moveFor 56 = .ok (.if_icmp .ge 63, 3)))))) ∧ (((((decode cX13_moveFor 59 = .ok (.aload_n 0, 1) ∧ decode cX13_moveFor 60 = .ok (.invokevirtual 342, 3)) ∧ (decode cX13_moveFor 63 = .ok (.aload_n 0, 1) ∧ decode cX13_moveFor 64 = .ok (.iload 6, 2))) ∧ ((decode cX13_moveFor 66 = .ok (.invokevirtual 320, 3) ∧ decode cX13_moveFor 69 = .ok (.bipush (-2), 2)) ∧ (decode cX13_moveFor 71 = .ok (.if_icmp .eq 6, 3) ∧ decode cX13_moveFor 74 = .ok (.goto 39, 3)))) ∧ (((decode cX13_moveFor 77 = .ok (.aload_n 0, 1) ∧ decode cX13_moveFor 78 = .ok (.getfield 21, 3)) ∧ (decode cX13_moveFor 81 = .ok (.iload_n 1, 1) ∧ decode cX13_moveFor 82 = .ok (.iload 6, 2))) ∧ ((decode cX13_moveFor 84 = .ok (.iastore, 1) ∧ decode cX13_moveFor 85 = .ok (.aload_n 0, 1)) ∧ (decode cX13_moveFor 86 = .ok (.iload_n 2, 1) ∧ decode cX13_moveFor 87 = .ok (.invokevirtual 358, 3))))) ∧ ((((decode cX13_moveFor 90 = .ok (.invokestatic 361, 3) ∧ decode cX13_moveFor 93 = .ok (.istore 7, 2)) ∧ (decode cX13_moveFor 95 = .ok (.iload 7, 2) ∧ decode cX13_moveFor 97 = .ok (.iload 5, 2))) ∧ ((decode cX13_moveFor 99 = .ok (.if_icmp .gt 6, 3) ∧ decode cX13_moveFor 102 = .ok (.goto 11, 3)) ∧ (decode cX13_moveFor 105 = .ok (.iload 7, 2) ∧ decode cX13_moveFor 107 = .ok (.istore 5, 2)))) ∧ (((decode cX13_moveFor 109 = .ok (.iload 6, 2) ∧ decode cX13_moveFor 111 = .ok (.istore 4, 2)) ∧ (decode cX13_moveFor 113 = .ok (.iinc 6 1, 3) ∧ decode cX13_moveFor 116 = .ok (.goto (-69), 3))) ∧ ((decode cX13_moveFor 119 = .ok (.aload_n 0, 1) ∧ decode cX13_moveFor 120 = .ok (.iload 4, 2)) ∧ (decode cX13_moveFor 122 = .ok (.invokevirtual 59, 3) ∧ decode cX13_moveFor 125 = .ok (.ireturn, 1))))))) := ⟨⟨⟨by decide +kernel, by decide +kernel⟩, ⟨by decide +kernel, by decide +kernel⟩⟩, ⟨⟨by decide +kernel, by decide +kernel⟩, ⟨by decide +kernel, by decide +kernel⟩⟩⟩
def X13_moveFor_b113 (rk47 : St → Int → Int → Int → Int → Int → Int → Rs) (s : St) (x0 x1 x2 x4 x5 x6 : Int) : Rs :=
  rk47 s x0 x1 x2 x4 x5 (w32 (x6 + 1))
set_option maxRecDepth 100000 in
set_option maxHeartbeats 4000000 in
theorem X13_moveFor_b113_s (G : Gx) (l : Launch) (rk47 : St → Int → Int → Int → Int → Int → Int → Rs) (hk47 : ∀ (s : St) (x0 x1 x2 x4 x5 x6 : Int), V G l mX13_moveFor 47 [(0, (2, x0)), (1, (0, x1)), (2, (0, x2)), (4, (0, x4)), (5, (0, x5)), (6, (0, x6))] [] s (rk47 s x0 x1 x2 x4 x5 x6)) (s : St) (x0 x1 x2 x4 x5 x6 : Int) : V G l mX13_moveFor 113 [(0, (2, x0)), (1, (0, x1)), (2, (0, x2)), (4, (0, x4)), (5, (0, x5)), (6, (0, x6))] [] s (X13_moveFor_b113 rk47 s x0 x1 x2 x4 x5 x6) := by
  unfold X13_moveFor_b113
  refine V_iinc (lv' := [(6, (0, (w32 (x6 + 1)))), (0, (2, x0)), (1, (0, x1)), (2, (0, x2)), (4, (0, x4)), (5, (0, x5))]) dec_X13_moveFor.2.2.2.1.2.1 5 rfl (by decide) rfl ?_
  refine V_goto (tgt := 47) dec_X13_moveFor.2.2.2.1.2.2 (by decide) ?_
  exact V_pick [1, 2, 3, 4, 5, 0] rfl (hk47 s x0 x1 x2 x4 x5 (w32 (x6 + 1)))
def X13_moveFor_b47_body (rk47 : St → Int → Int → Int → Int → Int → Int → Rs) (s : St) (x0 x1 x2 x4 x5 x6 : Int) : Rs :=
  grd (isK s 23 x0) (grd (isK s 22 (gR s x0 3)) (if (gI s (gR s x0 3) 0) ≤ x6 then (grd (isK s 23 x0) (bnd (X13_good s x0 x4) (fun r12 s13 => some (r12, s13)))) else (grd (isK s 23 x0) (bnd (X13_works s x0) (fun r14 s15 => grd (isK s15 23 x0) (bnd (X13_whoIn s15 x0 x6) (fun r16 s17 => if r16 = ((-2) : Int) then (grd (isK s17 23 x0) (grd (isK s17 1 (gR s17 x0 16) ∧ 0 ≤ x1 ∧ x1 < ln s17 (gR s17 x0 16)) (lets (pI s17 (gR s17 x0 16) x1.toNat x6) (fun s18 => grd (isK s18 23 x0) (bnd (X13_rightOn s18 x0 x2) (fun r19 s20 => bnd (X13_bits s20 r19) (fun r21 s22 => if x5 < r21 then (X13_moveFor_b113 rk47 s22 x0 x1 x2 x6 r21 x6) else (X13_moveFor_b113 rk47 s22 x0 x1 x2 x4 x5 x6)))))))) else (X13_moveFor_b113 rk47 s17 x0 x1 x2 x4 x5 x6))))))))
def X13_moveFor_b47 (n : Nat) (s : St) (x0 x1 x2 x4 x5 x6 : Int) : Rs := iter (fun (rec : St × Int × Int × Int × Int × Int × Int → Rs) (a : St × Int × Int × Int × Int × Int × Int) => X13_moveFor_b47_body (fun (s : St) (x0 x1 x2 x4 x5 x6 : Int) => rec (s, x0, x1, x2, x4, x5, x6)) a.1 a.2.1 a.2.2.1 a.2.2.2.1 a.2.2.2.2.1 a.2.2.2.2.2.1 a.2.2.2.2.2.2) n (s, x0, x1, x2, x4, x5, x6)
theorem X13_moveFor_b47_0 (s : St) (x0 x1 x2 x4 x5 x6 : Int) : X13_moveFor_b47 0 s x0 x1 x2 x4 x5 x6 = none := rfl
theorem X13_moveFor_b47_1 (n : Nat) (s : St) (x0 x1 x2 x4 x5 x6 : Int) : X13_moveFor_b47 (n + 1) s x0 x1 x2 x4 x5 x6 = X13_moveFor_b47_body (X13_moveFor_b47 n) s x0 x1 x2 x4 x5 x6 := rfl
set_option maxRecDepth 100000 in
set_option maxHeartbeats 4000000 in
theorem X13_moveFor_b47_body_s (G : Gx) (l : Launch) (rk47 : St → Int → Int → Int → Int → Int → Int → Rs) (hk47 : ∀ (s : St) (x0 x1 x2 x4 x5 x6 : Int), V G l mX13_moveFor 47 [(0, (2, x0)), (1, (0, x1)), (2, (0, x2)), (4, (0, x4)), (5, (0, x5)), (6, (0, x6))] [] s (rk47 s x0 x1 x2 x4 x5 x6)) (s : St) (x0 x1 x2 x4 x5 x6 : Int) : V G l mX13_moveFor 47 [(0, (2, x0)), (1, (0, x1)), (2, (0, x2)), (4, (0, x4)), (5, (0, x5)), (6, (0, x6))] [] s (X13_moveFor_b47_body rk47 s x0 x1 x2 x4 x5 x6) := by
  unfold X13_moveFor_b47_body
  refine V_iload dec_X13_moveFor.1.2.2.1.2.2 5 rfl ?_
  refine V_aload_n dec_X13_moveFor.1.2.2.2.1.1 0 rfl ?_
  refine V_getR 13 3 nf_13_3 ft_13_3 fl_X13_303 dec_X13_moveFor.1.2.2.2.1.2 ?_
  refine V_getIN RX13 12 0 nf_12_0 ft_12_0 fl_X13_159 dec_X13_moveFor.1.2.2.2.2.1 ?_
  refine V_icmp_ge (tgt := 119) dec_X13_moveFor.1.2.2.2.2.2 (by decide) ?_ ?_
  · refine V_aload_n dec_X13_moveFor.2.2.2.2.1.1 0 rfl ?_
    refine V_iload dec_X13_moveFor.2.2.2.2.1.2 3 rfl ?_
    refine V_callV0 (ci := 13) (a := x0) (As := [(0, x4)]) (st := []) rfl rfl (X13_good_s G l s x0 x4) cal_X13_good rfl ml_X13_59 rfl rfl dec_X13_moveFor.2.2.2.2.2.1 (k_tag (tag := 0) rfl fun r12 s13 => ?_)
    exact V_iret rfl dec_X13_moveFor.2.2.2.2.2.2
  · refine V_aload_n dec_X13_moveFor.2.1.1.1.1.1 0 rfl ?_
    refine V_callV0 (ci := 13) (a := x0) (As := []) (st := []) rfl rfl (X13_works_s G l s x0) cal_X13_works rfl ml_X13_342 rfl rfl dec_X13_moveFor.2.1.1.1.1.2 (k_void rfl fun r14 s15 => ?_)
    refine V_aload_n dec_X13_moveFor.2.1.1.1.2.1 0 rfl ?_
    refine V_iload dec_X13_moveFor.2.1.1.1.2.2 5 rfl ?_
    refine V_callV0 (ci := 13) (a := x0) (As := [(0, x6)]) (st := []) rfl rfl (X13_whoIn_s G l s15 x0 x6) cal_X13_whoIn rfl ml_X13_320 rfl rfl dec_X13_moveFor.2.1.1.2.1.1 (k_tag (tag := 0) rfl fun r16 s17 => ?_)
    refine V_bipush dec_X13_moveFor.2.1.1.2.1.2 rfl ?_
    refine V_icmp_eq (tgt := 77) dec_X13_moveFor.2.1.1.2.2.1 (by decide) ?_ ?_
    · refine V_aload_n dec_X13_moveFor.2.1.2.1.1.1 0 rfl ?_
      refine V_getR 13 16 nf_13_16 ft_13_16 fl_X13_21 dec_X13_moveFor.2.1.2.1.1.2 ?_
      refine V_iload_n dec_X13_moveFor.2.1.2.1.2.1 1 rfl ?_
      refine V_iload dec_X13_moveFor.2.1.2.1.2.2 5 rfl ?_
      refine V_iast dec_X13_moveFor.2.1.2.2.1.1 ?_
      refine V_lets fun s18 => ?_
      refine V_aload_n dec_X13_moveFor.2.1.2.2.1.2 0 rfl ?_
      refine V_iload_n dec_X13_moveFor.2.1.2.2.2.1 2 rfl ?_
      refine V_callV0 (ci := 13) (a := x0) (As := [(0, x2)]) (st := []) rfl rfl (X13_rightOn_s G l s18 x0 x2) cal_X13_rightOn rfl ml_X13_358 rfl rfl dec_X13_moveFor.2.1.2.2.2.2 (k_tag (tag := 0) rfl fun r19 s20 => ?_)
      refine V_callS0 (As := [(0, r19)]) (st := []) (host := "") rfl (X13_bits_s G l s20 r19) cal_X13_bits rfl (Or.inl ml_X13_361) rfl rfl dec_X13_moveFor.2.2.1.1.1.1 (k_tag (tag := 0) rfl fun r21 s22 => ?_)
      refine V_istore (lv' := [(7, (0, r21)), (0, (2, x0)), (1, (0, x1)), (2, (0, x2)), (4, (0, x4)), (5, (0, x5)), (6, (0, x6))]) dec_X13_moveFor.2.2.1.1.1.2 (by decide) rfl ?_
      refine V_iload dec_X13_moveFor.2.2.1.1.2.1 0 rfl ?_
      refine V_iload dec_X13_moveFor.2.2.1.1.2.2 5 rfl ?_
      refine V_icmp_gt (tgt := 105) dec_X13_moveFor.2.2.1.2.1.1 (by decide) ?_ ?_
      · refine V_iload dec_X13_moveFor.2.2.1.2.2.1 0 rfl ?_
        refine V_istore (lv' := [(5, (0, r21)), (7, (0, r21)), (0, (2, x0)), (1, (0, x1)), (2, (0, x2)), (4, (0, x4)), (6, (0, x6))]) dec_X13_moveFor.2.2.1.2.2.2 (by decide) rfl ?_
        refine V_iload dec_X13_moveFor.2.2.2.1.1.1 6 rfl ?_
        refine V_istore (lv' := [(4, (0, x6)), (5, (0, r21)), (7, (0, r21)), (0, (2, x0)), (1, (0, x1)), (2, (0, x2)), (6, (0, x6))]) dec_X13_moveFor.2.2.2.1.1.2 (by decide) rfl ?_
        exact V_pick [3, 4, 5, 0, 1, 6] rfl (X13_moveFor_b113_s G l rk47 hk47 s22 x0 x1 x2 x6 r21 x6)
      · refine V_goto (tgt := 113) dec_X13_moveFor.2.2.1.2.1.2 (by decide) ?_
        exact V_pick [1, 2, 3, 4, 5, 6] rfl (X13_moveFor_b113_s G l rk47 hk47 s22 x0 x1 x2 x4 x5 x6)
    · refine V_goto (tgt := 113) dec_X13_moveFor.2.1.1.2.2.2 (by decide) ?_
      exact V_pick [0, 1, 2, 3, 4, 5] rfl (X13_moveFor_b113_s G l rk47 hk47 s17 x0 x1 x2 x4 x5 x6)
theorem X13_moveFor_b47_s (G : Gx) (l : Launch) (n : Nat) (s : St) (x0 x1 x2 x4 x5 x6 : Int) : V G l mX13_moveFor 47 [(0, (2, x0)), (1, (0, x1)), (2, (0, x2)), (4, (0, x4)), (5, (0, x5)), (6, (0, x6))] [] s (X13_moveFor_b47 n s x0 x1 x2 x4 x5 x6) :=
  V_iter (LV := fun a : St × Int × Int × Int × Int × Int × Int => [(0, (2, a.2.1)), (1, (0, a.2.2.1)), (2, (0, a.2.2.2.1)), (4, (0, a.2.2.2.2.1)), (5, (0, a.2.2.2.2.2.1)), (6, (0, a.2.2.2.2.2.2))]) (ST := fun a : St × Int × Int × Int × Int × Int × Int => []) (SS := fun a : St × Int × Int × Int × Int × Int × Int => a.1) (fun rec hrec a => X13_moveFor_b47_body_s G l (fun (s : St) (x0 x1 x2 x4 x5 x6 : Int) => rec (s, x0, x1, x2, x4, x5, x6)) (fun (s : St) (x0 x1 x2 x4 x5 x6 : Int) => hrec (s, x0, x1, x2, x4, x5, x6)) a.1 a.2.1 a.2.2.1 a.2.2.2.1 a.2.2.2.2.1 a.2.2.2.2.2.1 a.2.2.2.2.2.2) n (s, x0, x1, x2, x4, x5, x6)
def X13_moveFor (s : St) (a0 a1 a2 : Int) : Rs :=
  grd (isK s 23 a0) (lets (pI s a0 0 0) (fun s1 => grd (isK s1 23 a0) (bnd (X13_isPerson s1 a0 a1) (fun r2 s3 => grd (isK s3 23 a0) (bnd (X13_refusesNight s3 a0 r2 a2) (fun r4 s5 => if r4 ≤ 0 then (grd (isK s5 23 a0) (bnd (X13_works s5 a0) (fun r6 s7 => grd (isK s7 23 a0) (bnd (X13_rightOn s7 a0 a2) (fun r8 s9 => bnd (X13_bits s9 r8) (fun r10 s11 => X13_moveFor_b47 FU s11 a0 a1 a2 (-2) r10 0)))))) else (grd (isK s5 23 a0) (bnd (X13_refused s5 a0 r4) (fun r23 s24 => some (r23, s24))))))))))
set_option maxRecDepth 100000 in
set_option maxHeartbeats 4000000 in
theorem X13_moveFor_s (G : Gx) (l : Launch) (s : St) (a0 a1 a2 : Int) : Snd G l mX13_moveFor [(2, a0), (0, a1), (0, a2)] s (X13_moveFor s a0 a1 a2) := by
  refine Snd.of (by decide +kernel) rfl ?_
  show V G l mX13_moveFor 0 [(0, (2, a0)), (1, (0, a1)), (2, (0, a2))] [] s _
  unfold X13_moveFor
  refine V_aload_n dec_X13_moveFor.1.1.1.1.1.1 0 rfl ?_
  refine V_iconst dec_X13_moveFor.1.1.1.1.1.2 rfl ?_
  refine V_putI (host := "") 13 0 nf_13_0 ty_13_0 (Or.inl ⟨fl_X13_49, Or.inl rfl⟩) dec_X13_moveFor.1.1.1.1.2.1 ?_
  refine V_lets fun s1 => ?_
  refine V_aload_n dec_X13_moveFor.1.1.1.1.2.2 0 rfl ?_
  refine V_aload_n dec_X13_moveFor.1.1.1.2.1.1 0 rfl ?_
  refine V_iload_n dec_X13_moveFor.1.1.1.2.1.2 1 rfl ?_
  refine V_callV0 (ci := 13) (a := a0) (As := [(0, a1)]) (st := [(2, a0)]) rfl rfl (X13_isPerson_s G l s1 a0 a1) cal_X13_isPerson rfl ml_X13_339 rfl rfl dec_X13_moveFor.1.1.1.2.2.1 (k_tag (tag := 0) rfl fun r2 s3 => ?_)
  refine V_iload_n dec_X13_moveFor.1.1.1.2.2.2 2 rfl ?_
  refine V_callV0 (ci := 13) (a := a0) (As := [(0, r2), (0, a2)]) (st := []) rfl rfl (X13_refusesNight_s G l s3 a0 r2 a2) cal_X13_refusesNight rfl ml_X13_354 rfl rfl dec_X13_moveFor.1.1.2.1.1.1 (k_tag (tag := 0) rfl fun r4 s5 => ?_)
  refine V_istore_n (lv' := [(3, (0, r4)), (0, (2, a0)), (1, (0, a1)), (2, (0, a2))]) dec_X13_moveFor.1.1.2.1.1.2 (by decide) rfl ?_
  refine V_iload_n dec_X13_moveFor.1.1.2.1.2.1 0 rfl ?_
  refine V_if_le (tgt := 26) dec_X13_moveFor.1.1.2.1.2.2 (by decide) ?_ ?_
  · refine V_aload_n dec_X13_moveFor.1.2.1.1.1.1 1 rfl ?_
    refine V_callV0 (ci := 13) (a := a0) (As := []) (st := []) rfl rfl (X13_works_s G l s5 a0) cal_X13_works rfl ml_X13_342 rfl rfl dec_X13_moveFor.1.2.1.1.1.2 (k_void rfl fun r6 s7 => ?_)
    refine V_bipush dec_X13_moveFor.1.2.1.1.2.1 rfl ?_
    refine V_istore (lv' := [(4, (0, (-2))), (3, (0, r4)), (0, (2, a0)), (1, (0, a1)), (2, (0, a2))]) dec_X13_moveFor.1.2.1.1.2.2 (by decide) rfl ?_
    refine V_aload_n dec_X13_moveFor.1.2.1.2.1.1 2 rfl ?_
    refine V_iload_n dec_X13_moveFor.1.2.1.2.1.2 4 rfl ?_
    refine V_callV0 (ci := 13) (a := a0) (As := [(0, a2)]) (st := []) rfl rfl (X13_rightOn_s G l s7 a0 a2) cal_X13_rightOn rfl ml_X13_358 rfl rfl dec_X13_moveFor.1.2.1.2.2.1 (k_tag (tag := 0) rfl fun r8 s9 => ?_)
    refine V_callS0 (As := [(0, r8)]) (st := []) (host := "") rfl (X13_bits_s G l s9 r8) cal_X13_bits rfl (Or.inl ml_X13_361) rfl rfl dec_X13_moveFor.1.2.1.2.2.2 (k_tag (tag := 0) rfl fun r10 s11 => ?_)
    refine V_istore (lv' := [(5, (0, r10)), (4, (0, (-2))), (3, (0, r4)), (0, (2, a0)), (1, (0, a1)), (2, (0, a2))]) dec_X13_moveFor.1.2.2.1.1.1 (by decide) rfl ?_
    refine V_iconst dec_X13_moveFor.1.2.2.1.1.2 rfl ?_
    refine V_istore (lv' := [(6, (0, 0)), (5, (0, r10)), (4, (0, (-2))), (3, (0, r4)), (0, (2, a0)), (1, (0, a1)), (2, (0, a2))]) dec_X13_moveFor.1.2.2.1.2.1 (by decide) rfl ?_
    exact V_pick [4, 5, 6, 2, 1, 0] rfl (X13_moveFor_b47_s G l FU s11 a0 a1 a2 (-2) r10 0)
  · refine V_aload_n dec_X13_moveFor.1.1.2.2.1.1 1 rfl ?_
    refine V_iload_n dec_X13_moveFor.1.1.2.2.1.2 0 rfl ?_
    refine V_callV0 (ci := 13) (a := a0) (As := [(0, r4)]) (st := []) rfl rfl (X13_refused_s G l s5 a0 r4) cal_X13_refused rfl ml_X13_55 rfl rfl dec_X13_moveFor.1.1.2.2.2.1 (k_tag (tag := 0) rfl fun r23 s24 => ?_)
    exact V_iret rfl dec_X13_moveFor.1.1.2.2.2.2
theorem dec_X13_names : (((((decode cX13_names 0 = .ok (.aload_n 0, 1) ∧ decode cX13_names 1 = .ok (.getfield 155, 3)) ∧ (decode cX13_names 4 = .ok (.getfield 172, 3) ∧ decode cX13_names 7 = .ok (.aload_n 0, 1))) ∧ ((decode cX13_names 8 = .ok (.getfield 155, 3) ∧ decode cX13_names 11 = .ok (.getfield 175, 3)) ∧ (decode cX13_names 14 = .ok (.lload_n 1, 1) ∧ decode cX13_names 15 = .ok (.lastore, 1)))) ∧ (((decode cX13_names 16 = .ok (.aload_n 0, 1) ∧ decode cX13_names 17 = .ok (.getfield 155, 3)) ∧ (decode cX13_names 20 = .ok (.getfield 178, 3) ∧ decode cX13_names 23 = .ok (.aload_n 0, 1))) ∧ ((decode cX13_names 24 = .ok (.getfield 155, 3) ∧ decode cX13_names 27 = .ok (.getfield 175, 3)) ∧ (decode cX13_names 30 = .ok (.iload_n 3, 1) ∧ decode cX13_names 31 = .ok (.iastore, 1))))) ∧ ((((decode cX13_names 32 = .ok (.aload_n 0, 1) ∧ decode cX13_names 33 = .ok (.getfield 155, 3)) ∧ (decode cX13_names 36 = .ok (.getfield 181, 3) ∧ decode cX13_names 39 = .ok (.aload_n 0, 1))) ∧ ((decode cX13_names 40 = .ok (.getfield 155, 3) ∧ decode cX13_names 43 = .ok (.getfield 175, 3)) ∧ (decode cX13_names 46 = .ok (.iload 4, 2) ∧ decode cX13_names 48 = .ok (.iastore, 1)))) ∧ (((decode cX13_names 49 = .ok (.aload_n 0, 1) ∧ decode cX13_names 50 = .ok (.getfield 155, 3)) ∧ (decode cX13_names 53 = .ok (.dup, 1) ∧ decode cX13_names 54 = .ok (.getfield 175, 3))) ∧ ((decode cX13_names 57 = .ok (.iconst 1, 1) ∧ decode cX13_names 58 = .ok (.iadd, 1)) ∧ (decode cX13_names 59 = .ok (.putfield 175, 3) ∧ decode cX13_names 62 = .ok (.return_, 1)))))) := ⟨⟨by decide +kernel, by decide +kernel⟩, ⟨by decide +kernel, by decide +kernel⟩⟩
def X13_names (s : St) (a0 a1 a2 a3 : Int) : Rs :=
  grd (isK s 23 a0) (grd (isK s 22 (gR s a0 4)) (grd (isK s 23 a0) (grd (isK s 22 (gR s a0 4)) (grd (isK s 3 (gR s (gR s a0 4) 18) ∧ 0 ≤ (gI s (gR s a0 4) 7) ∧ (gI s (gR s a0 4) 7) < ln s (gR s (gR s a0 4) 18)) (lets (pI s (gR s (gR s a0 4) 18) (gI s (gR s a0 4) 7).toNat a1) (fun s1 => grd (isK s1 23 a0) (grd (isK s1 22 (gR s1 a0 4)) (grd (isK s1 23 a0) (grd (isK s1 22 (gR s1 a0 4)) (grd (isK s1 1 (gR s1 (gR s1 a0 4) 19) ∧ 0 ≤ (gI s1 (gR s1 a0 4) 7) ∧ (gI s1 (gR s1 a0 4) 7) < ln s1 (gR s1 (gR s1 a0 4) 19)) (lets (pI s1 (gR s1 (gR s1 a0 4) 19) (gI s1 (gR s1 a0 4) 7).toNat a2) (fun s2 => grd (isK s2 23 a0) (grd (isK s2 22 (gR s2 a0 4)) (grd (isK s2 23 a0) (grd (isK s2 22 (gR s2 a0 4)) (grd (isK s2 1 (gR s2 (gR s2 a0 4) 20) ∧ 0 ≤ (gI s2 (gR s2 a0 4) 7) ∧ (gI s2 (gR s2 a0 4) 7) < ln s2 (gR s2 (gR s2 a0 4) 20)) (lets (pI s2 (gR s2 (gR s2 a0 4) 20) (gI s2 (gR s2 a0 4) 7).toNat a3) (fun s3 => grd (isK s3 23 a0) (grd (isK s3 22 (gR s3 a0 4)) (grd (isK s3 22 (gR s3 a0 4)) (lets (pI s3 (gR s3 a0 4) 7 (w32 ((gI s3 (gR s3 a0 4) 7) + 1))) (fun s4 => some (0, s4)))))))))))))))))))))))
set_option maxRecDepth 100000 in
set_option maxHeartbeats 4000000 in
theorem X13_names_s (G : Gx) (l : Launch) (s : St) (a0 a1 a2 a3 : Int) : Snd G l mX13_names [(2, a0), (1, a1), (0, a2), (0, a3)] s (X13_names s a0 a1 a2 a3) := by
  refine Snd.of (by decide +kernel) rfl ?_
  show V G l mX13_names 0 [(0, (2, a0)), (1, (1, a1)), (3, (0, a2)), (4, (0, a3))] [] s _
  unfold X13_names
  refine V_aload_n dec_X13_names.1.1.1.1.1 0 rfl ?_
  refine V_getR 13 4 nf_13_4 ft_13_4 fl_X13_155 dec_X13_names.1.1.1.1.2 ?_
  refine V_getRN RX13 12 18 nf_12_18 ft_12_18 fl_X13_172 dec_X13_names.1.1.1.2.1 ?_
  refine V_aload_n dec_X13_names.1.1.1.2.2 0 rfl ?_
  refine V_getR 13 4 nf_13_4 ft_13_4 fl_X13_155 dec_X13_names.1.1.2.1.1 ?_
  refine V_getIN RX13 12 7 nf_12_7 ft_12_7 fl_X13_175 dec_X13_names.1.1.2.1.2 ?_
  refine V_lload_n dec_X13_names.1.1.2.2.1 1 rfl ?_
  refine V_last dec_X13_names.1.1.2.2.2 ?_
  refine V_lets fun s1 => ?_
  refine V_aload_n dec_X13_names.1.2.1.1.1 0 rfl ?_
  refine V_getR 13 4 nf_13_4 ft_13_4 fl_X13_155 dec_X13_names.1.2.1.1.2 ?_
  refine V_getRN RX13 12 19 nf_12_19 ft_12_19 fl_X13_178 dec_X13_names.1.2.1.2.1 ?_
  refine V_aload_n dec_X13_names.1.2.1.2.2 0 rfl ?_
  refine V_getR 13 4 nf_13_4 ft_13_4 fl_X13_155 dec_X13_names.1.2.2.1.1 ?_
  refine V_getIN RX13 12 7 nf_12_7 ft_12_7 fl_X13_175 dec_X13_names.1.2.2.1.2 ?_
  refine V_iload_n dec_X13_names.1.2.2.2.1 2 rfl ?_
  refine V_iast dec_X13_names.1.2.2.2.2 ?_
  refine V_lets fun s2 => ?_
  refine V_aload_n dec_X13_names.2.1.1.1.1 0 rfl ?_
  refine V_getR 13 4 nf_13_4 ft_13_4 fl_X13_155 dec_X13_names.2.1.1.1.2 ?_
  refine V_getRN RX13 12 20 nf_12_20 ft_12_20 fl_X13_181 dec_X13_names.2.1.1.2.1 ?_
  refine V_aload_n dec_X13_names.2.1.1.2.2 0 rfl ?_
  refine V_getR 13 4 nf_13_4 ft_13_4 fl_X13_155 dec_X13_names.2.1.2.1.1 ?_
  refine V_getIN RX13 12 7 nf_12_7 ft_12_7 fl_X13_175 dec_X13_names.2.1.2.1.2 ?_
  refine V_iload dec_X13_names.2.1.2.2.1 3 rfl ?_
  refine V_iast dec_X13_names.2.1.2.2.2 ?_
  refine V_lets fun s3 => ?_
  refine V_aload_n dec_X13_names.2.2.1.1.1 0 rfl ?_
  refine V_getR 13 4 nf_13_4 ft_13_4 fl_X13_155 dec_X13_names.2.2.1.1.2 ?_
  refine V_dup (nl2 _) dec_X13_names.2.2.1.2.1 ?_
  refine V_getIN RX13 12 7 nf_12_7 ft_12_7 fl_X13_175 dec_X13_names.2.2.1.2.2 ?_
  refine V_iconst dec_X13_names.2.2.2.1.1 rfl ?_
  refine V_iadd dec_X13_names.2.2.2.1.2 ?_
  refine V_putI (host := RX13) 12 7 nf_12_7 ty_12_7 (Or.inr ⟨fl_X13_175, rfl⟩) dec_X13_names.2.2.2.2.1 ?_
  refine V_lets fun s4 => ?_
  exact V_vret rfl dec_X13_names.2.2.2.2.2
theorem dec_X13_needs : (((decode cX13_needs 0 = .ok (.aload_n 0, 1) ∧ decode cX13_needs 1 = .ok (.aload_n 1, 1)) ∧ (decode cX13_needs 2 = .ok (.invokevirtual 120, 3) ∧ (decode cX13_needs 5 = .ok (.ifCond .ne 8, 3) ∧ decode cX13_needs 8 = .ok (.aload_n 0, 1)))) ∧ ((decode cX13_needs 9 = .ok (.iconst 1, 1) ∧ decode cX13_needs 10 = .ok (.invokevirtual 124, 3)) ∧ (decode cX13_needs 13 = .ok (.aload_n 0, 1) ∧ (decode cX13_needs 14 = .ok (.invokevirtual 117, 3) ∧ decode cX13_needs 17 = .ok (.return_, 1))))) := by decide +kernel
def X13_needs_b13 (s : St) (x0 : Int) : Rs :=
  grd (isK s 23 x0) (bnd (X13_goesOn s x0) (fun r3 s4 => some (0, s4)))
set_option maxRecDepth 100000 in
set_option maxHeartbeats 4000000 in
theorem X13_needs_b13_s (G : Gx) (l : Launch) (s : St) (x0 : Int) : V G l mX13_needs 13 [(0, (2, x0))] [] s (X13_needs_b13 s x0) := by
  unfold X13_needs_b13
  refine V_aload_n dec_X13_needs.2.2.1 0 rfl ?_
  refine V_callV0 (ci := 13) (a := x0) (As := []) (st := []) rfl rfl (X13_goesOn_s G l s x0) cal_X13_goesOn rfl ml_X13_117 rfl rfl dec_X13_needs.2.2.2.1 (k_void rfl fun r3 s4 => ?_)
  exact V_vret rfl dec_X13_needs.2.2.2.2
def X13_needs (s : St) (a0 a1 : Int) : Rs :=
  grd (isK s 23 a0) (bnd (X13_isWord s a0 a1) (fun r1 s2 => if ¬ r1 = 0 then (X13_needs_b13 s2 a0) else (grd (isK s2 23 a0) (bnd (X13_flaw s2 a0 1) (fun r5 s6 => X13_needs_b13 s6 a0)))))
set_option maxRecDepth 100000 in
set_option maxHeartbeats 4000000 in
theorem X13_needs_s (G : Gx) (l : Launch) (s : St) (a0 a1 : Int) : Snd G l mX13_needs [(2, a0), (2, a1)] s (X13_needs s a0 a1) := by
  refine Snd.of (by decide +kernel) rfl ?_
  show V G l mX13_needs 0 [(0, (2, a0)), (1, (2, a1))] [] s _
  unfold X13_needs
  refine V_aload_n dec_X13_needs.1.1.1 0 rfl ?_
  refine V_aload_n dec_X13_needs.1.1.2 1 rfl ?_
  refine V_callV0 (ci := 13) (a := a0) (As := [(2, a1)]) (st := []) rfl rfl (X13_isWord_s G l s a0 a1) cal_X13_isWord rfl ml_X13_120 rfl rfl dec_X13_needs.1.2.1 (k_tag (tag := 0) rfl fun r1 s2 => ?_)
  refine V_if_ne (tgt := 13) dec_X13_needs.1.2.2.1 (by decide) ?_ ?_
  · exact V_pick [0] rfl (X13_needs_b13_s G l s2 a0)
  · refine V_aload_n dec_X13_needs.1.2.2.2 0 rfl ?_
    refine V_iconst dec_X13_needs.2.1.1 rfl ?_
    refine V_callV0 (ci := 13) (a := a0) (As := [(0, 1)]) (st := []) rfl rfl (X13_flaw_s G l s2 a0 1) cal_X13_flaw rfl ml_X13_124 rfl rfl dec_X13_needs.2.1.2 (k_void rfl fun r5 s6 => ?_)
    exact V_pick [0] rfl (X13_needs_b13_s G l s6 a0)
theorem dec_X13_nextOf : (((decode cX13_nextOf 0 = .ok (.aload_n 0, 1) ∧ (decode cX13_nextOf 1 = .ok (.iload_n 1, 1) ∧ decode cX13_nextOf 2 = .ok (.invokevirtual 401, 3))) ∧ ((decode cX13_nextOf 5 = .ok (.istore_n 3, 1) ∧ decode cX13_nextOf 6 = .ok (.iload_n 3, 1)) ∧ (decode cX13_nextOf 7 = .ok (.bipush (-2), 2) ∧ decode cX13_nextOf 9 = .ok (.if_icmp .ne 8, 3)))) ∧ ((decode cX13_nextOf 12 = .ok (.bipush (-2), 2) ∧ (decode cX13_nextOf 14 = .ok (.goto 9, 3) ∧ decode cX13_nextOf 17 = .ok (.aload_n 0, 1))) ∧ ((decode cX13_nextOf 18 = .ok (.iload_n 3, 1) ∧ decode cX13_nextOf 19 = .ok (.iload_n 2, 1)) ∧ (decode cX13_nextOf 20 = .ok (.invokevirtual 333, 3) ∧ decode cX13_nextOf 23 = .ok (.ireturn, 1))))) := ⟨by decide +kernel, by decide +kernel⟩
def X13_nextOf_b23 (s : St) (k0 : Int) : Rs :=
  some (k0, s)
set_option maxRecDepth 100000 in
set_option maxHeartbeats 4000000 in
theorem X13_nextOf_b23_s (G : Gx) (l : Launch) (s : St) (k0 : Int) : V G l mX13_nextOf 23 [] [(0, k0)] s (X13_nextOf_b23 s k0) := by
  unfold X13_nextOf_b23
  exact V_iret rfl dec_X13_nextOf.2.2.2.2
def X13_nextOf (s : St) (a0 a1 a2 : Int) : Rs :=
  grd (isK s 23 a0) (bnd (X13_firstDead s a0 a1) (fun r1 s2 => if ¬ r1 = ((-2) : Int) then (grd (isK s2 23 a0) (bnd (X13_whoHears s2 a0 r1 a2) (fun r3 s4 => X13_nextOf_b23 s4 r3))) else (X13_nextOf_b23 s2 (-2))))
set_option maxRecDepth 100000 in
set_option maxHeartbeats 4000000 in
theorem X13_nextOf_s (G : Gx) (l : Launch) (s : St) (a0 a1 a2 : Int) : Snd G l mX13_nextOf [(2, a0), (0, a1), (0, a2)] s (X13_nextOf s a0 a1 a2) := by
  refine Snd.of (by decide +kernel) rfl ?_
  show V G l mX13_nextOf 0 [(0, (2, a0)), (1, (0, a1)), (2, (0, a2))] [] s _
  unfold X13_nextOf
  refine V_aload_n dec_X13_nextOf.1.1.1 0 rfl ?_
  refine V_iload_n dec_X13_nextOf.1.1.2.1 1 rfl ?_
  refine V_callV0 (ci := 13) (a := a0) (As := [(0, a1)]) (st := []) rfl rfl (X13_firstDead_s G l s a0 a1) cal_X13_firstDead rfl ml_X13_401 rfl rfl dec_X13_nextOf.1.1.2.2 (k_tag (tag := 0) rfl fun r1 s2 => ?_)
  refine V_istore_n (lv' := [(3, (0, r1)), (0, (2, a0)), (1, (0, a1)), (2, (0, a2))]) dec_X13_nextOf.1.2.1.1 (by decide) rfl ?_
  refine V_iload_n dec_X13_nextOf.1.2.1.2 0 rfl ?_
  refine V_bipush dec_X13_nextOf.1.2.2.1 rfl ?_
  refine V_icmp_ne (tgt := 17) dec_X13_nextOf.1.2.2.2 (by decide) ?_ ?_
  · refine V_aload_n dec_X13_nextOf.2.1.2.2 1 rfl ?_
    refine V_iload_n dec_X13_nextOf.2.2.1.1 0 rfl ?_
    refine V_iload_n dec_X13_nextOf.2.2.1.2 3 rfl ?_
    refine V_callV0 (ci := 13) (a := a0) (As := [(0, r1), (0, a2)]) (st := []) rfl rfl (X13_whoHears_s G l s2 a0 r1 a2) cal_X13_whoHears rfl ml_X13_333 rfl rfl dec_X13_nextOf.2.2.2.1 (k_tag (tag := 0) rfl fun r3 s4 => ?_)
    exact V_pick [] rfl (X13_nextOf_b23_s G l s4 r3)
  · refine V_bipush dec_X13_nextOf.2.1.1 rfl ?_
    refine V_goto (tgt := 23) dec_X13_nextOf.2.1.2.1 (by decide) ?_
    exact V_pick [] rfl (X13_nextOf_b23_s G l s2 (-2))
theorem dec_X13_night : (((((decode cX13_night 0 = .ok (.aload_n 0, 1) ∧ decode cX13_night 1 = .ok (.iconst 0, 1)) ∧ (decode cX13_night 2 = .ok (.putfield 49, 3) ∧ (decode cX13_night 5 = .ok (.aload_n 0, 1) ∧ decode cX13_night 6 = .ok (.getfield 303, 3)))) ∧ ((decode cX13_night 9 = .ok (.ifnonnull 9, 3) ∧ decode cX13_night 12 = .ok (.aload_n 0, 1)) ∧ (decode cX13_night 13 = .ok (.iconst 1, 1) ∧ (decode cX13_night 14 = .ok (.invokevirtual 55, 3) ∧ decode cX13_night 17 = .ok (.ireturn, 1))))) ∧ (((decode cX13_night 18 = .ok (.aload_n 0, 1) ∧ decode cX13_night 19 = .ok (.getfield 17, 3)) ∧ (decode cX13_night 22 = .ok (.bipush 18, 2) ∧ (decode cX13_night 24 = .ok (.iaload, 1) ∧ decode cX13_night 25 = .ok (.bipush 99, 2)))) ∧ ((decode cX13_night 27 = .ok (.if_icmp .ne 9, 3) ∧ decode cX13_night 30 = .ok (.aload_n 0, 1)) ∧ (decode cX13_night 31 = .ok (.iconst 3, 1) ∧ (decode cX13_night 32 = .ok (.invokevirtual 55, 3) ∧ decode cX13_night 35 = .ok (.ireturn, 1)))))) ∧ ((((decode cX13_night 36 = .ok (.aload_n 0, 1) ∧ decode cX13_night 37 = .ok (.invokevirtual 469, 3)) ∧ (decode cX13_night 40 = .ok (.aload_n 0, 1) ∧ (decode cX13_night 41 = .ok (.getfield 17, 3) ∧ decode cX13_night 44 = .ok (.bipush 18, 2)))) ∧ ((decode cX13_night 46 = .ok (.dup2, 1) ∧ decode cX13_night 47 = .ok (.iaload, 1)) ∧ (decode cX13_night 48 = .ok (.iconst 1, 1) ∧ (decode cX13_night 49 = .ok (.iadd, 1) ∧ decode cX13_night 50 = .ok (.iastore, 1))))) ∧ (((decode cX13_night 51 = .ok (.aload_n 0, 1) ∧ decode cX13_night 52 = .ok (.invokevirtual 342, 3)) ∧ (decode cX13_night 55 = .ok (.aload_n 0, 1) ∧ (decode cX13_night 56 = .ok (.aload_n 0, 1) ∧ decode cX13_night 57 = .ok (.aload_n 0, 1)))) ∧ ((decode cX13_night 58 = .ok (.getfield 17, 3) ∧ (decode cX13_night 61 = .ok (.bipush 18, 2) ∧ decode cX13_night 63 = .ok (.iaload, 1))) ∧ (decode cX13_night 64 = .ok (.invokevirtual 358, 3) ∧ (decode cX13_night 67 = .ok (.invokevirtual 59, 3) ∧ decode cX13_night 70 = .ok (.ireturn, 1))))))) := ⟨⟨by decide +kernel, by decide +kernel⟩, ⟨by decide +kernel, by decide +kernel⟩⟩
def X13_night (s : St) (a0 : Int) : Rs :=
  grd (isK s 23 a0) (lets (pI s a0 0 0) (fun s1 => grd (isK s1 23 a0) (if (gR s1 a0 3) < 0 then (grd (isK s1 23 a0) (bnd (X13_refused s1 a0 1) (fun r13 s14 => some (r13, s14)))) else (grd (isK s1 23 a0) (grd (isK s1 1 (gR s1 a0 15) ∧ 0 ≤ (18 : Int) ∧ (18 : Int) < ln s1 (gR s1 a0 15)) (if ¬ (gI s1 (gR s1 a0 15) (18 : Int).toNat) = (99 : Int) then (grd (isK s1 23 a0) (bnd (X13_remembers s1 a0) (fun r2 s3 => grd (isK s3 23 a0) (grd (isK s3 1 (gR s3 a0 15) ∧ 0 ≤ (18 : Int) ∧ (18 : Int) < ln s3 (gR s3 a0 15)) (grd (isK s3 1 (gR s3 a0 15) ∧ 0 ≤ (18 : Int) ∧ (18 : Int) < ln s3 (gR s3 a0 15)) (lets (pI s3 (gR s3 a0 15) (18 : Int).toNat (w32 ((gI s3 (gR s3 a0 15) (18 : Int).toNat) + 1))) (fun s4 => grd (isK s4 23 a0) (bnd (X13_works s4 a0) (fun r5 s6 => grd (isK s6 23 a0) (grd (isK s6 1 (gR s6 a0 15) ∧ 0 ≤ (18 : Int) ∧ (18 : Int) < ln s6 (gR s6 a0 15)) (grd (isK s6 23 a0) (bnd (X13_rightOn s6 a0 (gI s6 (gR s6 a0 15) (18 : Int).toNat)) (fun r7 s8 => grd (isK s8 23 a0) (bnd (X13_good s8 a0 r7) (fun r9 s10 => some (r9, s10)))))))))))))))) else (grd (isK s1 23 a0) (bnd (X13_refused s1 a0 3) (fun r11 s12 => some (r11, s12))))))))))
set_option maxRecDepth 100000 in
set_option maxHeartbeats 4000000 in
theorem X13_night_s (G : Gx) (l : Launch) (s : St) (a0 : Int) : Snd G l mX13_night [(2, a0)] s (X13_night s a0) := by
  refine Snd.of (by decide +kernel) rfl ?_
  show V G l mX13_night 0 [(0, (2, a0))] [] s _
  unfold X13_night
  refine V_aload_n dec_X13_night.1.1.1.1.1 0 rfl ?_
  refine V_iconst dec_X13_night.1.1.1.1.2 rfl ?_
  refine V_putI (host := "") 13 0 nf_13_0 ty_13_0 (Or.inl ⟨fl_X13_49, Or.inl rfl⟩) dec_X13_night.1.1.1.2.1 ?_
  refine V_lets fun s1 => ?_
  refine V_aload_n dec_X13_night.1.1.1.2.2.1 0 rfl ?_
  refine V_getR 13 3 nf_13_3 ft_13_3 fl_X13_303 dec_X13_night.1.1.1.2.2.2 ?_
  refine V_ifnonnull (tgt := 18) dec_X13_night.1.1.2.1.1 (by decide) ?_ ?_
  · refine V_aload_n dec_X13_night.1.1.2.1.2 0 rfl ?_
    refine V_iconst dec_X13_night.1.1.2.2.1 rfl ?_
    refine V_callV0 (ci := 13) (a := a0) (As := [(0, 1)]) (st := []) rfl rfl (X13_refused_s G l s1 a0 1) cal_X13_refused rfl ml_X13_55 rfl rfl dec_X13_night.1.1.2.2.2.1 (k_tag (tag := 0) rfl fun r13 s14 => ?_)
    exact V_iret rfl dec_X13_night.1.1.2.2.2.2
  · refine V_aload_n dec_X13_night.1.2.1.1.1 0 rfl ?_
    refine V_getR 13 15 nf_13_15 ft_13_15 fl_X13_17 dec_X13_night.1.2.1.1.2 ?_
    refine V_bipush dec_X13_night.1.2.1.2.1 rfl ?_
    refine V_iald dec_X13_night.1.2.1.2.2.1 ?_
    refine V_bipush dec_X13_night.1.2.1.2.2.2 rfl ?_
    refine V_icmp_ne (tgt := 36) dec_X13_night.1.2.2.1.1 (by decide) ?_ ?_
    · refine V_aload_n dec_X13_night.2.1.1.1.1 0 rfl ?_
      refine V_callV0 (ci := 13) (a := a0) (As := []) (st := []) rfl rfl (X13_remembers_s G l s1 a0) cal_X13_remembers rfl ml_X13_469 rfl rfl dec_X13_night.2.1.1.1.2 (k_void rfl fun r2 s3 => ?_)
      refine V_aload_n dec_X13_night.2.1.1.2.1 0 rfl ?_
      refine V_getR 13 15 nf_13_15 ft_13_15 fl_X13_17 dec_X13_night.2.1.1.2.2.1 ?_
      refine V_bipush dec_X13_night.2.1.1.2.2.2 rfl ?_
      refine V_dup2 (nl0 _) (nl2 _) dec_X13_night.2.1.2.1.1 ?_
      refine V_iald dec_X13_night.2.1.2.1.2 ?_
      refine V_iconst dec_X13_night.2.1.2.2.1 rfl ?_
      refine V_iadd dec_X13_night.2.1.2.2.2.1 ?_
      refine V_iast dec_X13_night.2.1.2.2.2.2 ?_
      refine V_lets fun s4 => ?_
      refine V_aload_n dec_X13_night.2.2.1.1.1 0 rfl ?_
      refine V_callV0 (ci := 13) (a := a0) (As := []) (st := []) rfl rfl (X13_works_s G l s4 a0) cal_X13_works rfl ml_X13_342 rfl rfl dec_X13_night.2.2.1.1.2 (k_void rfl fun r5 s6 => ?_)
      refine V_aload_n dec_X13_night.2.2.1.2.1 0 rfl ?_
      refine V_aload_n dec_X13_night.2.2.1.2.2.1 0 rfl ?_
      refine V_aload_n dec_X13_night.2.2.1.2.2.2 0 rfl ?_
      refine V_getR 13 15 nf_13_15 ft_13_15 fl_X13_17 dec_X13_night.2.2.2.1.1 ?_
      refine V_bipush dec_X13_night.2.2.2.1.2.1 rfl ?_
      refine V_iald dec_X13_night.2.2.2.1.2.2 ?_
      refine V_callV0 (ci := 13) (a := a0) (As := [(0, (gI s6 (gR s6 a0 15) (18 : Int).toNat))]) (st := [(2, a0)]) rfl rfl (X13_rightOn_s G l s6 a0 (gI s6 (gR s6 a0 15) (18 : Int).toNat)) cal_X13_rightOn rfl ml_X13_358 rfl rfl dec_X13_night.2.2.2.2.1 (k_tag (tag := 0) rfl fun r7 s8 => ?_)
      refine V_callV0 (ci := 13) (a := a0) (As := [(0, r7)]) (st := []) rfl rfl (X13_good_s G l s8 a0 r7) cal_X13_good rfl ml_X13_59 rfl rfl dec_X13_night.2.2.2.2.2.1 (k_tag (tag := 0) rfl fun r9 s10 => ?_)
      exact V_iret rfl dec_X13_night.2.2.2.2.2.2
    · refine V_aload_n dec_X13_night.1.2.2.1.2 0 rfl ?_
      refine V_iconst dec_X13_night.1.2.2.2.1 rfl ?_
      refine V_callV0 (ci := 13) (a := a0) (As := [(0, 3)]) (st := []) rfl rfl (X13_refused_s G l s1 a0 3) cal_X13_refused rfl ml_X13_55 rfl rfl dec_X13_night.1.2.2.2.2.1 (k_tag (tag := 0) rfl fun r11 s12 => ?_)
      exact V_iret rfl dec_X13_night.1.2.2.2.2.2
theorem dec_X13_nightsOf : (((((decode cX13_nightsOf 0 = .ok (.aload_n 0, 1) ∧ decode cX13_nightsOf 1 = .ok (.iconst 0, 1)) ∧ (decode cX13_nightsOf 2 = .ok (.putfield 49, 3) ∧ (decode cX13_nightsOf 5 = .ok (.aload_n 0, 1) ∧ decode cX13_nightsOf 6 = .ok (.iload_n 1, 1)))) ∧ ((decode cX13_nightsOf 7 = .ok (.invokevirtual 339, 3) ∧ decode cX13_nightsOf 10 = .ok (.ifCond .eq 11, 3)) ∧ (decode cX13_nightsOf 13 = .ok (.aload_n 0, 1) ∧ (decode cX13_nightsOf 14 = .ok (.iload_n 2, 1) ∧ decode cX13_nightsOf 15 = .ok (.invokevirtual 348, 3))))) ∧ (((decode cX13_nightsOf 18 = .ok (.ifCond .ne 9, 3) ∧ decode cX13_nightsOf 21 = .ok (.aload_n 0, 1)) ∧ (decode cX13_nightsOf 22 = .ok (.iconst 1, 1) ∧ (decode cX13_nightsOf 23 = .ok (.invokevirtual 55, 3) ∧ decode cX13_nightsOf 26 = .ok (.ireturn, 1)))) ∧ ((decode cX13_nightsOf 27 = .ok (.aload_n 0, 1) ∧ (decode cX13_nightsOf 28 = .ok (.invokevirtual 342, 3) ∧ decode cX13_nightsOf 31 = .ok (.iconst 0, 1))) ∧ (decode cX13_nightsOf 32 = .ok (.istore_n 3, 1) ∧ (decode cX13_nightsOf 33 = .ok (.iconst 0, 1) ∧ decode cX13_nightsOf 34 = .ok (.istore 4, 2)))))) ∧ ((((decode cX13_nightsOf 36 = .ok (.iload 4, 2) ∧ decode cX13_nightsOf 38 = .ok (.bipush 100, 2)) ∧ (decode cX13_nightsOf 40 = .ok (.if_icmp .ge 28, 3) ∧ (decode cX13_nightsOf 43 = .ok (.iload_n 3, 1) ∧ decode cX13_nightsOf 44 = .ok (.aload_n 0, 1)))) ∧ ((decode cX13_nightsOf 45 = .ok (.iload_n 2, 1) ∧ decode cX13_nightsOf 46 = .ok (.iload 4, 2)) ∧ (decode cX13_nightsOf 48 = .ok (.invokevirtual 333, 3) ∧ (decode cX13_nightsOf 51 = .ok (.iload_n 1, 1) ∧ decode cX13_nightsOf 52 = .ok (.if_icmp .ne 7, 3))))) ∧ (((decode cX13_nightsOf 55 = .ok (.iconst 1, 1) ∧ decode cX13_nightsOf 56 = .ok (.goto 4, 3)) ∧ (decode cX13_nightsOf 59 = .ok (.iconst 0, 1) ∧ (decode cX13_nightsOf 60 = .ok (.iadd, 1) ∧ decode cX13_nightsOf 61 = .ok (.istore_n 3, 1)))) ∧ ((decode cX13_nightsOf 62 = .ok (.iinc 4 1, 3) ∧ (decode cX13_nightsOf 65 = .ok (.goto (-29), 3) ∧ decode cX13_nightsOf 68 = .ok (.aload_n 0, 1))) ∧ (decode cX13_nightsOf 69 = .ok (.iload_n 3, 1) ∧ (decode cX13_nightsOf 70 = .ok (.invokevirtual 59, 3) ∧ decode cX13_nightsOf 73 = .ok (.ireturn, 1))))))) := ⟨⟨by decide +kernel, by decide +kernel⟩, ⟨by decide +kernel, by decide +kernel⟩⟩
def X13_nightsOf_b21 (s : St) (x0 : Int) : Rs :=
  grd (isK s 23 x0) (bnd (X13_refused s x0 1) (fun r4 s5 => some (r4, s5)))
set_option maxRecDepth 100000 in
set_option maxHeartbeats 4000000 in
theorem X13_nightsOf_b21_s (G : Gx) (l : Launch) (s : St) (x0 : Int) : V G l mX13_nightsOf 21 [(0, (2, x0))] [] s (X13_nightsOf_b21 s x0) := by
  unfold X13_nightsOf_b21
  refine V_aload_n dec_X13_nightsOf.1.2.1.1.2 0 rfl ?_
  refine V_iconst dec_X13_nightsOf.1.2.1.2.1 rfl ?_
  refine V_callV0 (ci := 13) (a := x0) (As := [(0, 1)]) (st := []) rfl rfl (X13_refused_s G l s x0 1) cal_X13_refused rfl ml_X13_55 rfl rfl dec_X13_nightsOf.1.2.1.2.2.1 (k_tag (tag := 0) rfl fun r4 s5 => ?_)
  exact V_iret rfl dec_X13_nightsOf.1.2.1.2.2.2
def X13_nightsOf_b60 (rk36 : St → Int → Int → Int → Int → Int → Rs) (s : St) (x0 x1 x2 x4 k0 k1 : Int) : Rs :=
  rk36 s x0 x1 x2 (w32 (k1 + k0)) (w32 (x4 + 1))
set_option maxRecDepth 100000 in
set_option maxHeartbeats 4000000 in
theorem X13_nightsOf_b60_s (G : Gx) (l : Launch) (rk36 : St → Int → Int → Int → Int → Int → Rs) (hk36 : ∀ (s : St) (x0 x1 x2 x3 x4 : Int), V G l mX13_nightsOf 36 [(0, (2, x0)), (1, (0, x1)), (2, (0, x2)), (3, (0, x3)), (4, (0, x4))] [] s (rk36 s x0 x1 x2 x3 x4)) (s : St) (x0 x1 x2 x4 k0 k1 : Int) : V G l mX13_nightsOf 60 [(0, (2, x0)), (1, (0, x1)), (2, (0, x2)), (4, (0, x4))] [(0, k0), (0, k1)] s (X13_nightsOf_b60 rk36 s x0 x1 x2 x4 k0 k1) := by
  unfold X13_nightsOf_b60
  refine V_iadd dec_X13_nightsOf.2.2.1.2.2.1 ?_
  refine V_istore_n (lv' := [(3, (0, (w32 (k1 + k0)))), (0, (2, x0)), (1, (0, x1)), (2, (0, x2)), (4, (0, x4))]) dec_X13_nightsOf.2.2.1.2.2.2 (by decide) rfl ?_
  refine V_iinc (lv' := [(4, (0, (w32 (x4 + 1)))), (3, (0, (w32 (k1 + k0)))), (0, (2, x0)), (1, (0, x1)), (2, (0, x2))]) dec_X13_nightsOf.2.2.2.1.1 4 rfl (by decide) rfl ?_
  refine V_goto (tgt := 36) dec_X13_nightsOf.2.2.2.1.2.1 (by decide) ?_
  exact V_pick [2, 3, 4, 1, 0] rfl (hk36 s x0 x1 x2 (w32 (k1 + k0)) (w32 (x4 + 1)))
def X13_nightsOf_b36_body (rk36 : St → Int → Int → Int → Int → Int → Rs) (s : St) (x0 x1 x2 x3 x4 : Int) : Rs :=
  if (100 : Int) ≤ x4 then (grd (isK s 23 x0) (bnd (X13_good s x0 x3) (fun r10 s11 => some (r10, s11)))) else (grd (isK s 23 x0) (bnd (X13_whoHears s x0 x2 x4) (fun r12 s13 => if ¬ r12 = x1 then (X13_nightsOf_b60 rk36 s13 x0 x1 x2 x4 0 x3) else (X13_nightsOf_b60 rk36 s13 x0 x1 x2 x4 1 x3))))
def X13_nightsOf_b36 (n : Nat) (s : St) (x0 x1 x2 x3 x4 : Int) : Rs := iter (fun (rec : St × Int × Int × Int × Int × Int → Rs) (a : St × Int × Int × Int × Int × Int) => X13_nightsOf_b36_body (fun (s : St) (x0 x1 x2 x3 x4 : Int) => rec (s, x0, x1, x2, x3, x4)) a.1 a.2.1 a.2.2.1 a.2.2.2.1 a.2.2.2.2.1 a.2.2.2.2.2) n (s, x0, x1, x2, x3, x4)
theorem X13_nightsOf_b36_0 (s : St) (x0 x1 x2 x3 x4 : Int) : X13_nightsOf_b36 0 s x0 x1 x2 x3 x4 = none := rfl
theorem X13_nightsOf_b36_1 (n : Nat) (s : St) (x0 x1 x2 x3 x4 : Int) : X13_nightsOf_b36 (n + 1) s x0 x1 x2 x3 x4 = X13_nightsOf_b36_body (X13_nightsOf_b36 n) s x0 x1 x2 x3 x4 := rfl
set_option maxRecDepth 100000 in
set_option maxHeartbeats 4000000 in
theorem X13_nightsOf_b36_body_s (G : Gx) (l : Launch) (rk36 : St → Int → Int → Int → Int → Int → Rs) (hk36 : ∀ (s : St) (x0 x1 x2 x3 x4 : Int), V G l mX13_nightsOf 36 [(0, (2, x0)), (1, (0, x1)), (2, (0, x2)), (3, (0, x3)), (4, (0, x4))] [] s (rk36 s x0 x1 x2 x3 x4)) (s : St) (x0 x1 x2 x3 x4 : Int) : V G l mX13_nightsOf 36 [(0, (2, x0)), (1, (0, x1)), (2, (0, x2)), (3, (0, x3)), (4, (0, x4))] [] s (X13_nightsOf_b36_body rk36 s x0 x1 x2 x3 x4) := by
  unfold X13_nightsOf_b36_body
  refine V_iload dec_X13_nightsOf.2.1.1.1.1 4 rfl ?_
  refine V_bipush dec_X13_nightsOf.2.1.1.1.2 rfl ?_
  refine V_icmp_ge (tgt := 68) dec_X13_nightsOf.2.1.1.2.1 (by decide) ?_ ?_
  · refine V_aload_n dec_X13_nightsOf.2.2.2.1.2.2 0 rfl ?_
    refine V_iload_n dec_X13_nightsOf.2.2.2.2.1 3 rfl ?_
    refine V_callV0 (ci := 13) (a := x0) (As := [(0, x3)]) (st := []) rfl rfl (X13_good_s G l s x0 x3) cal_X13_good rfl ml_X13_59 rfl rfl dec_X13_nightsOf.2.2.2.2.2.1 (k_tag (tag := 0) rfl fun r10 s11 => ?_)
    exact V_iret rfl dec_X13_nightsOf.2.2.2.2.2.2
  · refine V_iload_n dec_X13_nightsOf.2.1.1.2.2.1 3 rfl ?_
    refine V_aload_n dec_X13_nightsOf.2.1.1.2.2.2 0 rfl ?_
    refine V_iload_n dec_X13_nightsOf.2.1.2.1.1 2 rfl ?_
    refine V_iload dec_X13_nightsOf.2.1.2.1.2 4 rfl ?_
    refine V_callV0 (ci := 13) (a := x0) (As := [(0, x2), (0, x4)]) (st := [(0, x3)]) rfl rfl (X13_whoHears_s G l s x0 x2 x4) cal_X13_whoHears rfl ml_X13_333 rfl rfl dec_X13_nightsOf.2.1.2.2.1 (k_tag (tag := 0) rfl fun r12 s13 => ?_)
    refine V_iload_n dec_X13_nightsOf.2.1.2.2.2.1 1 rfl ?_
    refine V_icmp_ne (tgt := 59) dec_X13_nightsOf.2.1.2.2.2.2 (by decide) ?_ ?_
    · refine V_iconst dec_X13_nightsOf.2.2.1.2.1 rfl ?_
      exact V_pick [0, 1, 2, 4] rfl (X13_nightsOf_b60_s G l rk36 hk36 s13 x0 x1 x2 x4 0 x3)
    · refine V_iconst dec_X13_nightsOf.2.2.1.1.1 rfl ?_
      refine V_goto (tgt := 60) dec_X13_nightsOf.2.2.1.1.2 (by decide) ?_
      exact V_pick [0, 1, 2, 4] rfl (X13_nightsOf_b60_s G l rk36 hk36 s13 x0 x1 x2 x4 1 x3)
theorem X13_nightsOf_b36_s (G : Gx) (l : Launch) (n : Nat) (s : St) (x0 x1 x2 x3 x4 : Int) : V G l mX13_nightsOf 36 [(0, (2, x0)), (1, (0, x1)), (2, (0, x2)), (3, (0, x3)), (4, (0, x4))] [] s (X13_nightsOf_b36 n s x0 x1 x2 x3 x4) :=
  V_iter (LV := fun a : St × Int × Int × Int × Int × Int => [(0, (2, a.2.1)), (1, (0, a.2.2.1)), (2, (0, a.2.2.2.1)), (3, (0, a.2.2.2.2.1)), (4, (0, a.2.2.2.2.2))]) (ST := fun a : St × Int × Int × Int × Int × Int => []) (SS := fun a : St × Int × Int × Int × Int × Int => a.1) (fun rec hrec a => X13_nightsOf_b36_body_s G l (fun (s : St) (x0 x1 x2 x3 x4 : Int) => rec (s, x0, x1, x2, x3, x4)) (fun (s : St) (x0 x1 x2 x3 x4 : Int) => hrec (s, x0, x1, x2, x3, x4)) a.1 a.2.1 a.2.2.1 a.2.2.2.1 a.2.2.2.2.1 a.2.2.2.2.2) n (s, x0, x1, x2, x3, x4)
def X13_nightsOf (s : St) (a0 a1 a2 : Int) : Rs :=
  grd (isK s 23 a0) (lets (pI s a0 0 0) (fun s1 => grd (isK s1 23 a0) (bnd (X13_isPerson s1 a0 a1) (fun r2 s3 => if r2 = 0 then (X13_nightsOf_b21 s3 a0) else (grd (isK s3 23 a0) (bnd (X13_isDead s3 a0 a2) (fun r6 s7 => if ¬ r6 = 0 then (grd (isK s7 23 a0) (bnd (X13_works s7 a0) (fun r8 s9 => X13_nightsOf_b36 FU s9 a0 a1 a2 0 0))) else (X13_nightsOf_b21 s7 a0))))))))
set_option maxRecDepth 100000 in
set_option maxHeartbeats 4000000 in
theorem X13_nightsOf_s (G : Gx) (l : Launch) (s : St) (a0 a1 a2 : Int) : Snd G l mX13_nightsOf [(2, a0), (0, a1), (0, a2)] s (X13_nightsOf s a0 a1 a2) := by
  refine Snd.of (by decide +kernel) rfl ?_
  show V G l mX13_nightsOf 0 [(0, (2, a0)), (1, (0, a1)), (2, (0, a2))] [] s _
  unfold X13_nightsOf
  refine V_aload_n dec_X13_nightsOf.1.1.1.1.1 0 rfl ?_
  refine V_iconst dec_X13_nightsOf.1.1.1.1.2 rfl ?_
  refine V_putI (host := "") 13 0 nf_13_0 ty_13_0 (Or.inl ⟨fl_X13_49, Or.inl rfl⟩) dec_X13_nightsOf.1.1.1.2.1 ?_
  refine V_lets fun s1 => ?_
  refine V_aload_n dec_X13_nightsOf.1.1.1.2.2.1 0 rfl ?_
  refine V_iload_n dec_X13_nightsOf.1.1.1.2.2.2 1 rfl ?_
  refine V_callV0 (ci := 13) (a := a0) (As := [(0, a1)]) (st := []) rfl rfl (X13_isPerson_s G l s1 a0 a1) cal_X13_isPerson rfl ml_X13_339 rfl rfl dec_X13_nightsOf.1.1.2.1.1 (k_tag (tag := 0) rfl fun r2 s3 => ?_)
  refine V_if_eq (tgt := 21) dec_X13_nightsOf.1.1.2.1.2 (by decide) ?_ ?_
  · exact V_pick [0] rfl (X13_nightsOf_b21_s G l s3 a0)
  · refine V_aload_n dec_X13_nightsOf.1.1.2.2.1 0 rfl ?_
    refine V_iload_n dec_X13_nightsOf.1.1.2.2.2.1 2 rfl ?_
    refine V_callV0 (ci := 13) (a := a0) (As := [(0, a2)]) (st := []) rfl rfl (X13_isDead_s G l s3 a0 a2) cal_X13_isDead rfl ml_X13_348 rfl rfl dec_X13_nightsOf.1.1.2.2.2.2 (k_tag (tag := 0) rfl fun r6 s7 => ?_)
    refine V_if_ne (tgt := 27) dec_X13_nightsOf.1.2.1.1.1 (by decide) ?_ ?_
    · refine V_aload_n dec_X13_nightsOf.1.2.2.1.1 0 rfl ?_
      refine V_callV0 (ci := 13) (a := a0) (As := []) (st := []) rfl rfl (X13_works_s G l s7 a0) cal_X13_works rfl ml_X13_342 rfl rfl dec_X13_nightsOf.1.2.2.1.2.1 (k_void rfl fun r8 s9 => ?_)
      refine V_iconst dec_X13_nightsOf.1.2.2.1.2.2 rfl ?_
      refine V_istore_n (lv' := [(3, (0, 0)), (0, (2, a0)), (1, (0, a1)), (2, (0, a2))]) dec_X13_nightsOf.1.2.2.2.1 (by decide) rfl ?_
      refine V_iconst dec_X13_nightsOf.1.2.2.2.2.1 rfl ?_
      refine V_istore (lv' := [(4, (0, 0)), (3, (0, 0)), (0, (2, a0)), (1, (0, a1)), (2, (0, a2))]) dec_X13_nightsOf.1.2.2.2.2.2 (by decide) rfl ?_
      exact V_pick [2, 3, 4, 1, 0] rfl (X13_nightsOf_b36_s G l FU s9 a0 a1 a2 0 0)
    · exact V_pick [0] rfl (X13_nightsOf_b21_s G l s7 a0)
theorem dec_X13_odds : (((((decode cX13_odds 0 = .ok (.aload_n 0, 1) ∧ decode cX13_odds 1 = .ok (.iconst 0, 1)) ∧ (decode cX13_odds 2 = .ok (.putfield 49, 3) ∧ decode cX13_odds 5 = .ok (.aload_n 0, 1))) ∧ ((decode cX13_odds 6 = .ok (.aload_n 0, 1) ∧ decode cX13_odds 7 = .ok (.iload_n 1, 1)) ∧ (decode cX13_odds 8 = .ok (.invokevirtual 348, 3) ∧ decode cX13_odds 11 = .ok (.iload_n 2, 1)))) ∧ (((decode cX13_odds 12 = .ok (.invokevirtual 354, 3) ∧ decode cX13_odds 15 = .ok (.istore 4, 2)) ∧ (decode cX13_odds 17 = .ok (.iload 4, 2) ∧ decode cX13_odds 19 = .ok (.ifCond .le 11, 3))) ∧ ((decode cX13_odds 22 = .ok (.aload_n 0, 1) ∧ decode cX13_odds 23 = .ok (.iload 4, 2)) ∧ (decode cX13_odds 25 = .ok (.invokevirtual 55, 3) ∧ (decode cX13_odds 28 = .ok (.i2l, 1) ∧ decode cX13_odds 29 = .ok (.lreturn, 1)))))) ∧ ((((decode cX13_odds 30 = .ok (.aload_n 0, 1) ∧ decode cX13_odds 31 = .ok (.invokevirtual 342, 3)) ∧ (decode cX13_odds 34 = .ok (.aload_n 0, 1) ∧ decode cX13_odds 35 = .ok (.aload_n 0, 1))) ∧ ((decode cX13_odds 36 = .ok (.aload_n 0, 1) ∧ decode cX13_odds 37 = .ok (.getfield 303, 3)) ∧ (decode cX13_odds 40 = .ok (.getfield 263, 3) ∧ decode cX13_odds 43 = .ok (.iload_n 1, 1)))) ∧ (((decode cX13_odds 44 = .ok (.iaload, 1) ∧ decode cX13_odds 45 = .ok (.iload_n 1, 1)) ∧ (decode cX13_odds 46 = .ok (.iload_n 2, 1) ∧ decode cX13_odds 47 = .ok (.invokevirtual 447, 3))) ∧ ((decode cX13_odds 50 = .ok (.i2l, 1) ∧ decode cX13_odds 51 = .ok (.ldc2_w 450, 3)) ∧ (decode cX13_odds 54 = .ok (.iload_n 3, 1) ∧ (decode cX13_odds 55 = .ok (.invokevirtual 452, 3) ∧ decode cX13_odds 58 = .ok (.lreturn, 1))))))) := ⟨⟨by decide +kernel, by decide +kernel⟩, ⟨by decide +kernel, by decide +kernel⟩⟩
def X13_odds (s : St) (a0 a1 a2 a3 : Int) : Rs :=
  grd (isK s 23 a0) (lets (pI s a0 0 0) (fun s1 => grd (isK s1 23 a0) (bnd (X13_isDead s1 a0 a1) (fun r2 s3 => grd (isK s3 23 a0) (bnd (X13_refusesNight s3 a0 r2 a2) (fun r4 s5 => if r4 ≤ 0 then (grd (isK s5 23 a0) (bnd (X13_works s5 a0) (fun r6 s7 => grd (isK s7 23 a0) (grd (isK s7 22 (gR s7 a0 3)) (grd (isK s7 1 (gR s7 (gR s7 a0 3) 11) ∧ 0 ≤ a1 ∧ a1 < ln s7 (gR s7 (gR s7 a0 3) 11)) (grd (isK s7 23 a0) (bnd (X13_chance s7 a0 (gI s7 (gR s7 (gR s7 a0 3) 11) a1.toNat) a1 a2) (fun r8 s9 => grd (isK s9 23 a0) (bnd (X13_fraction s9 a0 r8 100 a3) (fun r10 s11 => some (r10, s11))))))))))) else (grd (isK s5 23 a0) (bnd (X13_refused s5 a0 r4) (fun r12 s13 => some (r12, s13))))))))))
set_option maxRecDepth 100000 in
set_option maxHeartbeats 4000000 in
theorem X13_odds_s (G : Gx) (l : Launch) (s : St) (a0 a1 a2 a3 : Int) : Snd G l mX13_odds [(2, a0), (0, a1), (0, a2), (0, a3)] s (X13_odds s a0 a1 a2 a3) := by
  refine Snd.of (by decide +kernel) rfl ?_
  show V G l mX13_odds 0 [(0, (2, a0)), (1, (0, a1)), (2, (0, a2)), (3, (0, a3))] [] s _
  unfold X13_odds
  refine V_aload_n dec_X13_odds.1.1.1.1.1 0 rfl ?_
  refine V_iconst dec_X13_odds.1.1.1.1.2 rfl ?_
  refine V_putI (host := "") 13 0 nf_13_0 ty_13_0 (Or.inl ⟨fl_X13_49, Or.inl rfl⟩) dec_X13_odds.1.1.1.2.1 ?_
  refine V_lets fun s1 => ?_
  refine V_aload_n dec_X13_odds.1.1.1.2.2 0 rfl ?_
  refine V_aload_n dec_X13_odds.1.1.2.1.1 0 rfl ?_
  refine V_iload_n dec_X13_odds.1.1.2.1.2 1 rfl ?_
  refine V_callV0 (ci := 13) (a := a0) (As := [(0, a1)]) (st := [(2, a0)]) rfl rfl (X13_isDead_s G l s1 a0 a1) cal_X13_isDead rfl ml_X13_348 rfl rfl dec_X13_odds.1.1.2.2.1 (k_tag (tag := 0) rfl fun r2 s3 => ?_)
  refine V_iload_n dec_X13_odds.1.1.2.2.2 2 rfl ?_
  refine V_callV0 (ci := 13) (a := a0) (As := [(0, r2), (0, a2)]) (st := []) rfl rfl (X13_refusesNight_s G l s3 a0 r2 a2) cal_X13_refusesNight rfl ml_X13_354 rfl rfl dec_X13_odds.1.2.1.1.1 (k_tag (tag := 0) rfl fun r4 s5 => ?_)
  refine V_istore (lv' := [(4, (0, r4)), (0, (2, a0)), (1, (0, a1)), (2, (0, a2)), (3, (0, a3))]) dec_X13_odds.1.2.1.1.2 (by decide) rfl ?_
  refine V_iload dec_X13_odds.1.2.1.2.1 0 rfl ?_
  refine V_if_le (tgt := 30) dec_X13_odds.1.2.1.2.2 (by decide) ?_ ?_
  · refine V_aload_n dec_X13_odds.2.1.1.1.1 1 rfl ?_
    refine V_callV0 (ci := 13) (a := a0) (As := []) (st := []) rfl rfl (X13_works_s G l s5 a0) cal_X13_works rfl ml_X13_342 rfl rfl dec_X13_odds.2.1.1.1.2 (k_void rfl fun r6 s7 => ?_)
    refine V_aload_n dec_X13_odds.2.1.1.2.1 1 rfl ?_
    refine V_aload_n dec_X13_odds.2.1.1.2.2 1 rfl ?_
    refine V_aload_n dec_X13_odds.2.1.2.1.1 1 rfl ?_
    refine V_getR 13 3 nf_13_3 ft_13_3 fl_X13_303 dec_X13_odds.2.1.2.1.2 ?_
    refine V_getRN RX13 12 11 nf_12_11 ft_12_11 fl_X13_263 dec_X13_odds.2.1.2.2.1 ?_
    refine V_iload_n dec_X13_odds.2.1.2.2.2 2 rfl ?_
    refine V_iald dec_X13_odds.2.2.1.1.1 ?_
    refine V_iload_n dec_X13_odds.2.2.1.1.2 2 rfl ?_
    refine V_iload_n dec_X13_odds.2.2.1.2.1 3 rfl ?_
    refine V_callV0 (ci := 13) (a := a0) (As := [(0, (gI s7 (gR s7 (gR s7 a0 3) 11) a1.toNat)), (0, a1), (0, a2)]) (st := [(2, a0)]) rfl rfl (X13_chance_s G l s7 a0 (gI s7 (gR s7 (gR s7 a0 3) 11) a1.toNat) a1 a2) cal_X13_chance rfl ml_X13_447 rfl rfl dec_X13_odds.2.2.1.2.2 (k_tag (tag := 0) rfl fun r8 s9 => ?_)
    refine V_i2l dec_X13_odds.2.2.2.1.1 ?_
    refine V_ldc2 (n := 100) cw_X13_450 (by decide) dec_X13_odds.2.2.2.1.2 ?_
    refine V_iload_n dec_X13_odds.2.2.2.2.1 4 rfl ?_
    refine V_callV0 (ci := 13) (a := a0) (As := [(1, r8), (1, 100), (0, a3)]) (st := []) rfl rfl (X13_fraction_s G l s9 a0 r8 100 a3) cal_X13_fraction rfl ml_X13_452 rfl rfl dec_X13_odds.2.2.2.2.2.1 (k_tag (tag := 1) rfl fun r10 s11 => ?_)
    exact V_lret rfl dec_X13_odds.2.2.2.2.2.2
  · refine V_aload_n dec_X13_odds.1.2.2.1.1 1 rfl ?_
    refine V_iload dec_X13_odds.1.2.2.1.2 0 rfl ?_
    refine V_callV0 (ci := 13) (a := a0) (As := [(0, r4)]) (st := []) rfl rfl (X13_refused_s G l s5 a0 r4) cal_X13_refused rfl ml_X13_55 rfl rfl dec_X13_odds.1.2.2.2.1 (k_tag (tag := 0) rfl fun r12 s13 => ?_)
    refine V_i2l dec_X13_odds.1.2.2.2.2.1 ?_
    exact V_lret rfl dec_X13_odds.1.2.2.2.2.2
theorem dec_X13_off : (((((decode cX13_off 0 = .ok (.aload_n 0, 1) ∧ decode cX13_off 1 = .ok (.iconst 0, 1)) ∧ (decode cX13_off 2 = .ok (.putfield 49, 3) ∧ decode cX13_off 5 = .ok (.aload_n 0, 1))) ∧ ((decode cX13_off 6 = .ok (.aload_n 0, 1) ∧ decode cX13_off 7 = .ok (.iload_n 1, 1)) ∧ (decode cX13_off 8 = .ok (.invokevirtual 348, 3) ∧ (decode cX13_off 11 = .ok (.iload_n 2, 1) ∧ decode cX13_off 12 = .ok (.invokevirtual 354, 3))))) ∧ (((decode cX13_off 15 = .ok (.istore_n 3, 1) ∧ decode cX13_off 16 = .ok (.iload_n 3, 1)) ∧ (decode cX13_off 17 = .ok (.ifCond .le 9, 3) ∧ (decode cX13_off 20 = .ok (.aload_n 0, 1) ∧ decode cX13_off 21 = .ok (.iload_n 3, 1)))) ∧ ((decode cX13_off 22 = .ok (.invokevirtual 55, 3) ∧ decode cX13_off 25 = .ok (.ireturn, 1)) ∧ (decode cX13_off 26 = .ok (.aload_n 0, 1) ∧ (decode cX13_off 27 = .ok (.invokevirtual 342, 3) ∧ decode cX13_off 30 = .ok (.aload_n 0, 1)))))) ∧ ((((decode cX13_off 31 = .ok (.aload_n 0, 1) ∧ decode cX13_off 32 = .ok (.aload_n 0, 1)) ∧ (decode cX13_off 33 = .ok (.getfield 21, 3) ∧ (decode cX13_off 36 = .ok (.aload_n 0, 1) ∧ decode cX13_off 37 = .ok (.iload_n 1, 1)))) ∧ ((decode cX13_off 38 = .ok (.iload_n 2, 1) ∧ decode cX13_off 39 = .ok (.invokevirtual 333, 3)) ∧ (decode cX13_off 42 = .ok (.iaload, 1) ∧ (decode cX13_off 43 = .ok (.aload_n 0, 1) ∧ decode cX13_off 44 = .ok (.iload_n 1, 1))))) ∧ (((decode cX13_off 45 = .ok (.aload_n 0, 1) ∧ decode cX13_off 46 = .ok (.iload_n 1, 1)) ∧ (decode cX13_off 47 = .ok (.invokevirtual 323, 3) ∧ (decode cX13_off 50 = .ok (.iload_n 2, 1) ∧ decode cX13_off 51 = .ok (.invokevirtual 326, 3)))) ∧ ((decode cX13_off 54 = .ok (.isub, 1) ∧ decode cX13_off 55 = .ok (.i2l, 1)) ∧ (decode cX13_off 56 = .ok (.invokevirtual 317, 3) ∧ (decode cX13_off 59 = .ok (.invokevirtual 59, 3) ∧ decode cX13_off 62 = .ok (.ireturn, 1))))))) := ⟨⟨by decide +kernel, by decide +kernel⟩, ⟨by decide +kernel, by decide +kernel⟩⟩
def X13_off (s : St) (a0 a1 a2 : Int) : Rs :=
  grd (isK s 23 a0) (lets (pI s a0 0 0) (fun s1 => grd (isK s1 23 a0) (bnd (X13_isDead s1 a0 a1) (fun r2 s3 => grd (isK s3 23 a0) (bnd (X13_refusesNight s3 a0 r2 a2) (fun r4 s5 => if r4 ≤ 0 then (grd (isK s5 23 a0) (bnd (X13_works s5 a0) (fun r6 s7 => grd (isK s7 23 a0) (grd (isK s7 23 a0) (bnd (X13_whoHears s7 a0 a1 a2) (fun r8 s9 => grd (isK s9 1 (gR s7 a0 16) ∧ 0 ≤ r8 ∧ r8 < ln s9 (gR s7 a0 16)) (grd (isK s9 23 a0) (bnd (X13_aimOf s9 a0 a1) (fun r10 s11 => grd (isK s11 23 a0) (bnd (X13_outOf s11 a0 a1 r10 a2) (fun r12 s13 => grd (isK s13 23 a0) (bnd (X13_around s13 a0 (w32 ((gI s9 (gR s7 a0 16) r8.toNat) - r12))) (fun r14 s15 => grd (isK s15 23 a0) (bnd (X13_good s15 a0 r14) (fun r16 s17 => some (r16, s17)))))))))))))))) else (grd (isK s5 23 a0) (bnd (X13_refused s5 a0 r4) (fun r18 s19 => some (r18, s19))))))))))
set_option maxRecDepth 100000 in
set_option maxHeartbeats 4000000 in
theorem X13_off_s (G : Gx) (l : Launch) (s : St) (a0 a1 a2 : Int) : Snd G l mX13_off [(2, a0), (0, a1), (0, a2)] s (X13_off s a0 a1 a2) := by
  refine Snd.of (by decide +kernel) rfl ?_
  show V G l mX13_off 0 [(0, (2, a0)), (1, (0, a1)), (2, (0, a2))] [] s _
  unfold X13_off
  refine V_aload_n dec_X13_off.1.1.1.1.1 0 rfl ?_
  refine V_iconst dec_X13_off.1.1.1.1.2 rfl ?_
  refine V_putI (host := "") 13 0 nf_13_0 ty_13_0 (Or.inl ⟨fl_X13_49, Or.inl rfl⟩) dec_X13_off.1.1.1.2.1 ?_
  refine V_lets fun s1 => ?_
  refine V_aload_n dec_X13_off.1.1.1.2.2 0 rfl ?_
  refine V_aload_n dec_X13_off.1.1.2.1.1 0 rfl ?_
  refine V_iload_n dec_X13_off.1.1.2.1.2 1 rfl ?_
  refine V_callV0 (ci := 13) (a := a0) (As := [(0, a1)]) (st := [(2, a0)]) rfl rfl (X13_isDead_s G l s1 a0 a1) cal_X13_isDead rfl ml_X13_348 rfl rfl dec_X13_off.1.1.2.2.1 (k_tag (tag := 0) rfl fun r2 s3 => ?_)
  refine V_iload_n dec_X13_off.1.1.2.2.2.1 2 rfl ?_
  refine V_callV0 (ci := 13) (a := a0) (As := [(0, r2), (0, a2)]) (st := []) rfl rfl (X13_refusesNight_s G l s3 a0 r2 a2) cal_X13_refusesNight rfl ml_X13_354 rfl rfl dec_X13_off.1.1.2.2.2.2 (k_tag (tag := 0) rfl fun r4 s5 => ?_)
  refine V_istore_n (lv' := [(3, (0, r4)), (0, (2, a0)), (1, (0, a1)), (2, (0, a2))]) dec_X13_off.1.2.1.1.1 (by decide) rfl ?_
  refine V_iload_n dec_X13_off.1.2.1.1.2 0 rfl ?_
  refine V_if_le (tgt := 26) dec_X13_off.1.2.1.2.1 (by decide) ?_ ?_
  · refine V_aload_n dec_X13_off.1.2.2.2.1 1 rfl ?_
    refine V_callV0 (ci := 13) (a := a0) (As := []) (st := []) rfl rfl (X13_works_s G l s5 a0) cal_X13_works rfl ml_X13_342 rfl rfl dec_X13_off.1.2.2.2.2.1 (k_void rfl fun r6 s7 => ?_)
    refine V_aload_n dec_X13_off.1.2.2.2.2.2 1 rfl ?_
    refine V_aload_n dec_X13_off.2.1.1.1.1 1 rfl ?_
    refine V_aload_n dec_X13_off.2.1.1.1.2 1 rfl ?_
    refine V_getR 13 16 nf_13_16 ft_13_16 fl_X13_21 dec_X13_off.2.1.1.2.1 ?_
    refine V_aload_n dec_X13_off.2.1.1.2.2.1 1 rfl ?_
    refine V_iload_n dec_X13_off.2.1.1.2.2.2 2 rfl ?_
    refine V_iload_n dec_X13_off.2.1.2.1.1 3 rfl ?_
    refine V_callV0 (ci := 13) (a := a0) (As := [(0, a1), (0, a2)]) (st := [(2, (gR s7 a0 16)), (2, a0), (2, a0)]) rfl rfl (X13_whoHears_s G l s7 a0 a1 a2) cal_X13_whoHears rfl ml_X13_333 rfl rfl dec_X13_off.2.1.2.1.2 (k_tag (tag := 0) rfl fun r8 s9 => ?_)
    refine V_iald dec_X13_off.2.1.2.2.1 ?_
    refine V_aload_n dec_X13_off.2.1.2.2.2.1 1 rfl ?_
    refine V_iload_n dec_X13_off.2.1.2.2.2.2 2 rfl ?_
    refine V_aload_n dec_X13_off.2.2.1.1.1 1 rfl ?_
    refine V_iload_n dec_X13_off.2.2.1.1.2 2 rfl ?_
    refine V_callV0 (ci := 13) (a := a0) (As := [(0, a1)]) (st := [(0, a1), (2, a0), (0, (gI s9 (gR s7 a0 16) r8.toNat)), (2, a0), (2, a0)]) rfl rfl (X13_aimOf_s G l s9 a0 a1) cal_X13_aimOf rfl ml_X13_323 rfl rfl dec_X13_off.2.2.1.2.1 (k_tag (tag := 0) rfl fun r10 s11 => ?_)
    refine V_iload_n dec_X13_off.2.2.1.2.2.1 3 rfl ?_
    refine V_callV0 (ci := 13) (a := a0) (As := [(0, a1), (0, r10), (0, a2)]) (st := [(0, (gI s9 (gR s7 a0 16) r8.toNat)), (2, a0), (2, a0)]) rfl rfl (X13_outOf_s G l s11 a0 a1 r10 a2) cal_X13_outOf rfl ml_X13_326 rfl rfl dec_X13_off.2.2.1.2.2.2 (k_tag (tag := 0) rfl fun r12 s13 => ?_)
    refine V_isub dec_X13_off.2.2.2.1.1 ?_
    refine V_i2l dec_X13_off.2.2.2.1.2 ?_
    refine V_callV0 (ci := 13) (a := a0) (As := [(1, (w32 ((gI s9 (gR s7 a0 16) r8.toNat) - r12)))]) (st := [(2, a0)]) rfl rfl (X13_around_s G l s13 a0 (w32 ((gI s9 (gR s7 a0 16) r8.toNat) - r12))) cal_X13_around rfl ml_X13_317 rfl rfl dec_X13_off.2.2.2.2.1 (k_tag (tag := 0) rfl fun r14 s15 => ?_)
    refine V_callV0 (ci := 13) (a := a0) (As := [(0, r14)]) (st := []) rfl rfl (X13_good_s G l s15 a0 r14) cal_X13_good rfl ml_X13_59 rfl rfl dec_X13_off.2.2.2.2.2.1 (k_tag (tag := 0) rfl fun r16 s17 => ?_)
    exact V_iret rfl dec_X13_off.2.2.2.2.2.2
  · refine V_aload_n dec_X13_off.1.2.1.2.2.1 1 rfl ?_
    refine V_iload_n dec_X13_off.1.2.1.2.2.2 0 rfl ?_
    refine V_callV0 (ci := 13) (a := a0) (As := [(0, r4)]) (st := []) rfl rfl (X13_refused_s G l s5 a0 r4) cal_X13_refused rfl ml_X13_55 rfl rfl dec_X13_off.1.2.2.1.1 (k_tag (tag := 0) rfl fun r18 s19 => ?_)
    exact V_iret rfl dec_X13_off.1.2.2.1.2
theorem dec_X13_outIf : (((((decode cX13_outIf 0 = .ok (.aload_n 0, 1) ∧ decode cX13_outIf 1 = .ok (.iconst 0, 1)) ∧ (decode cX13_outIf 2 = .ok (.putfield 49, 3) ∧ decode cX13_outIf 5 = .ok (.aload_n 0, 1))) ∧ ((decode cX13_outIf 6 = .ok (.aload_n 0, 1) ∧ decode cX13_outIf 7 = .ok (.iload_n 1, 1)) ∧ (decode cX13_outIf 8 = .ok (.invokevirtual 348, 3) ∧ decode cX13_outIf 11 = .ok (.ifCond .eq 15, 3)))) ∧ (((decode cX13_outIf 14 = .ok (.aload_n 0, 1) ∧ decode cX13_outIf 15 = .ok (.iload_n 2, 1)) ∧ (decode cX13_outIf 16 = .ok (.invokevirtual 351, 3) ∧ decode cX13_outIf 19 = .ok (.ifCond .eq 7, 3))) ∧ ((decode cX13_outIf 22 = .ok (.iconst 1, 1) ∧ decode cX13_outIf 23 = .ok (.goto 4, 3)) ∧ (decode cX13_outIf 26 = .ok (.iconst 0, 1) ∧ (decode cX13_outIf 27 = .ok (.iload_n 3, 1) ∧ decode cX13_outIf 28 = .ok (.invokevirtual 354, 3)))))) ∧ ((((decode cX13_outIf 31 = .ok (.istore 4, 2) ∧ decode cX13_outIf 33 = .ok (.iload 4, 2)) ∧ (decode cX13_outIf 35 = .ok (.ifCond .le 10, 3) ∧ decode cX13_outIf 38 = .ok (.aload_n 0, 1))) ∧ ((decode cX13_outIf 39 = .ok (.iload 4, 2) ∧ decode cX13_outIf 41 = .ok (.invokevirtual 55, 3)) ∧ (decode cX13_outIf 44 = .ok (.ireturn, 1) ∧ decode cX13_outIf 45 = .ok (.aload_n 0, 1)))) ∧ (((decode cX13_outIf 46 = .ok (.invokevirtual 342, 3) ∧ decode cX13_outIf 49 = .ok (.aload_n 0, 1)) ∧ (decode cX13_outIf 50 = .ok (.aload_n 0, 1) ∧ decode cX13_outIf 51 = .ok (.iload_n 1, 1))) ∧ ((decode cX13_outIf 52 = .ok (.iload_n 2, 1) ∧ decode cX13_outIf 53 = .ok (.iload_n 3, 1)) ∧ (decode cX13_outIf 54 = .ok (.invokevirtual 326, 3) ∧ (decode cX13_outIf 57 = .ok (.invokevirtual 59, 3) ∧ decode cX13_outIf 60 = .ok (.ireturn, 1))))))) := ⟨⟨by decide +kernel, by decide +kernel⟩, ⟨by decide +kernel, by decide +kernel⟩⟩
def X13_outIf_b27 (s : St) (x0 x1 x2 x3 k0 k1 : Int) : Rs :=
  grd (isK s 23 k1) (bnd (X13_refusesNight s k1 k0 x3) (fun r4 s5 => if r4 ≤ 0 then (grd (isK s5 23 x0) (bnd (X13_works s5 x0) (fun r6 s7 => grd (isK s7 23 x0) (bnd (X13_outOf s7 x0 x1 x2 x3) (fun r8 s9 => grd (isK s9 23 x0) (bnd (X13_good s9 x0 r8) (fun r10 s11 => some (r10, s11)))))))) else (grd (isK s5 23 x0) (bnd (X13_refused s5 x0 r4) (fun r12 s13 => some (r12, s13))))))
set_option maxRecDepth 100000 in
set_option maxHeartbeats 4000000 in
theorem X13_outIf_b27_s (G : Gx) (l : Launch) (s : St) (x0 x1 x2 x3 k0 k1 : Int) : V G l mX13_outIf 27 [(0, (2, x0)), (1, (0, x1)), (2, (0, x2)), (3, (0, x3))] [(0, k0), (2, k1)] s (X13_outIf_b27 s x0 x1 x2 x3 k0 k1) := by
  unfold X13_outIf_b27
  refine V_iload_n dec_X13_outIf.1.2.2.2.2.1 3 rfl ?_
  refine V_callV0 (ci := 13) (a := k1) (As := [(0, k0), (0, x3)]) (st := []) rfl rfl (X13_refusesNight_s G l s k1 k0 x3) cal_X13_refusesNight rfl ml_X13_354 rfl rfl dec_X13_outIf.1.2.2.2.2.2 (k_tag (tag := 0) rfl fun r4 s5 => ?_)
  refine V_istore (lv' := [(4, (0, r4)), (0, (2, x0)), (1, (0, x1)), (2, (0, x2)), (3, (0, x3))]) dec_X13_outIf.2.1.1.1.1 (by decide) rfl ?_
  refine V_iload dec_X13_outIf.2.1.1.1.2 0 rfl ?_
  refine V_if_le (tgt := 45) dec_X13_outIf.2.1.1.2.1 (by decide) ?_ ?_
  · refine V_aload_n dec_X13_outIf.2.1.2.2.2 1 rfl ?_
    refine V_callV0 (ci := 13) (a := x0) (As := []) (st := []) rfl rfl (X13_works_s G l s5 x0) cal_X13_works rfl ml_X13_342 rfl rfl dec_X13_outIf.2.2.1.1.1 (k_void rfl fun r6 s7 => ?_)
    refine V_aload_n dec_X13_outIf.2.2.1.1.2 1 rfl ?_
    refine V_aload_n dec_X13_outIf.2.2.1.2.1 1 rfl ?_
    refine V_iload_n dec_X13_outIf.2.2.1.2.2 2 rfl ?_
    refine V_iload_n dec_X13_outIf.2.2.2.1.1 3 rfl ?_
    refine V_iload_n dec_X13_outIf.2.2.2.1.2 4 rfl ?_
    refine V_callV0 (ci := 13) (a := x0) (As := [(0, x1), (0, x2), (0, x3)]) (st := [(2, x0)]) rfl rfl (X13_outOf_s G l s7 x0 x1 x2 x3) cal_X13_outOf rfl ml_X13_326 rfl rfl dec_X13_outIf.2.2.2.2.1 (k_tag (tag := 0) rfl fun r8 s9 => ?_)
    refine V_callV0 (ci := 13) (a := x0) (As := [(0, r8)]) (st := []) rfl rfl (X13_good_s G l s9 x0 r8) cal_X13_good rfl ml_X13_59 rfl rfl dec_X13_outIf.2.2.2.2.2.1 (k_tag (tag := 0) rfl fun r10 s11 => ?_)
    exact V_iret rfl dec_X13_outIf.2.2.2.2.2.2
  · refine V_aload_n dec_X13_outIf.2.1.1.2.2 1 rfl ?_
    refine V_iload dec_X13_outIf.2.1.2.1.1 0 rfl ?_
    refine V_callV0 (ci := 13) (a := x0) (As := [(0, r4)]) (st := []) rfl rfl (X13_refused_s G l s5 x0 r4) cal_X13_refused rfl ml_X13_55 rfl rfl dec_X13_outIf.2.1.2.1.2 (k_tag (tag := 0) rfl fun r12 s13 => ?_)
    exact V_iret rfl dec_X13_outIf.2.1.2.2.1
def X13_outIf_b26 (s : St) (x0 x1 x2 x3 k0 : Int) : Rs :=
  X13_outIf_b27 s x0 x1 x2 x3 0 k0
set_option maxRecDepth 100000 in
set_option maxHeartbeats 4000000 in
theorem X13_outIf_b26_s (G : Gx) (l : Launch) (s : St) (x0 x1 x2 x3 k0 : Int) : V G l mX13_outIf 26 [(0, (2, x0)), (1, (0, x1)), (2, (0, x2)), (3, (0, x3))] [(2, k0)] s (X13_outIf_b26 s x0 x1 x2 x3 k0) := by
  unfold X13_outIf_b26
  refine V_iconst dec_X13_outIf.1.2.2.2.1 rfl ?_
  exact V_pick [0, 1, 2, 3] rfl (X13_outIf_b27_s G l s x0 x1 x2 x3 0 k0)
def X13_outIf (s : St) (a0 a1 a2 a3 : Int) : Rs :=
  grd (isK s 23 a0) (lets (pI s a0 0 0) (fun s1 => grd (isK s1 23 a0) (bnd (X13_isDead s1 a0 a1) (fun r2 s3 => if r2 = 0 then (X13_outIf_b26 s3 a0 a1 a2 a3 a0) else (grd (isK s3 23 a0) (bnd (X13_isHouse s3 a0 a2) (fun r14 s15 => if r14 = 0 then (X13_outIf_b26 s15 a0 a1 a2 a3 a0) else (X13_outIf_b27 s15 a0 a1 a2 a3 1 a0))))))))
set_option maxRecDepth 100000 in
set_option maxHeartbeats 4000000 in
theorem X13_outIf_s (G : Gx) (l : Launch) (s : St) (a0 a1 a2 a3 : Int) : Snd G l mX13_outIf [(2, a0), (0, a1), (0, a2), (0, a3)] s (X13_outIf s a0 a1 a2 a3) := by
  refine Snd.of (by decide +kernel) rfl ?_
  show V G l mX13_outIf 0 [(0, (2, a0)), (1, (0, a1)), (2, (0, a2)), (3, (0, a3))] [] s _
  unfold X13_outIf
  refine V_aload_n dec_X13_outIf.1.1.1.1.1 0 rfl ?_
  refine V_iconst dec_X13_outIf.1.1.1.1.2 rfl ?_
  refine V_putI (host := "") 13 0 nf_13_0 ty_13_0 (Or.inl ⟨fl_X13_49, Or.inl rfl⟩) dec_X13_outIf.1.1.1.2.1 ?_
  refine V_lets fun s1 => ?_
  refine V_aload_n dec_X13_outIf.1.1.1.2.2 0 rfl ?_
  refine V_aload_n dec_X13_outIf.1.1.2.1.1 0 rfl ?_
  refine V_iload_n dec_X13_outIf.1.1.2.1.2 1 rfl ?_
  refine V_callV0 (ci := 13) (a := a0) (As := [(0, a1)]) (st := [(2, a0)]) rfl rfl (X13_isDead_s G l s1 a0 a1) cal_X13_isDead rfl ml_X13_348 rfl rfl dec_X13_outIf.1.1.2.2.1 (k_tag (tag := 0) rfl fun r2 s3 => ?_)
  refine V_if_eq (tgt := 26) dec_X13_outIf.1.1.2.2.2 (by decide) ?_ ?_
  · exact V_pick [0, 1, 2, 3] rfl (X13_outIf_b26_s G l s3 a0 a1 a2 a3 a0)
  · refine V_aload_n dec_X13_outIf.1.2.1.1.1 0 rfl ?_
    refine V_iload_n dec_X13_outIf.1.2.1.1.2 2 rfl ?_
    refine V_callV0 (ci := 13) (a := a0) (As := [(0, a2)]) (st := [(2, a0)]) rfl rfl (X13_isHouse_s G l s3 a0 a2) cal_X13_isHouse rfl ml_X13_351 rfl rfl dec_X13_outIf.1.2.1.2.1 (k_tag (tag := 0) rfl fun r14 s15 => ?_)
    refine V_if_eq (tgt := 26) dec_X13_outIf.1.2.1.2.2 (by decide) ?_ ?_
    · exact V_pick [0, 1, 2, 3] rfl (X13_outIf_b26_s G l s15 a0 a1 a2 a3 a0)
    · refine V_iconst dec_X13_outIf.1.2.2.1.1 rfl ?_
      refine V_goto (tgt := 27) dec_X13_outIf.1.2.2.1.2 (by decide) ?_
      exact V_pick [0, 1, 2, 3] rfl (X13_outIf_b27_s G l s15 a0 a1 a2 a3 1 a0)
theorem dec_X13_perfect : (((((decode cX13_perfect 0 = .ok (.aload_n 0, 1) ∧ decode cX13_perfect 1 = .ok (.iconst 0, 1)) ∧ (decode cX13_perfect 2 = .ok (.putfield 49, 3) ∧ decode cX13_perfect 5 = .ok (.aload_n 0, 1))) ∧ ((decode cX13_perfect 6 = .ok (.getfield 303, 3) ∧ decode cX13_perfect 9 = .ok (.ifnonnull 9, 3)) ∧ (decode cX13_perfect 12 = .ok (.aload_n 0, 1) ∧ (decode cX13_perfect 13 = .ok (.iconst 1, 1) ∧ decode cX13_perfect 14 = .ok (.invokevirtual 55, 3))))) ∧ (((decode cX13_perfect 17 = .ok (.ireturn, 1) ∧ decode cX13_perfect 18 = .ok (.aload_n 0, 1)) ∧ (decode cX13_perfect 19 = .ok (.invokevirtual 342, 3) ∧ (decode cX13_perfect 22 = .ok (.iconst 0, 1) ∧ decode cX13_perfect 23 = .ok (.istore_n 1, 1)))) ∧ ((decode cX13_perfect 24 = .ok (.iconst 0, 1) ∧ decode cX13_perfect 25 = .ok (.istore_n 2, 1)) ∧ (decode cX13_perfect 26 = .ok (.iload_n 2, 1) ∧ (decode cX13_perfect 27 = .ok (.bipush 100, 2) ∧ decode cX13_perfect 29 = .ok (.if_icmp .ge 35, 3)))))) ∧ ((((decode cX13_perfect 32 = .ok (.iload_n 1, 1) ∧ decode cX13_perfect 33 = .ok (.aload_n 0, 1)) ∧ (decode cX13_perfect 34 = .ok (.iload_n 2, 1) ∧ (decode cX13_perfect 35 = .ok (.invokevirtual 358, 3) ∧ decode cX13_perfect 38 = .ok (.invokestatic 361, 3)))) ∧ ((decode cX13_perfect 41 = .ok (.aload_n 0, 1) ∧ decode cX13_perfect 42 = .ok (.getfield 303, 3)) ∧ (decode cX13_perfect 45 = .ok (.getfield 241, 3) ∧ (decode cX13_perfect 48 = .ok (.if_icmp .ne 7, 3) ∧ decode cX13_perfect 51 = .ok (.iconst 1, 1))))) ∧ (((decode cX13_perfect 52 = .ok (.goto 4, 3) ∧ decode cX13_perfect 55 = .ok (.iconst 0, 1)) ∧ (decode cX13_perfect 56 = .ok (.iadd, 1) ∧ (decode cX13_perfect 57 = .ok (.istore_n 1, 1) ∧ decode cX13_perfect 58 = .ok (.iinc 2 1, 3)))) ∧ ((decode cX13_perfect 61 = .ok (.goto (-35), 3) ∧ decode cX13_perfect 64 = .ok (.aload_n 0, 1)) ∧ (decode cX13_perfect 65 = .ok (.iload_n 1, 1) ∧ (decode cX13_perfect 66 = .ok (.invokevirtual 59, 3) ∧ decode cX13_perfect 69 = .ok (.ireturn, 1))))))) := ⟨⟨by decide +kernel, by decide +kernel⟩, ⟨by decide +kernel, by decide +kernel⟩⟩
def X13_perfect_b56 (rk26 : St → Int → Int → Int → Rs) (s : St) (x0 x2 k0 k1 : Int) : Rs :=
  rk26 s x0 (w32 (k1 + k0)) (w32 (x2 + 1))
set_option maxRecDepth 100000 in
set_option maxHeartbeats 4000000 in
theorem X13_perfect_b56_s (G : Gx) (l : Launch) (rk26 : St → Int → Int → Int → Rs) (hk26 : ∀ (s : St) (x0 x1 x2 : Int), V G l mX13_perfect 26 [(0, (2, x0)), (1, (0, x1)), (2, (0, x2))] [] s (rk26 s x0 x1 x2)) (s : St) (x0 x2 k0 k1 : Int) : V G l mX13_perfect 56 [(0, (2, x0)), (2, (0, x2))] [(0, k0), (0, k1)] s (X13_perfect_b56 rk26 s x0 x2 k0 k1) := by
  unfold X13_perfect_b56
  refine V_iadd dec_X13_perfect.2.2.1.2.1 ?_
  refine V_istore_n (lv' := [(1, (0, (w32 (k1 + k0)))), (0, (2, x0)), (2, (0, x2))]) dec_X13_perfect.2.2.1.2.2.1 (by decide) rfl ?_
  refine V_iinc (lv' := [(2, (0, (w32 (x2 + 1)))), (1, (0, (w32 (k1 + k0)))), (0, (2, x0))]) dec_X13_perfect.2.2.1.2.2.2 2 rfl (by decide) rfl ?_
  refine V_goto (tgt := 26) dec_X13_perfect.2.2.2.1.1 (by decide) ?_
  exact V_pick [2, 1, 0] rfl (hk26 s x0 (w32 (k1 + k0)) (w32 (x2 + 1)))
def X13_perfect_b26_body (rk26 : St → Int → Int → Int → Rs) (s : St) (x0 x1 x2 : Int) : Rs :=
  if (100 : Int) ≤ x2 then (grd (isK s 23 x0) (bnd (X13_good s x0 x1) (fun r4 s5 => some (r4, s5)))) else (grd (isK s 23 x0) (bnd (X13_rightOn s x0 x2) (fun r6 s7 => bnd (X13_bits s7 r6) (fun r8 s9 => grd (isK s9 23 x0) (grd (isK s9 22 (gR s9 x0 3)) (if ¬ r8 = (gI s9 (gR s9 x0 3) 3) then (X13_perfect_b56 rk26 s9 x0 x2 0 x1) else (X13_perfect_b56 rk26 s9 x0 x2 1 x1)))))))
def X13_perfect_b26 (n : Nat) (s : St) (x0 x1 x2 : Int) : Rs := iter (fun (rec : St × Int × Int × Int → Rs) (a : St × Int × Int × Int) => X13_perfect_b26_body (fun (s : St) (x0 x1 x2 : Int) => rec (s, x0, x1, x2)) a.1 a.2.1 a.2.2.1 a.2.2.2) n (s, x0, x1, x2)
theorem X13_perfect_b26_0 (s : St) (x0 x1 x2 : Int) : X13_perfect_b26 0 s x0 x1 x2 = none := rfl
theorem X13_perfect_b26_1 (n : Nat) (s : St) (x0 x1 x2 : Int) : X13_perfect_b26 (n + 1) s x0 x1 x2 = X13_perfect_b26_body (X13_perfect_b26 n) s x0 x1 x2 := rfl
set_option maxRecDepth 100000 in
set_option maxHeartbeats 4000000 in
theorem X13_perfect_b26_body_s (G : Gx) (l : Launch) (rk26 : St → Int → Int → Int → Rs) (hk26 : ∀ (s : St) (x0 x1 x2 : Int), V G l mX13_perfect 26 [(0, (2, x0)), (1, (0, x1)), (2, (0, x2))] [] s (rk26 s x0 x1 x2)) (s : St) (x0 x1 x2 : Int) : V G l mX13_perfect 26 [(0, (2, x0)), (1, (0, x1)), (2, (0, x2))] [] s (X13_perfect_b26_body rk26 s x0 x1 x2) := by
  unfold X13_perfect_b26_body
  refine V_iload_n dec_X13_perfect.1.2.2.2.1 2 rfl ?_
  refine V_bipush dec_X13_perfect.1.2.2.2.2.1 rfl ?_
  refine V_icmp_ge (tgt := 64) dec_X13_perfect.1.2.2.2.2.2 (by decide) ?_ ?_
  · refine V_aload_n dec_X13_perfect.2.2.2.1.2 0 rfl ?_
    refine V_iload_n dec_X13_perfect.2.2.2.2.1 1 rfl ?_
    refine V_callV0 (ci := 13) (a := x0) (As := [(0, x1)]) (st := []) rfl rfl (X13_good_s G l s x0 x1) cal_X13_good rfl ml_X13_59 rfl rfl dec_X13_perfect.2.2.2.2.2.1 (k_tag (tag := 0) rfl fun r4 s5 => ?_)
    exact V_iret rfl dec_X13_perfect.2.2.2.2.2.2
  · refine V_iload_n dec_X13_perfect.2.1.1.1.1 1 rfl ?_
    refine V_aload_n dec_X13_perfect.2.1.1.1.2 0 rfl ?_
    refine V_iload_n dec_X13_perfect.2.1.1.2.1 2 rfl ?_
    refine V_callV0 (ci := 13) (a := x0) (As := [(0, x2)]) (st := [(0, x1)]) rfl rfl (X13_rightOn_s G l s x0 x2) cal_X13_rightOn rfl ml_X13_358 rfl rfl dec_X13_perfect.2.1.1.2.2.1 (k_tag (tag := 0) rfl fun r6 s7 => ?_)
    refine V_callS0 (As := [(0, r6)]) (st := [(0, x1)]) (host := "") rfl (X13_bits_s G l s7 r6) cal_X13_bits rfl (Or.inl ml_X13_361) rfl rfl dec_X13_perfect.2.1.1.2.2.2 (k_tag (tag := 0) rfl fun r8 s9 => ?_)
    refine V_aload_n dec_X13_perfect.2.1.2.1.1 0 rfl ?_
    refine V_getR 13 3 nf_13_3 ft_13_3 fl_X13_303 dec_X13_perfect.2.1.2.1.2 ?_
    refine V_getIN RX13 12 3 nf_12_3 ft_12_3 fl_X13_241 dec_X13_perfect.2.1.2.2.1 ?_
    refine V_icmp_ne (tgt := 55) dec_X13_perfect.2.1.2.2.2.1 (by decide) ?_ ?_
    · refine V_iconst dec_X13_perfect.2.2.1.1.2 rfl ?_
      exact V_pick [0, 2] rfl (X13_perfect_b56_s G l rk26 hk26 s9 x0 x2 0 x1)
    · refine V_iconst dec_X13_perfect.2.1.2.2.2.2 rfl ?_
      refine V_goto (tgt := 56) dec_X13_perfect.2.2.1.1.1 (by decide) ?_
      exact V_pick [0, 2] rfl (X13_perfect_b56_s G l rk26 hk26 s9 x0 x2 1 x1)
theorem X13_perfect_b26_s (G : Gx) (l : Launch) (n : Nat) (s : St) (x0 x1 x2 : Int) : V G l mX13_perfect 26 [(0, (2, x0)), (1, (0, x1)), (2, (0, x2))] [] s (X13_perfect_b26 n s x0 x1 x2) :=
  V_iter (LV := fun a : St × Int × Int × Int => [(0, (2, a.2.1)), (1, (0, a.2.2.1)), (2, (0, a.2.2.2))]) (ST := fun a : St × Int × Int × Int => []) (SS := fun a : St × Int × Int × Int => a.1) (fun rec hrec a => X13_perfect_b26_body_s G l (fun (s : St) (x0 x1 x2 : Int) => rec (s, x0, x1, x2)) (fun (s : St) (x0 x1 x2 : Int) => hrec (s, x0, x1, x2)) a.1 a.2.1 a.2.2.1 a.2.2.2) n (s, x0, x1, x2)
def X13_perfect (s : St) (a0 : Int) : Rs :=
  grd (isK s 23 a0) (lets (pI s a0 0 0) (fun s1 => grd (isK s1 23 a0) (if (gR s1 a0 3) < 0 then (grd (isK s1 23 a0) (bnd (X13_refused s1 a0 1) (fun r10 s11 => some (r10, s11)))) else (grd (isK s1 23 a0) (bnd (X13_works s1 a0) (fun r2 s3 => X13_perfect_b26 FU s3 a0 0 0))))))
set_option maxRecDepth 100000 in
set_option maxHeartbeats 4000000 in
theorem X13_perfect_s (G : Gx) (l : Launch) (s : St) (a0 : Int) : Snd G l mX13_perfect [(2, a0)] s (X13_perfect s a0) := by
  refine Snd.of (by decide +kernel) rfl ?_
  show V G l mX13_perfect 0 [(0, (2, a0))] [] s _
  unfold X13_perfect
  refine V_aload_n dec_X13_perfect.1.1.1.1.1 0 rfl ?_
  refine V_iconst dec_X13_perfect.1.1.1.1.2 rfl ?_
  refine V_putI (host := "") 13 0 nf_13_0 ty_13_0 (Or.inl ⟨fl_X13_49, Or.inl rfl⟩) dec_X13_perfect.1.1.1.2.1 ?_
  refine V_lets fun s1 => ?_
  refine V_aload_n dec_X13_perfect.1.1.1.2.2 0 rfl ?_
  refine V_getR 13 3 nf_13_3 ft_13_3 fl_X13_303 dec_X13_perfect.1.1.2.1.1 ?_
  refine V_ifnonnull (tgt := 18) dec_X13_perfect.1.1.2.1.2 (by decide) ?_ ?_
  · refine V_aload_n dec_X13_perfect.1.1.2.2.1 0 rfl ?_
    refine V_iconst dec_X13_perfect.1.1.2.2.2.1 rfl ?_
    refine V_callV0 (ci := 13) (a := a0) (As := [(0, 1)]) (st := []) rfl rfl (X13_refused_s G l s1 a0 1) cal_X13_refused rfl ml_X13_55 rfl rfl dec_X13_perfect.1.1.2.2.2.2 (k_tag (tag := 0) rfl fun r10 s11 => ?_)
    exact V_iret rfl dec_X13_perfect.1.2.1.1.1
  · refine V_aload_n dec_X13_perfect.1.2.1.1.2 0 rfl ?_
    refine V_callV0 (ci := 13) (a := a0) (As := []) (st := []) rfl rfl (X13_works_s G l s1 a0) cal_X13_works rfl ml_X13_342 rfl rfl dec_X13_perfect.1.2.1.2.1 (k_void rfl fun r2 s3 => ?_)
    refine V_iconst dec_X13_perfect.1.2.1.2.2.1 rfl ?_
    refine V_istore_n (lv' := [(1, (0, 0)), (0, (2, a0))]) dec_X13_perfect.1.2.1.2.2.2 (by decide) rfl ?_
    refine V_iconst dec_X13_perfect.1.2.2.1.1 rfl ?_
    refine V_istore_n (lv' := [(2, (0, 0)), (1, (0, 0)), (0, (2, a0))]) dec_X13_perfect.1.2.2.1.2 (by decide) rfl ?_
    exact V_pick [2, 1, 0] rfl (X13_perfect_b26_s G l FU s3 a0 0 0)
theorem dec_X13_person : ((((((decode cX13_person 0 = .ok (.aload_n 0, 1) ∧ decode cX13_person 1 = .ok (.iconst 0, 1)) ∧ (decode cX13_person 2 = .ok (.putfield 49, 3) ∧ decode cX13_person 5 = .ok (.aload_n 0, 1))) ∧ ((decode cX13_person 6 = .ok (.iload_n 1, 1) ∧ decode cX13_person 7 = .ok (.invokevirtual 339, 3)) ∧ (decode cX13_person 10 = .ok (.ifCond .eq 12, 3) ∧ decode cX13_person 13 = .ok (.iload_n 2, 1)))) ∧ (((decode cX13_person 14 = .ok (.iconst 0, 1) ∧ decode cX13_person 15 = .ok (.iconst 2, 1)) ∧ (decode cX13_person 16 = .ok (.invokestatic 128, 3) ∧ decode cX13_person 19 = .ok (.ifCond .ne 9, 3))) ∧ ((decode cX13_person 22 = .ok (.aload_n 0, 1) ∧ decode cX13_person 23 = .ok (.iconst 1, 1)) ∧ (decode cX13_person 24 = .ok (.invokevirtual 55, 3) ∧ decode cX13_person 27 = .ok (.ireturn, 1))))) ∧ ((((decode cX13_person 28 = .ok (.aload_n 0, 1) ∧ decode cX13_person 29 = .ok (.invokevirtual 342, 3)) ∧ (decode cX13_person 32 = .ok (.iconst 0, 1) ∧ decode cX13_person 33 = .ok (.istore_n 3, 1))) ∧ ((decode cX13_person 34 = .ok (.iconst 0, 1) ∧ decode cX13_person 35 = .ok (.istore 4, 2)) ∧ (decode cX13_person 37 = .ok (.iload 4, 2) ∧ decode cX13_person 39 = .ok (.aload_n 0, 1)))) ∧ (((decode cX13_person 40 = .ok (.getfield 303, 3) ∧ decode cX13_person 43 = .ok (.getfield 241, 3)) ∧ (decode cX13_person 46 = .ok (.if_icmp .ge 34, 3) ∧ decode cX13_person 49 = .ok (.iload_n 3, 1))) ∧ ((decode cX13_person 50 = .ok (.aload_n 0, 1) ∧ decode cX13_person 51 = .ok (.getfield 303, 3)) ∧ (decode cX13_person 54 = .ok (.getfield 263, 3) ∧ (decode cX13_person 57 = .ok (.iload 4, 2) ∧ decode cX13_person 59 = .ok (.iaload, 1))))))) ∧ (((((decode cX13_person 60 = .ok (.iload_n 1, 1) ∧ decode cX13_person 61 = .ok (.if_icmp .ne 10, 3)) ∧ (decode cX13_person 64 = .ok (.iconst 1, 1) ∧ decode cX13_person 65 = .ok (.iload 4, 2))) ∧ ((decode cX13_person 67 = .ok (.ishl, 1) ∧ decode cX13_person 68 = .ok (.goto 4, 3)) ∧ (decode cX13_person 71 = .ok (.iconst 0, 1) ∧ decode cX13_person 72 = .ok (.ior, 1)))) ∧ (((decode cX13_person 73 = .ok (.istore_n 3, 1) ∧ decode cX13_person 74 = .ok (.iinc 4 1, 3)) ∧ (decode cX13_person 77 = .ok (.goto (-40), 3) ∧ decode cX13_person 80 = .ok (.aload_n 0, 1))) ∧ ((decode cX13_person 81 = .ok (.iload_n 2, 1) ∧ decode cX13_person 82 = .ok (.ifCond .ne 12, 3)) ∧ (decode cX13_person 85 = .ok (.aload_n 0, 1) ∧ decode cX13_person 86 = .ok (.getfield 17, 3))))) ∧ ((((decode cX13_person 89 = .ok (.iload_n 1, 1) ∧ decode cX13_person 90 = .ok (.iaload, 1)) ∧ (decode cX13_person 91 = .ok (.goto 24, 3) ∧ decode cX13_person 94 = .ok (.iload_n 2, 1))) ∧ ((decode cX13_person 95 = .ok (.iconst 1, 1) ∧ decode cX13_person 96 = .ok (.if_icmp .ne 7, 3)) ∧ (decode cX13_person 99 = .ok (.iload_n 3, 1) ∧ decode cX13_person 100 = .ok (.goto 15, 3)))) ∧ (((decode cX13_person 103 = .ok (.aload_n 0, 1) ∧ decode cX13_person 104 = .ok (.iload_n 1, 1)) ∧ (decode cX13_person 105 = .ok (.aload_n 0, 1) ∧ decode cX13_person 106 = .ok (.getfield 17, 3))) ∧ ((decode cX13_person 109 = .ok (.bipush 18, 2) ∧ decode cX13_person 111 = .ok (.iaload, 1)) ∧ (decode cX13_person 112 = .ok (.invokevirtual 345, 3) ∧ (decode cX13_person 115 = .ok (.invokevirtual 59, 3) ∧ decode cX13_person 118 = .ok (.ireturn, 1)))))))) := ⟨⟨⟨by decide +kernel, by decide +kernel⟩, ⟨by decide +kernel, by decide +kernel⟩⟩, ⟨⟨by decide +kernel, by decide +kernel⟩, ⟨by decide +kernel, by decide +kernel⟩⟩⟩
def X13_person_b22 (s : St) (x0 : Int) : Rs :=
  grd (isK s 23 x0) (bnd (X13_refused s x0 1) (fun r4 s5 => some (r4, s5)))
set_option maxRecDepth 100000 in
set_option maxHeartbeats 4000000 in
theorem X13_person_b22_s (G : Gx) (l : Launch) (s : St) (x0 : Int) : V G l mX13_person 22 [(0, (2, x0))] [] s (X13_person_b22 s x0) := by
  unfold X13_person_b22
  refine V_aload_n dec_X13_person.1.1.2.2.1.1 0 rfl ?_
  refine V_iconst dec_X13_person.1.1.2.2.1.2 rfl ?_
  refine V_callV0 (ci := 13) (a := x0) (As := [(0, 1)]) (st := []) rfl rfl (X13_refused_s G l s x0 1) cal_X13_refused rfl ml_X13_55 rfl rfl dec_X13_person.1.1.2.2.2.1 (k_tag (tag := 0) rfl fun r4 s5 => ?_)
  exact V_iret rfl dec_X13_person.1.1.2.2.2.2
def X13_person_b115 (s : St) (k0 k1 : Int) : Rs :=
  grd (isK s 23 k1) (bnd (X13_good s k1 k0) (fun r12 s13 => some (r12, s13)))
set_option maxRecDepth 100000 in
set_option maxHeartbeats 4000000 in
theorem X13_person_b115_s (G : Gx) (l : Launch) (s : St) (k0 k1 : Int) : V G l mX13_person 115 [] [(0, k0), (2, k1)] s (X13_person_b115 s k0 k1) := by
  unfold X13_person_b115
  refine V_callV0 (ci := 13) (a := k1) (As := [(0, k0)]) (st := []) rfl rfl (X13_good_s G l s k1 k0) cal_X13_good rfl ml_X13_59 rfl rfl dec_X13_person.2.2.2.2.2.2.1 (k_tag (tag := 0) rfl fun r12 s13 => ?_)
  exact V_iret rfl dec_X13_person.2.2.2.2.2.2.2
def X13_person_b72 (rk37 : St → Int → Int → Int → Int → Int → Rs) (s : St) (x0 x1 x2 x4 k0 k1 : Int) : Rs :=
  rk37 s x0 x1 x2 (or32 k1 k0) (w32 (x4 + 1))
set_option maxRecDepth 100000 in
set_option maxHeartbeats 4000000 in
theorem X13_person_b72_s (G : Gx) (l : Launch) (rk37 : St → Int → Int → Int → Int → Int → Rs) (hk37 : ∀ (s : St) (x0 x1 x2 x3 x4 : Int), V G l mX13_person 37 [(0, (2, x0)), (1, (0, x1)), (2, (0, x2)), (3, (0, x3)), (4, (0, x4))] [] s (rk37 s x0 x1 x2 x3 x4)) (s : St) (x0 x1 x2 x4 k0 k1 : Int) : V G l mX13_person 72 [(0, (2, x0)), (1, (0, x1)), (2, (0, x2)), (4, (0, x4))] [(0, k0), (0, k1)] s (X13_person_b72 rk37 s x0 x1 x2 x4 k0 k1) := by
  unfold X13_person_b72
  refine V_ior dec_X13_person.2.1.1.2.2.2 ?_
  refine V_istore_n (lv' := [(3, (0, (or32 k1 k0))), (0, (2, x0)), (1, (0, x1)), (2, (0, x2)), (4, (0, x4))]) dec_X13_person.2.1.2.1.1.1 (by decide) rfl ?_
  refine V_iinc (lv' := [(4, (0, (w32 (x4 + 1)))), (3, (0, (or32 k1 k0))), (0, (2, x0)), (1, (0, x1)), (2, (0, x2))]) dec_X13_person.2.1.2.1.1.2 4 rfl (by decide) rfl ?_
  refine V_goto (tgt := 37) dec_X13_person.2.1.2.1.2.1 (by decide) ?_
  exact V_pick [2, 3, 4, 1, 0] rfl (hk37 s x0 x1 x2 (or32 k1 k0) (w32 (x4 + 1)))
def X13_person_b37_body (rk37 : St → Int → Int → Int → Int → Int → Rs) (s : St) (x0 x1 x2 x3 x4 : Int) : Rs :=
  grd (isK s 23 x0) (grd (isK s 22 (gR s x0 3)) (if (gI s (gR s x0 3) 3) ≤ x4 then (if ¬ x2 = 0 then (if ¬ x2 = (1 : Int) then (grd (isK s 23 x0) (grd (isK s 1 (gR s x0 15) ∧ 0 ≤ (18 : Int) ∧ (18 : Int) < ln s (gR s x0 15)) (grd (isK s 23 x0) (bnd (X13_heardOf s x0 x1 (gI s (gR s x0 15) (18 : Int).toNat)) (fun r10 s11 => X13_person_b115 s11 r10 x0))))) else (X13_person_b115 s x3 x0)) else (grd (isK s 23 x0) (grd (isK s 1 (gR s x0 15) ∧ 0 ≤ x1 ∧ x1 < ln s (gR s x0 15)) (X13_person_b115 s (gI s (gR s x0 15) x1.toNat) x0)))) else (grd (isK s 23 x0) (grd (isK s 22 (gR s x0 3)) (grd (isK s 1 (gR s (gR s x0 3) 11) ∧ 0 ≤ x4 ∧ x4 < ln s (gR s (gR s x0 3) 11)) (if ¬ (gI s (gR s (gR s x0 3) 11) x4.toNat) = x1 then (X13_person_b72 rk37 s x0 x1 x2 x4 0 x3) else (X13_person_b72 rk37 s x0 x1 x2 x4 (shl32 1 x4) x3)))))))
def X13_person_b37 (n : Nat) (s : St) (x0 x1 x2 x3 x4 : Int) : Rs := iter (fun (rec : St × Int × Int × Int × Int × Int → Rs) (a : St × Int × Int × Int × Int × Int) => X13_person_b37_body (fun (s : St) (x0 x1 x2 x3 x4 : Int) => rec (s, x0, x1, x2, x3, x4)) a.1 a.2.1 a.2.2.1 a.2.2.2.1 a.2.2.2.2.1 a.2.2.2.2.2) n (s, x0, x1, x2, x3, x4)
theorem X13_person_b37_0 (s : St) (x0 x1 x2 x3 x4 : Int) : X13_person_b37 0 s x0 x1 x2 x3 x4 = none := rfl
theorem X13_person_b37_1 (n : Nat) (s : St) (x0 x1 x2 x3 x4 : Int) : X13_person_b37 (n + 1) s x0 x1 x2 x3 x4 = X13_person_b37_body (X13_person_b37 n) s x0 x1 x2 x3 x4 := rfl
set_option maxRecDepth 100000 in
set_option maxHeartbeats 4000000 in
theorem X13_person_b37_body_s (G : Gx) (l : Launch) (rk37 : St → Int → Int → Int → Int → Int → Rs) (hk37 : ∀ (s : St) (x0 x1 x2 x3 x4 : Int), V G l mX13_person 37 [(0, (2, x0)), (1, (0, x1)), (2, (0, x2)), (3, (0, x3)), (4, (0, x4))] [] s (rk37 s x0 x1 x2 x3 x4)) (s : St) (x0 x1 x2 x3 x4 : Int) : V G l mX13_person 37 [(0, (2, x0)), (1, (0, x1)), (2, (0, x2)), (3, (0, x3)), (4, (0, x4))] [] s (X13_person_b37_body rk37 s x0 x1 x2 x3 x4) := by
  unfold X13_person_b37_body
  refine V_iload dec_X13_person.1.2.1.2.2.1 4 rfl ?_
  refine V_aload_n dec_X13_person.1.2.1.2.2.2 0 rfl ?_
  refine V_getR 13 3 nf_13_3 ft_13_3 fl_X13_303 dec_X13_person.1.2.2.1.1.1 ?_
  refine V_getIN RX13 12 3 nf_12_3 ft_12_3 fl_X13_241 dec_X13_person.1.2.2.1.1.2 ?_
  refine V_icmp_ge (tgt := 80) dec_X13_person.1.2.2.1.2.1 (by decide) ?_ ?_
  · refine V_aload_n dec_X13_person.2.1.2.1.2.2 0 rfl ?_
    refine V_iload_n dec_X13_person.2.1.2.2.1.1 2 rfl ?_
    refine V_if_ne (tgt := 94) dec_X13_person.2.1.2.2.1.2 (by decide) ?_ ?_
    · refine V_iload_n dec_X13_person.2.2.1.1.2.2 2 rfl ?_
      refine V_iconst dec_X13_person.2.2.1.2.1.1 rfl ?_
      refine V_icmp_ne (tgt := 103) dec_X13_person.2.2.1.2.1.2 (by decide) ?_ ?_
      · refine V_aload_n dec_X13_person.2.2.2.1.1.1 0 rfl ?_
        refine V_iload_n dec_X13_person.2.2.2.1.1.2 1 rfl ?_
        refine V_aload_n dec_X13_person.2.2.2.1.2.1 0 rfl ?_
        refine V_getR 13 15 nf_13_15 ft_13_15 fl_X13_17 dec_X13_person.2.2.2.1.2.2 ?_
        refine V_bipush dec_X13_person.2.2.2.2.1.1 rfl ?_
        refine V_iald dec_X13_person.2.2.2.2.1.2 ?_
        refine V_callV0 (ci := 13) (a := x0) (As := [(0, x1), (0, (gI s (gR s x0 15) (18 : Int).toNat))]) (st := [(2, x0)]) rfl rfl (X13_heardOf_s G l s x0 x1 (gI s (gR s x0 15) (18 : Int).toNat)) cal_X13_heardOf rfl ml_X13_345 rfl rfl dec_X13_person.2.2.2.2.2.1 (k_tag (tag := 0) rfl fun r10 s11 => ?_)
        exact V_pick [] rfl (X13_person_b115_s G l s11 r10 x0)
      · refine V_iload_n dec_X13_person.2.2.1.2.2.1 3 rfl ?_
        refine V_goto (tgt := 115) dec_X13_person.2.2.1.2.2.2 (by decide) ?_
        exact V_pick [] rfl (X13_person_b115_s G l s x3 x0)
    · refine V_aload_n dec_X13_person.2.1.2.2.2.1 0 rfl ?_
      refine V_getR 13 15 nf_13_15 ft_13_15 fl_X13_17 dec_X13_person.2.1.2.2.2.2 ?_
      refine V_iload_n dec_X13_person.2.2.1.1.1.1 1 rfl ?_
      refine V_iald dec_X13_person.2.2.1.1.1.2 ?_
      refine V_goto (tgt := 115) dec_X13_person.2.2.1.1.2.1 (by decide) ?_
      exact V_pick [] rfl (X13_person_b115_s G l s (gI s (gR s x0 15) x1.toNat) x0)
  · refine V_iload_n dec_X13_person.1.2.2.1.2.2 3 rfl ?_
    refine V_aload_n dec_X13_person.1.2.2.2.1.1 0 rfl ?_
    refine V_getR 13 3 nf_13_3 ft_13_3 fl_X13_303 dec_X13_person.1.2.2.2.1.2 ?_
    refine V_getRN RX13 12 11 nf_12_11 ft_12_11 fl_X13_263 dec_X13_person.1.2.2.2.2.1 ?_
    refine V_iload dec_X13_person.1.2.2.2.2.2.1 4 rfl ?_
    refine V_iald dec_X13_person.1.2.2.2.2.2.2 ?_
    refine V_iload_n dec_X13_person.2.1.1.1.1.1 1 rfl ?_
    refine V_icmp_ne (tgt := 71) dec_X13_person.2.1.1.1.1.2 (by decide) ?_ ?_
    · refine V_iconst dec_X13_person.2.1.1.2.2.1 rfl ?_
      exact V_pick [0, 1, 2, 4] rfl (X13_person_b72_s G l rk37 hk37 s x0 x1 x2 x4 0 x3)
    · refine V_iconst dec_X13_person.2.1.1.1.2.1 rfl ?_
      refine V_iload dec_X13_person.2.1.1.1.2.2 4 rfl ?_
      refine V_ishl dec_X13_person.2.1.1.2.1.1 ?_
      refine V_goto (tgt := 72) dec_X13_person.2.1.1.2.1.2 (by decide) ?_
      exact V_pick [0, 1, 2, 4] rfl (X13_person_b72_s G l rk37 hk37 s x0 x1 x2 x4 (shl32 1 x4) x3)
theorem X13_person_b37_s (G : Gx) (l : Launch) (n : Nat) (s : St) (x0 x1 x2 x3 x4 : Int) : V G l mX13_person 37 [(0, (2, x0)), (1, (0, x1)), (2, (0, x2)), (3, (0, x3)), (4, (0, x4))] [] s (X13_person_b37 n s x0 x1 x2 x3 x4) :=
  V_iter (LV := fun a : St × Int × Int × Int × Int × Int => [(0, (2, a.2.1)), (1, (0, a.2.2.1)), (2, (0, a.2.2.2.1)), (3, (0, a.2.2.2.2.1)), (4, (0, a.2.2.2.2.2))]) (ST := fun a : St × Int × Int × Int × Int × Int => []) (SS := fun a : St × Int × Int × Int × Int × Int => a.1) (fun rec hrec a => X13_person_b37_body_s G l (fun (s : St) (x0 x1 x2 x3 x4 : Int) => rec (s, x0, x1, x2, x3, x4)) (fun (s : St) (x0 x1 x2 x3 x4 : Int) => hrec (s, x0, x1, x2, x3, x4)) a.1 a.2.1 a.2.2.1 a.2.2.2.1 a.2.2.2.2.1 a.2.2.2.2.2) n (s, x0, x1, x2, x3, x4)
def X13_person (s : St) (a0 a1 a2 : Int) : Rs :=
  grd (isK s 23 a0) (lets (pI s a0 0 0) (fun s1 => grd (isK s1 23 a0) (bnd (X13_isPerson s1 a0 a1) (fun r2 s3 => if r2 = 0 then (X13_person_b22 s3 a0) else (bnd (X13_in s3 a2 0 2) (fun r6 s7 => if ¬ r6 = 0 then (grd (isK s7 23 a0) (bnd (X13_works s7 a0) (fun r8 s9 => X13_person_b37 FU s9 a0 a1 a2 0 0))) else (X13_person_b22 s7 a0)))))))
set_option maxRecDepth 100000 in
set_option maxHeartbeats 4000000 in
theorem X13_person_s (G : Gx) (l : Launch) (s : St) (a0 a1 a2 : Int) : Snd G l mX13_person [(2, a0), (0, a1), (0, a2)] s (X13_person s a0 a1 a2) := by
  refine Snd.of (by decide +kernel) rfl ?_
  show V G l mX13_person 0 [(0, (2, a0)), (1, (0, a1)), (2, (0, a2))] [] s _
  unfold X13_person
  refine V_aload_n dec_X13_person.1.1.1.1.1.1 0 rfl ?_
  refine V_iconst dec_X13_person.1.1.1.1.1.2 rfl ?_
  refine V_putI (host := "") 13 0 nf_13_0 ty_13_0 (Or.inl ⟨fl_X13_49, Or.inl rfl⟩) dec_X13_person.1.1.1.1.2.1 ?_
  refine V_lets fun s1 => ?_
  refine V_aload_n dec_X13_person.1.1.1.1.2.2 0 rfl ?_
  refine V_iload_n dec_X13_person.1.1.1.2.1.1 1 rfl ?_
  refine V_callV0 (ci := 13) (a := a0) (As := [(0, a1)]) (st := []) rfl rfl (X13_isPerson_s G l s1 a0 a1) cal_X13_isPerson rfl ml_X13_339 rfl rfl dec_X13_person.1.1.1.2.1.2 (k_tag (tag := 0) rfl fun r2 s3 => ?_)
  refine V_if_eq (tgt := 22) dec_X13_person.1.1.1.2.2.1 (by decide) ?_ ?_
  · exact V_pick [0] rfl (X13_person_b22_s G l s3 a0)
  · refine V_iload_n dec_X13_person.1.1.1.2.2.2 2 rfl ?_
    refine V_iconst dec_X13_person.1.1.2.1.1.1 rfl ?_
    refine V_iconst dec_X13_person.1.1.2.1.1.2 rfl ?_
    refine V_callS0 (As := [(0, a2), (0, 0), (0, 2)]) (st := []) (host := "") rfl (X13_in_s G l s3 a2 0 2) cal_X13_in rfl (Or.inl ml_X13_128) rfl rfl dec_X13_person.1.1.2.1.2.1 (k_tag (tag := 0) rfl fun r6 s7 => ?_)
    refine V_if_ne (tgt := 28) dec_X13_person.1.1.2.1.2.2 (by decide) ?_ ?_
    · refine V_aload_n dec_X13_person.1.2.1.1.1.1 0 rfl ?_
      refine V_callV0 (ci := 13) (a := a0) (As := []) (st := []) rfl rfl (X13_works_s G l s7 a0) cal_X13_works rfl ml_X13_342 rfl rfl dec_X13_person.1.2.1.1.1.2 (k_void rfl fun r8 s9 => ?_)
      refine V_iconst dec_X13_person.1.2.1.1.2.1 rfl ?_
      refine V_istore_n (lv' := [(3, (0, 0)), (0, (2, a0)), (1, (0, a1)), (2, (0, a2))]) dec_X13_person.1.2.1.1.2.2 (by decide) rfl ?_
      refine V_iconst dec_X13_person.1.2.1.2.1.1 rfl ?_
      refine V_istore (lv' := [(4, (0, 0)), (3, (0, 0)), (0, (2, a0)), (1, (0, a1)), (2, (0, a2))]) dec_X13_person.1.2.1.2.1.2 (by decide) rfl ?_
      exact V_pick [2, 3, 4, 1, 0] rfl (X13_person_b37_s G l FU s9 a0 a1 a2 0 0)
    · exact V_pick [0] rfl (X13_person_b22_s G l s7 a0)
theorem dec_X13_readFresh : ((((decode cX13_readFresh 0 = .ok (.aload_n 0, 1) ∧ decode cX13_readFresh 1 = .ok (.invokevirtual 164, 3)) ∧ (decode cX13_readFresh 4 = .ok (.ifCond .ne 8, 3) ∧ (decode cX13_readFresh 7 = .ok (.aload_n 0, 1) ∧ decode cX13_readFresh 8 = .ok (.iconst 1, 1)))) ∧ ((decode cX13_readFresh 9 = .ok (.invokevirtual 124, 3) ∧ (decode cX13_readFresh 12 = .ok (.aload_n 0, 1) ∧ decode cX13_readFresh 13 = .ok (.getfield 155, 3))) ∧ (decode cX13_readFresh 16 = .ok (.aload_n 0, 1) ∧ (decode cX13_readFresh 17 = .ok (.getfield 97, 3) ∧ decode cX13_readFresh 20 = .ok (.invokevirtual 168, 3))))) ∧ (((decode cX13_readFresh 23 = .ok (.iconst (-1), 1) ∧ (decode cX13_readFresh 24 = .ok (.if_icmp .eq 8, 3) ∧ decode cX13_readFresh 27 = .ok (.aload_n 0, 1))) ∧ (decode cX13_readFresh 28 = .ok (.iconst 3, 1) ∧ (decode cX13_readFresh 29 = .ok (.invokevirtual 124, 3) ∧ decode cX13_readFresh 32 = .ok (.aload_n 0, 1)))) ∧ ((decode cX13_readFresh 33 = .ok (.getfield 97, 3) ∧ (decode cX13_readFresh 36 = .ok (.lstore_n 1, 1) ∧ decode cX13_readFresh 37 = .ok (.aload_n 0, 1))) ∧ (decode cX13_readFresh 38 = .ok (.invokevirtual 117, 3) ∧ (decode cX13_readFresh 41 = .ok (.lload_n 1, 1) ∧ decode cX13_readFresh 42 = .ok (.lreturn, 1)))))) := ⟨by decide +kernel, by decide +kernel⟩
def X13_readFresh_b32 (s : St) (x0 : Int) : Rs :=
  grd (isK s 23 x0) (grd (isK s 23 x0) (bnd (X13_goesOn s x0) (fun r5 s6 => some ((gI s x0 14), s6))))
set_option maxRecDepth 100000 in
set_option maxHeartbeats 4000000 in
theorem X13_readFresh_b32_s (G : Gx) (l : Launch) (s : St) (x0 : Int) : V G l mX13_readFresh 32 [(0, (2, x0))] [] s (X13_readFresh_b32 s x0) := by
  unfold X13_readFresh_b32
  refine V_aload_n dec_X13_readFresh.2.1.2.2.2 0 rfl ?_
  refine V_getL 13 14 nf_13_14 ft_13_14 fl_X13_97 dec_X13_readFresh.2.2.1.1 ?_
  refine V_lstore_n (lv' := [(1, (1, (gI s x0 14))), (0, (2, x0))]) dec_X13_readFresh.2.2.1.2.1 (by decide) rfl ?_
  refine V_aload_n dec_X13_readFresh.2.2.1.2.2 1 rfl ?_
  refine V_callV0 (ci := 13) (a := x0) (As := []) (st := []) rfl rfl (X13_goesOn_s G l s x0) cal_X13_goesOn rfl ml_X13_117 rfl rfl dec_X13_readFresh.2.2.2.1 (k_void rfl fun r5 s6 => ?_)
  refine V_lload_n dec_X13_readFresh.2.2.2.2.1 0 rfl ?_
  exact V_lret rfl dec_X13_readFresh.2.2.2.2.2
def X13_readFresh_b12 (s : St) (x0 : Int) : Rs :=
  grd (isK s 23 x0) (grd (isK s 23 x0) (grd (isK s 22 (gR s x0 4)) (bnd (X12_find s (gR s x0 4) (gI s x0 14)) (fun r3 s4 => if r3 = ((-1) : Int) then (X13_readFresh_b32 s4 x0) else (grd (isK s4 23 x0) (bnd (X13_flaw s4 x0 3) (fun r7 s8 => X13_readFresh_b32 s8 x0)))))))
set_option maxRecDepth 100000 in
set_option maxHeartbeats 4000000 in
theorem X13_readFresh_b12_s (G : Gx) (l : Launch) (s : St) (x0 : Int) : V G l mX13_readFresh 12 [(0, (2, x0))] [] s (X13_readFresh_b12 s x0) := by
  unfold X13_readFresh_b12
  refine V_aload_n dec_X13_readFresh.1.2.1.2.1 0 rfl ?_
  refine V_getR 13 4 nf_13_4 ft_13_4 fl_X13_155 dec_X13_readFresh.1.2.1.2.2 ?_
  refine V_aload_n dec_X13_readFresh.1.2.2.1 0 rfl ?_
  refine V_getL 13 14 nf_13_14 ft_13_14 fl_X13_97 dec_X13_readFresh.1.2.2.2.1 ?_
  refine V_callV0 (ci := 12) (a := (gR s x0 4)) (As := [(1, (gI s x0 14))]) (st := []) rfl rfl (X12_find_s G l s (gR s x0 4) (gI s x0 14)) cal_X12_find rfl ml_X13_168 rfl rfl dec_X13_readFresh.1.2.2.2.2 (k_tag (tag := 0) rfl fun r3 s4 => ?_)
  refine V_iconst dec_X13_readFresh.2.1.1.1 rfl ?_
  refine V_icmp_eq (tgt := 32) dec_X13_readFresh.2.1.1.2.1 (by decide) ?_ ?_
  · exact V_pick [0] rfl (X13_readFresh_b32_s G l s4 x0)
  · refine V_aload_n dec_X13_readFresh.2.1.1.2.2 0 rfl ?_
    refine V_iconst dec_X13_readFresh.2.1.2.1 rfl ?_
    refine V_callV0 (ci := 13) (a := x0) (As := [(0, 3)]) (st := []) rfl rfl (X13_flaw_s G l s4 x0 3) cal_X13_flaw rfl ml_X13_124 rfl rfl dec_X13_readFresh.2.1.2.2.1 (k_void rfl fun r7 s8 => ?_)
    exact V_pick [0] rfl (X13_readFresh_b32_s G l s8 x0)
def X13_readFresh (s : St) (a0 : Int) : Rs :=
  grd (isK s 23 a0) (bnd (X13_isName s a0) (fun r1 s2 => if ¬ r1 = 0 then (X13_readFresh_b12 s2 a0) else (grd (isK s2 23 a0) (bnd (X13_flaw s2 a0 1) (fun r9 s10 => X13_readFresh_b12 s10 a0)))))
set_option maxRecDepth 100000 in
set_option maxHeartbeats 4000000 in
theorem X13_readFresh_s (G : Gx) (l : Launch) (s : St) (a0 : Int) : Snd G l mX13_readFresh [(2, a0)] s (X13_readFresh s a0) := by
  refine Snd.of (by decide +kernel) rfl ?_
  show V G l mX13_readFresh 0 [(0, (2, a0))] [] s _
  unfold X13_readFresh
  refine V_aload_n dec_X13_readFresh.1.1.1.1 0 rfl ?_
  refine V_callV0 (ci := 13) (a := a0) (As := []) (st := []) rfl rfl (X13_isName_s G l s a0) cal_X13_isName rfl ml_X13_164 rfl rfl dec_X13_readFresh.1.1.1.2 (k_tag (tag := 0) rfl fun r1 s2 => ?_)
  refine V_if_ne (tgt := 12) dec_X13_readFresh.1.1.2.1 (by decide) ?_ ?_
  · exact V_pick [0] rfl (X13_readFresh_b12_s G l s2 a0)
  · refine V_aload_n dec_X13_readFresh.1.1.2.2.1 0 rfl ?_
    refine V_iconst dec_X13_readFresh.1.1.2.2.2 rfl ?_
    refine V_callV0 (ci := 13) (a := a0) (As := [(0, 1)]) (st := []) rfl rfl (X13_flaw_s G l s2 a0 1) cal_X13_flaw rfl ml_X13_124 rfl rfl dec_X13_readFresh.1.2.1.1 (k_void rfl fun r9 s10 => ?_)
    exact V_pick [0] rfl (X13_readFresh_b12_s G l s10 a0)
theorem dec_X13_readKnown : (((decode cX13_readKnown 0 = .ok (.aload_n 0, 1) ∧ decode cX13_readKnown 1 = .ok (.iload_n 1, 1)) ∧ (decode cX13_readKnown 2 = .ok (.invokevirtual 184, 3) ∧ decode cX13_readKnown 5 = .ok (.istore_n 2, 1))) ∧ ((decode cX13_readKnown 6 = .ok (.aload_n 0, 1) ∧ decode cX13_readKnown 7 = .ok (.invokevirtual 117, 3)) ∧ (decode cX13_readKnown 10 = .ok (.iload_n 2, 1) ∧ decode cX13_readKnown 11 = .ok (.ireturn, 1)))) := by decide +kernel
def X13_readKnown (s : St) (a0 a1 : Int) : Rs :=
  grd (isK s 23 a0) (bnd (X13_knownOne s a0 a1) (fun r1 s2 => grd (isK s2 23 a0) (bnd (X13_goesOn s2 a0) (fun r3 s4 => some (r1, s4)))))
set_option maxRecDepth 100000 in
set_option maxHeartbeats 4000000 in
theorem X13_readKnown_s (G : Gx) (l : Launch) (s : St) (a0 a1 : Int) : Snd G l mX13_readKnown [(2, a0), (0, a1)] s (X13_readKnown s a0 a1) := by
  refine Snd.of (by decide +kernel) rfl ?_
  show V G l mX13_readKnown 0 [(0, (2, a0)), (1, (0, a1))] [] s _
  unfold X13_readKnown
  refine V_aload_n dec_X13_readKnown.1.1.1 0 rfl ?_
  refine V_iload_n dec_X13_readKnown.1.1.2 1 rfl ?_
  refine V_callV0 (ci := 13) (a := a0) (As := [(0, a1)]) (st := []) rfl rfl (X13_knownOne_s G l s a0 a1) cal_X13_knownOne rfl ml_X13_184 rfl rfl dec_X13_readKnown.1.2.1 (k_tag (tag := 0) rfl fun r1 s2 => ?_)
  refine V_istore_n (lv' := [(2, (0, r1)), (0, (2, a0)), (1, (0, a1))]) dec_X13_readKnown.1.2.2 (by decide) rfl ?_
  refine V_aload_n dec_X13_readKnown.2.1.1 1 rfl ?_
  refine V_callV0 (ci := 13) (a := a0) (As := []) (st := []) rfl rfl (X13_goesOn_s G l s2 a0) cal_X13_goesOn rfl ml_X13_117 rfl rfl dec_X13_readKnown.2.1.2 (k_void rfl fun r3 s4 => ?_)
  refine V_iload_n dec_X13_readKnown.2.2.1 0 rfl ?_
  exact V_iret rfl dec_X13_readKnown.2.2.2
theorem dec_X13_wholeAt : ((((decode cX13_wholeAt 0 = .ok (.aload_n 0, 1) ∧ (decode cX13_wholeAt 1 = .ok (.getfield 81, 3) ∧ decode cX13_wholeAt 4 = .ok (.iconst 3, 1))) ∧ (decode cX13_wholeAt 5 = .ok (.if_icmp .eq 11, 3) ∧ (decode cX13_wholeAt 8 = .ok (.aload_n 0, 1) ∧ decode cX13_wholeAt 9 = .ok (.iconst 1, 1)))) ∧ ((decode cX13_wholeAt 10 = .ok (.invokevirtual 124, 3) ∧ (decode cX13_wholeAt 13 = .ok (.goto 20, 3) ∧ decode cX13_wholeAt 16 = .ok (.aload_n 0, 1))) ∧ ((decode cX13_wholeAt 17 = .ok (.getfield 104, 3) ∧ decode cX13_wholeAt 20 = .ok (.iload_n 1, 1)) ∧ (decode cX13_wholeAt 21 = .ok (.iload_n 2, 1) ∧ decode cX13_wholeAt 22 = .ok (.invokestatic 128, 3))))) ∧ (((decode cX13_wholeAt 25 = .ok (.ifCond .ne 8, 3) ∧ (decode cX13_wholeAt 28 = .ok (.aload_n 0, 1) ∧ decode cX13_wholeAt 29 = .ok (.iconst 4, 1))) ∧ (decode cX13_wholeAt 30 = .ok (.invokevirtual 124, 3) ∧ (decode cX13_wholeAt 33 = .ok (.aload_n 0, 1) ∧ decode cX13_wholeAt 34 = .ok (.getfield 81, 3)))) ∧ ((decode cX13_wholeAt 37 = .ok (.iconst 5, 1) ∧ (decode cX13_wholeAt 38 = .ok (.if_icmp .ne 7, 3) ∧ decode cX13_wholeAt 41 = .ok (.iload_n 1, 1))) ∧ ((decode cX13_wholeAt 42 = .ok (.goto 7, 3) ∧ decode cX13_wholeAt 45 = .ok (.aload_n 0, 1)) ∧ (decode cX13_wholeAt 46 = .ok (.getfield 104, 3) ∧ decode cX13_wholeAt 49 = .ok (.ireturn, 1)))))) := ⟨⟨by decide +kernel, by decide +kernel⟩, ⟨by decide +kernel, by decide +kernel⟩⟩
def X13_wholeAt_b49 (s : St) (k0 : Int) : Rs :=
  some (k0, s)
set_option maxRecDepth 100000 in
set_option maxHeartbeats 4000000 in
theorem X13_wholeAt_b49_s (G : Gx) (l : Launch) (s : St) (k0 : Int) : V G l mX13_wholeAt 49 [] [(0, k0)] s (X13_wholeAt_b49 s k0) := by
  unfold X13_wholeAt_b49
  exact V_iret rfl dec_X13_wholeAt.2.2.2.2.2
def X13_wholeAt_b33 (s : St) (x0 x1 : Int) : Rs :=
  grd (isK s 23 x0) (if ¬ (gI s x0 9) = (5 : Int) then (grd (isK s 23 x0) (X13_wholeAt_b49 s (gI s x0 11))) else (X13_wholeAt_b49 s x1))
set_option maxRecDepth 100000 in
set_option maxHeartbeats 4000000 in
theorem X13_wholeAt_b33_s (G : Gx) (l : Launch) (s : St) (x0 x1 : Int) : V G l mX13_wholeAt 33 [(0, (2, x0)), (1, (0, x1))] [] s (X13_wholeAt_b33 s x0 x1) := by
  unfold X13_wholeAt_b33
  refine V_aload_n dec_X13_wholeAt.2.1.2.2.1 0 rfl ?_
  refine V_getI 13 9 nf_13_9 ft_13_9 fl_X13_81 dec_X13_wholeAt.2.1.2.2.2 ?_
  refine V_iconst dec_X13_wholeAt.2.2.1.1 rfl ?_
  refine V_icmp_ne (tgt := 45) dec_X13_wholeAt.2.2.1.2.1 (by decide) ?_ ?_
  · refine V_aload_n dec_X13_wholeAt.2.2.2.1.2 0 rfl ?_
    refine V_getI 13 11 nf_13_11 ft_13_11 fl_X13_104 dec_X13_wholeAt.2.2.2.2.1 ?_
    exact V_pick [] rfl (X13_wholeAt_b49_s G l s (gI s x0 11))
  · refine V_iload_n dec_X13_wholeAt.2.2.1.2.2 1 rfl ?_
    refine V_goto (tgt := 49) dec_X13_wholeAt.2.2.2.1.1 (by decide) ?_
    exact V_pick [] rfl (X13_wholeAt_b49_s G l s x1)
def X13_wholeAt (s : St) (a0 a1 a2 : Int) : Rs :=
  grd (isK s 23 a0) (if (gI s a0 9) = (3 : Int) then (grd (isK s 23 a0) (bnd (X13_in s (gI s a0 11) a1 a2) (fun r1 s2 => if ¬ r1 = 0 then (X13_wholeAt_b33 s2 a0 a1) else (grd (isK s2 23 a0) (bnd (X13_flaw s2 a0 4) (fun r3 s4 => X13_wholeAt_b33 s4 a0 a1)))))) else (grd (isK s 23 a0) (bnd (X13_flaw s a0 1) (fun r5 s6 => X13_wholeAt_b33 s6 a0 a1))))
set_option maxRecDepth 100000 in
set_option maxHeartbeats 4000000 in
theorem X13_wholeAt_s (G : Gx) (l : Launch) (s : St) (a0 a1 a2 : Int) : Snd G l mX13_wholeAt [(2, a0), (0, a1), (0, a2)] s (X13_wholeAt s a0 a1 a2) := by
  refine Snd.of (by decide +kernel) rfl ?_
  show V G l mX13_wholeAt 0 [(0, (2, a0)), (1, (0, a1)), (2, (0, a2))] [] s _
  unfold X13_wholeAt
  refine V_aload_n dec_X13_wholeAt.1.1.1.1 0 rfl ?_
  refine V_getI 13 9 nf_13_9 ft_13_9 fl_X13_81 dec_X13_wholeAt.1.1.1.2.1 ?_
  refine V_iconst dec_X13_wholeAt.1.1.1.2.2 rfl ?_
  refine V_icmp_eq (tgt := 16) dec_X13_wholeAt.1.1.2.1 (by decide) ?_ ?_
  · refine V_aload_n dec_X13_wholeAt.1.2.1.2.2 0 rfl ?_
    refine V_getI 13 11 nf_13_11 ft_13_11 fl_X13_104 dec_X13_wholeAt.1.2.2.1.1 ?_
    refine V_iload_n dec_X13_wholeAt.1.2.2.1.2 1 rfl ?_
    refine V_iload_n dec_X13_wholeAt.1.2.2.2.1 2 rfl ?_
    refine V_callS0 (As := [(0, (gI s a0 11)), (0, a1), (0, a2)]) (st := []) (host := "") rfl (X13_in_s G l s (gI s a0 11) a1 a2) cal_X13_in rfl (Or.inl ml_X13_128) rfl rfl dec_X13_wholeAt.1.2.2.2.2 (k_tag (tag := 0) rfl fun r1 s2 => ?_)
    refine V_if_ne (tgt := 33) dec_X13_wholeAt.2.1.1.1 (by decide) ?_ ?_
    · exact V_pick [0, 1] rfl (X13_wholeAt_b33_s G l s2 a0 a1)
    · refine V_aload_n dec_X13_wholeAt.2.1.1.2.1 0 rfl ?_
      refine V_iconst dec_X13_wholeAt.2.1.1.2.2 rfl ?_
      refine V_callV0 (ci := 13) (a := a0) (As := [(0, 4)]) (st := []) rfl rfl (X13_flaw_s G l s2 a0 4) cal_X13_flaw rfl ml_X13_124 rfl rfl dec_X13_wholeAt.2.1.2.1 (k_void rfl fun r3 s4 => ?_)
      exact V_pick [0, 1] rfl (X13_wholeAt_b33_s G l s4 a0 a1)
  · refine V_aload_n dec_X13_wholeAt.1.1.2.2.1 0 rfl ?_
    refine V_iconst dec_X13_wholeAt.1.1.2.2.2 rfl ?_
    refine V_callV0 (ci := 13) (a := a0) (As := [(0, 1)]) (st := []) rfl rfl (X13_flaw_s G l s a0 1) cal_X13_flaw rfl ml_X13_124 rfl rfl dec_X13_wholeAt.1.2.1.1 (k_void rfl fun r5 s6 => ?_)
    refine V_goto (tgt := 33) dec_X13_wholeAt.1.2.1.2.1 (by decide) ?_
    exact V_pick [0, 1] rfl (X13_wholeAt_b33_s G l s6 a0 a1)
theorem dec_X13_readWhole : (((decode cX13_readWhole 0 = .ok (.aload_n 0, 1) ∧ decode cX13_readWhole 1 = .ok (.iload_n 1, 1)) ∧ (decode cX13_readWhole 2 = .ok (.iload_n 2, 1) ∧ decode cX13_readWhole 3 = .ok (.invokevirtual 132, 3))) ∧ ((decode cX13_readWhole 6 = .ok (.istore_n 3, 1) ∧ decode cX13_readWhole 7 = .ok (.aload_n 0, 1)) ∧ (decode cX13_readWhole 8 = .ok (.invokevirtual 117, 3) ∧ (decode cX13_readWhole 11 = .ok (.iload_n 3, 1) ∧ decode cX13_readWhole 12 = .ok (.ireturn, 1))))) := by decide +kernel
def X13_readWhole (s : St) (a0 a1 a2 : Int) : Rs :=
  grd (isK s 23 a0) (bnd (X13_wholeAt s a0 a1 a2) (fun r1 s2 => grd (isK s2 23 a0) (bnd (X13_goesOn s2 a0) (fun r3 s4 => some (r1, s4)))))
set_option maxRecDepth 100000 in
set_option maxHeartbeats 4000000 in
theorem X13_readWhole_s (G : Gx) (l : Launch) (s : St) (a0 a1 a2 : Int) : Snd G l mX13_readWhole [(2, a0), (0, a1), (0, a2)] s (X13_readWhole s a0 a1 a2) := by
  refine Snd.of (by decide +kernel) rfl ?_
  show V G l mX13_readWhole 0 [(0, (2, a0)), (1, (0, a1)), (2, (0, a2))] [] s _
  unfold X13_readWhole
  refine V_aload_n dec_X13_readWhole.1.1.1 0 rfl ?_
  refine V_iload_n dec_X13_readWhole.1.1.2 1 rfl ?_
  refine V_iload_n dec_X13_readWhole.1.2.1 2 rfl ?_
  refine V_callV0 (ci := 13) (a := a0) (As := [(0, a1), (0, a2)]) (st := []) rfl rfl (X13_wholeAt_s G l s a0 a1 a2) cal_X13_wholeAt rfl ml_X13_132 rfl rfl dec_X13_readWhole.1.2.2 (k_tag (tag := 0) rfl fun r1 s2 => ?_)
  refine V_istore_n (lv' := [(3, (0, r1)), (0, (2, a0)), (1, (0, a1)), (2, (0, a2))]) dec_X13_readWhole.2.1.1 (by decide) rfl ?_
  refine V_aload_n dec_X13_readWhole.2.1.2 1 rfl ?_
  refine V_callV0 (ci := 13) (a := a0) (As := []) (st := []) rfl rfl (X13_goesOn_s G l s2 a0) cal_X13_goesOn rfl ml_X13_117 rfl rfl dec_X13_readWhole.2.2.1 (k_void rfl fun r3 s4 => ?_)
  refine V_iload_n dec_X13_readWhole.2.2.2.1 0 rfl ?_
  exact V_iret rfl dec_X13_readWhole.2.2.2.2
theorem dec_X13_readPart : (((decode cX13_readPart 0 = .ok (.aload_n 0, 1) ∧ decode cX13_readPart 1 = .ok (.aload_n 1, 1)) ∧ (decode cX13_readPart 2 = .ok (.invokevirtual 136, 3) ∧ decode cX13_readPart 5 = .ok (.aload_n 0, 1))) ∧ ((decode cX13_readPart 6 = .ok (.iload_n 2, 1) ∧ decode cX13_readPart 7 = .ok (.iload_n 3, 1)) ∧ (decode cX13_readPart 8 = .ok (.invokevirtual 140, 3) ∧ decode cX13_readPart 11 = .ok (.ireturn, 1)))) := by decide +kernel
def X13_readPart (s : St) (a0 a1 a2 a3 : Int) : Rs :=
  grd (isK s 23 a0) (bnd (X13_needs s a0 a1) (fun r1 s2 => grd (isK s2 23 a0) (bnd (X13_readWhole s2 a0 a2 a3) (fun r3 s4 => some (r3, s4)))))
set_option maxRecDepth 100000 in
set_option maxHeartbeats 4000000 in
theorem X13_readPart_s (G : Gx) (l : Launch) (s : St) (a0 a1 a2 a3 : Int) : Snd G l mX13_readPart [(2, a0), (2, a1), (0, a2), (0, a3)] s (X13_readPart s a0 a1 a2 a3) := by
  refine Snd.of (by decide +kernel) rfl ?_
  show V G l mX13_readPart 0 [(0, (2, a0)), (1, (2, a1)), (2, (0, a2)), (3, (0, a3))] [] s _
  unfold X13_readPart
  refine V_aload_n dec_X13_readPart.1.1.1 0 rfl ?_
  refine V_aload_n dec_X13_readPart.1.1.2 1 rfl ?_
  refine V_callV0 (ci := 13) (a := a0) (As := [(2, a1)]) (st := []) rfl rfl (X13_needs_s G l s a0 a1) cal_X13_needs rfl ml_X13_136 rfl rfl dec_X13_readPart.1.2.1 (k_void rfl fun r1 s2 => ?_)
  refine V_aload_n dec_X13_readPart.1.2.2 0 rfl ?_
  refine V_iload_n dec_X13_readPart.2.1.1 2 rfl ?_
  refine V_iload_n dec_X13_readPart.2.1.2 3 rfl ?_
  refine V_callV0 (ci := 13) (a := a0) (As := [(0, a2), (0, a3)]) (st := []) rfl rfl (X13_readWhole_s G l s2 a0 a2 a3) cal_X13_readWhole rfl ml_X13_140 rfl rfl dec_X13_readPart.2.2.1 (k_tag (tag := 0) rfl fun r3 s4 => ?_)
  exact V_iret rfl dec_X13_readPart.2.2.2
theorem dec_X13_readDead : ((((((decode cX13_readDead 0 = .ok (.aload_n 0, 1) ∧ (decode cX13_readDead 1 = .ok (.aload_n 0, 1) ∧ decode cX13_readDead 2 = .ok (.getfield 155, 3))) ∧ (decode cX13_readDead 5 = .ok (.getfield 241, 3) ∧ (decode cX13_readDead 8 = .ok (.bipush 6, 2) ∧ decode cX13_readDead 10 = .ok (.invokevirtual 223, 3)))) ∧ ((decode cX13_readDead 13 = .ok (.aload_n 0, 1) ∧ (decode cX13_readDead 14 = .ok (.invokevirtual 227, 3) ∧ decode cX13_readDead 17 = .ok (.lstore_n 1, 1))) ∧ ((decode cX13_readDead 18 = .ok (.aload_n 0, 1) ∧ decode cX13_readDead 19 = .ok (.ldc 243, 2)) ∧ (decode cX13_readDead 21 = .ok (.invokevirtual 120, 3) ∧ decode cX13_readDead 24 = .ok (.ifCond .eq 7, 3))))) ∧ (((decode cX13_readDead 27 = .ok (.iconst 0, 1) ∧ (decode cX13_readDead 28 = .ok (.goto 43, 3) ∧ decode cX13_readDead 31 = .ok (.aload_n 0, 1))) ∧ ((decode cX13_readDead 32 = .ok (.ldc 245, 2) ∧ decode cX13_readDead 34 = .ok (.invokevirtual 120, 3)) ∧ (decode cX13_readDead 37 = .ok (.ifCond .eq 7, 3) ∧ decode cX13_readDead 40 = .ok (.iconst 1, 1)))) ∧ ((decode cX13_readDead 41 = .ok (.goto 30, 3) ∧ (decode cX13_readDead 44 = .ok (.aload_n 0, 1) ∧ decode cX13_readDead 45 = .ok (.ldc 247, 2))) ∧ ((decode cX13_readDead 47 = .ok (.invokevirtual 120, 3) ∧ decode cX13_readDead 50 = .ok (.ifCond .eq 7, 3)) ∧ (decode cX13_readDead 53 = .ok (.iconst 2, 1) ∧ decode cX13_readDead 54 = .ok (.goto 17, 3)))))) ∧ ((((decode cX13_readDead 57 = .ok (.aload_n 0, 1) ∧ (decode cX13_readDead 58 = .ok (.ldc 249, 2) ∧ decode cX13_readDead 60 = .ok (.invokevirtual 120, 3))) ∧ (decode cX13_readDead 63 = .ok (.ifCond .eq 7, 3) ∧ (decode cX13_readDead 66 = .ok (.iconst 3, 1) ∧ decode cX13_readDead 67 = .ok (.goto 4, 3)))) ∧ ((decode cX13_readDead 70 = .ok (.iconst (-1), 1) ∧ (decode cX13_readDead 71 = .ok (.istore_n 3, 1) ∧ decode cX13_readDead 72 = .ok (.iload_n 3, 1))) ∧ ((decode cX13_readDead 73 = .ok (.iconst (-1), 1) ∧ decode cX13_readDead 74 = .ok (.if_icmp .ne 8, 3)) ∧ (decode cX13_readDead 77 = .ok (.aload_n 0, 1) ∧ decode cX13_readDead 78 = .ok (.iconst 1, 1))))) ∧ (((decode cX13_readDead 79 = .ok (.invokevirtual 124, 3) ∧ (decode cX13_readDead 82 = .ok (.aload_n 0, 1) ∧ decode cX13_readDead 83 = .ok (.invokevirtual 117, 3))) ∧ ((decode cX13_readDead 86 = .ok (.aload_n 0, 1) ∧ decode cX13_readDead 87 = .ok (.ldc 251, 2)) ∧ (decode cX13_readDead 89 = .ok (.iconst 0, 1) ∧ decode cX13_readDead 90 = .ok (.bipush 39, 2)))) ∧ ((decode cX13_readDead 92 = .ok (.invokevirtual 215, 3) ∧ (decode cX13_readDead 95 = .ok (.istore 4, 2) ∧ decode cX13_readDead 97 = .ok (.aload_n 0, 1))) ∧ ((decode cX13_readDead 98 = .ok (.ldc 253, 2) ∧ decode cX13_readDead 100 = .ok (.invokevirtual 136, 3)) ∧ (decode cX13_readDead 103 = .ok (.aload_n 0, 1) ∧ decode cX13_readDead 104 = .ok (.iconst 0, 1))))))) ∧ (((((decode cX13_readDead 105 = .ok (.invokevirtual 255, 3) ∧ (decode cX13_readDead 108 = .ok (.istore 5, 2) ∧ decode cX13_readDead 110 = .ok (.aload_n 0, 1))) ∧ (decode cX13_readDead 111 = .ok (.getfield 81, 3) ∧ (decode cX13_readDead 114 = .ok (.iconst 5, 1) ∧ decode cX13_readDead 115 = .ok (.if_icmp .ne 4, 3)))) ∧ ((decode cX13_readDead 118 = .ok (.return_, 1) ∧ (decode cX13_readDead 119 = .ok (.aload_n 0, 1) ∧ decode cX13_readDead 120 = .ok (.lload_n 1, 1))) ∧ ((decode cX13_readDead 121 = .ok (.iconst 1, 1) ∧ decode cX13_readDead 122 = .ok (.aload_n 0, 1)) ∧ (decode cX13_readDead 123 = .ok (.getfield 155, 3) ∧ decode cX13_readDead 126 = .ok (.getfield 241, 3))))) ∧ (((decode cX13_readDead 129 = .ok (.invokevirtual 236, 3) ∧ (decode cX13_readDead 132 = .ok (.aload_n 0, 1) ∧ decode cX13_readDead 133 = .ok (.getfield 155, 3))) ∧ ((decode cX13_readDead 136 = .ok (.getfield 258, 3) ∧ decode cX13_readDead 139 = .ok (.aload_n 0, 1)) ∧ (decode cX13_readDead 140 = .ok (.getfield 155, 3) ∧ decode cX13_readDead 143 = .ok (.getfield 241, 3)))) ∧ ((decode cX13_readDead 146 = .ok (.iload_n 3, 1) ∧ (decode cX13_readDead 147 = .ok (.iastore, 1) ∧ decode cX13_readDead 148 = .ok (.aload_n 0, 1))) ∧ ((decode cX13_readDead 149 = .ok (.getfield 155, 3) ∧ decode cX13_readDead 152 = .ok (.getfield 261, 3)) ∧ (decode cX13_readDead 155 = .ok (.aload_n 0, 1) ∧ decode cX13_readDead 156 = .ok (.getfield 155, 3)))))) ∧ ((((decode cX13_readDead 159 = .ok (.getfield 241, 3) ∧ (decode cX13_readDead 162 = .ok (.iload 4, 2) ∧ decode cX13_readDead 164 = .ok (.iastore, 1))) ∧ (decode cX13_readDead 165 = .ok (.aload_n 0, 1) ∧ (decode cX13_readDead 166 = .ok (.getfield 155, 3) ∧ decode cX13_readDead 169 = .ok (.getfield 263, 3)))) ∧ ((decode cX13_readDead 172 = .ok (.aload_n 0, 1) ∧ (decode cX13_readDead 173 = .ok (.getfield 155, 3) ∧ decode cX13_readDead 176 = .ok (.getfield 241, 3))) ∧ ((decode cX13_readDead 179 = .ok (.iload 5, 2) ∧ decode cX13_readDead 181 = .ok (.iastore, 1)) ∧ (decode cX13_readDead 182 = .ok (.aload_n 0, 1) ∧ decode cX13_readDead 183 = .ok (.getfield 155, 3))))) ∧ (((decode cX13_readDead 186 = .ok (.getfield 266, 3) ∧ (decode cX13_readDead 189 = .ok (.aload_n 0, 1) ∧ decode cX13_readDead 190 = .ok (.getfield 155, 3))) ∧ ((decode cX13_readDead 193 = .ok (.getfield 241, 3) ∧ decode cX13_readDead 196 = .ok (.bipush (-2), 2)) ∧ (decode cX13_readDead 198 = .ok (.iastore, 1) ∧ decode cX13_readDead 199 = .ok (.aload_n 0, 1)))) ∧ ((decode cX13_readDead 200 = .ok (.getfield 155, 3) ∧ (decode cX13_readDead 203 = .ok (.dup, 1) ∧ decode cX13_readDead 204 = .ok (.getfield 241, 3))) ∧ ((decode cX13_readDead 207 = .ok (.iconst 1, 1) ∧ decode cX13_readDead 208 = .ok (.iadd, 1)) ∧ (decode cX13_readDead 209 = .ok (.putfield 241, 3) ∧ decode cX13_readDead 212 = .ok (.return_, 1)))))))) := ⟨⟨⟨⟨by decide +kernel, by decide +kernel⟩, ⟨by decide +kernel, by decide +kernel⟩⟩, ⟨⟨by decide +kernel, by decide +kernel⟩, ⟨by decide +kernel, by decide +kernel⟩⟩⟩, ⟨⟨⟨by decide +kernel, by decide +kernel⟩, ⟨by decide +kernel, by decide +kernel⟩⟩, ⟨⟨by decide +kernel, by decide +kernel⟩, ⟨by decide +kernel, by decide +kernel⟩⟩⟩⟩
def X13_readDead_b82 (s : St) (x0 x1 x3 : Int) : Rs :=
  grd (isK s 23 x0) (bnd (X13_goesOn s x0) (fun r13 s14 => grd (isK s14 23 x0) (bnd (X13_readPart s14 x0 (1000000 + ((30 : Nat) : Int)) 0 39) (fun r15 s16 => grd (isK s16 23 x0) (bnd (X13_needs s16 x0 (1000000 + ((31 : Nat) : Int))) (fun r17 s18 => grd (isK s18 23 x0) (bnd (X13_readKnown s18 x0 0) (fun r19 s20 => grd (isK s20 23 x0) (if ¬ (gI s20 x0 9) = (5 : Int) then (grd (isK s20 23 x0) (grd (isK s20 22 (gR s20 x0 4)) (grd (isK s20 23 x0) (bnd (X13_names s20 x0 x1 1 (gI s20 (gR s20 x0 4) 3)) (fun r21 s22 => grd (isK s22 23 x0) (grd (isK s22 22 (gR s22 x0 4)) (grd (isK s22 23 x0) (grd (isK s22 22 (gR s22 x0 4)) (grd (isK s22 1 (gR s22 (gR s22 x0 4) 9) ∧ 0 ≤ (gI s22 (gR s22 x0 4) 3) ∧ (gI s22 (gR s22 x0 4) 3) < ln s22 (gR s22 (gR s22 x0 4) 9)) (lets (pI s22 (gR s22 (gR s22 x0 4) 9) (gI s22 (gR s22 x0 4) 3).toNat x3) (fun s23 => grd (isK s23 23 x0) (grd (isK s23 22 (gR s23 x0 4)) (grd (isK s23 23 x0) (grd (isK s23 22 (gR s23 x0 4)) (grd (isK s23 1 (gR s23 (gR s23 x0 4) 10) ∧ 0 ≤ (gI s23 (gR s23 x0 4) 3) ∧ (gI s23 (gR s23 x0 4) 3) < ln s23 (gR s23 (gR s23 x0 4) 10)) (lets (pI s23 (gR s23 (gR s23 x0 4) 10) (gI s23 (gR s23 x0 4) 3).toNat r15) (fun s24 => grd (isK s24 23 x0) (grd (isK s24 22 (gR s24 x0 4)) (grd (isK s24 23 x0) (grd (isK s24 22 (gR s24 x0 4)) (grd (isK s24 1 (gR s24 (gR s24 x0 4) 11) ∧ 0 ≤ (gI s24 (gR s24 x0 4) 3) ∧ (gI s24 (gR s24 x0 4) 3) < ln s24 (gR s24 (gR s24 x0 4) 11)) (lets (pI s24 (gR s24 (gR s24 x0 4) 11) (gI s24 (gR s24 x0 4) 3).toNat r19) (fun s25 => grd (isK s25 23 x0) (grd (isK s25 22 (gR s25 x0 4)) (grd (isK s25 23 x0) (grd (isK s25 22 (gR s25 x0 4)) (grd (isK s25 1 (gR s25 (gR s25 x0 4) 12) ∧ 0 ≤ (gI s25 (gR s25 x0 4) 3) ∧ (gI s25 (gR s25 x0 4) 3) < ln s25 (gR s25 (gR s25 x0 4) 12)) (lets (pI s25 (gR s25 (gR s25 x0 4) 12) (gI s25 (gR s25 x0 4) 3).toNat (-2)) (fun s26 => grd (isK s26 23 x0) (grd (isK s26 22 (gR s26 x0 4)) (grd (isK s26 22 (gR s26 x0 4)) (lets (pI s26 (gR s26 x0 4) 3 (w32 ((gI s26 (gR s26 x0 4) 3) + 1))) (fun s27 => some (0, s27)))))))))))))))))))))))))))))))))) else (some (0, s20)))))))))))
set_option maxRecDepth 100000 in
set_option maxHeartbeats 4000000 in
theorem X13_readDead_b82_s (G : Gx) (l : Launch) (s : St) (x0 x1 x3 : Int) : V G l mX13_readDead 82 [(0, (2, x0)), (1, (1, x1)), (3, (0, x3))] [] s (X13_readDead_b82 s x0 x1 x3) := by
  unfold X13_readDead_b82
  refine V_aload_n dec_X13_readDead.1.2.2.1.1.2.1 0 rfl ?_
  refine V_callV0 (ci := 13) (a := x0) (As := []) (st := []) rfl rfl (X13_goesOn_s G l s x0) cal_X13_goesOn rfl ml_X13_117 rfl rfl dec_X13_readDead.1.2.2.1.1.2.2 (k_void rfl fun r13 s14 => ?_)
  refine V_aload_n dec_X13_readDead.1.2.2.1.2.1.1 0 rfl ?_
  refine V_ldcS 30 _ rfl rfl rfl dec_X13_readDead.1.2.2.1.2.1.2 ?_
  refine V_iconst dec_X13_readDead.1.2.2.1.2.2.1 rfl ?_
  refine V_bipush dec_X13_readDead.1.2.2.1.2.2.2 rfl ?_
  refine V_callV0 (ci := 13) (a := x0) (As := [(2, (1000000 + ((30 : Nat) : Int))), (0, 0), (0, 39)]) (st := []) rfl rfl (X13_readPart_s G l s14 x0 (1000000 + ((30 : Nat) : Int)) 0 39) cal_X13_readPart rfl ml_X13_215 rfl rfl dec_X13_readDead.1.2.2.2.1.1 (k_tag (tag := 0) rfl fun r15 s16 => ?_)
  refine V_istore (lv' := [(4, (0, r15)), (0, (2, x0)), (1, (1, x1)), (3, (0, x3))]) dec_X13_readDead.1.2.2.2.1.2.1 (by decide) rfl ?_
  refine V_aload_n dec_X13_readDead.1.2.2.2.1.2.2 1 rfl ?_
  refine V_ldcS 31 _ rfl rfl rfl dec_X13_readDead.1.2.2.2.2.1.1 ?_
  refine V_callV0 (ci := 13) (a := x0) (As := [(2, (1000000 + ((31 : Nat) : Int)))]) (st := []) rfl rfl (X13_needs_s G l s16 x0 (1000000 + ((31 : Nat) : Int))) cal_X13_needs rfl ml_X13_136 rfl rfl dec_X13_readDead.1.2.2.2.2.1.2 (k_void rfl fun r17 s18 => ?_)
  refine V_aload_n dec_X13_readDead.1.2.2.2.2.2.1 1 rfl ?_
  refine V_iconst dec_X13_readDead.1.2.2.2.2.2.2 rfl ?_
  refine V_callV0 (ci := 13) (a := x0) (As := [(0, 0)]) (st := []) rfl rfl (X13_readKnown_s G l s18 x0 0) cal_X13_readKnown rfl ml_X13_255 rfl rfl dec_X13_readDead.2.1.1.1.1.1 (k_tag (tag := 0) rfl fun r19 s20 => ?_)
  refine V_istore (lv' := [(5, (0, r19)), (4, (0, r15)), (0, (2, x0)), (1, (1, x1)), (3, (0, x3))]) dec_X13_readDead.2.1.1.1.1.2.1 (by decide) rfl ?_
  refine V_aload_n dec_X13_readDead.2.1.1.1.1.2.2 2 rfl ?_
  refine V_getI 13 9 nf_13_9 ft_13_9 fl_X13_81 dec_X13_readDead.2.1.1.1.2.1 ?_
  refine V_iconst dec_X13_readDead.2.1.1.1.2.2.1 rfl ?_
  refine V_icmp_ne (tgt := 119) dec_X13_readDead.2.1.1.1.2.2.2 (by decide) ?_ ?_
  · refine V_aload_n dec_X13_readDead.2.1.1.2.1.2.1 2 rfl ?_
    refine V_lload_n dec_X13_readDead.2.1.1.2.1.2.2 3 rfl ?_
    refine V_iconst dec_X13_readDead.2.1.1.2.2.1.1 rfl ?_
    refine V_aload_n dec_X13_readDead.2.1.1.2.2.1.2 2 rfl ?_
    refine V_getR 13 4 nf_13_4 ft_13_4 fl_X13_155 dec_X13_readDead.2.1.1.2.2.2.1 ?_
    refine V_getIN RX13 12 3 nf_12_3 ft_12_3 fl_X13_241 dec_X13_readDead.2.1.1.2.2.2.2 ?_
    refine V_callV0 (ci := 13) (a := x0) (As := [(1, x1), (0, 1), (0, (gI s20 (gR s20 x0 4) 3))]) (st := []) rfl rfl (X13_names_s G l s20 x0 x1 1 (gI s20 (gR s20 x0 4) 3)) cal_X13_names rfl ml_X13_236 rfl rfl dec_X13_readDead.2.1.2.1.1.1 (k_void rfl fun r21 s22 => ?_)
    refine V_aload_n dec_X13_readDead.2.1.2.1.1.2.1 2 rfl ?_
    refine V_getR 13 4 nf_13_4 ft_13_4 fl_X13_155 dec_X13_readDead.2.1.2.1.1.2.2 ?_
    refine V_getRN RX13 12 9 nf_12_9 ft_12_9 fl_X13_258 dec_X13_readDead.2.1.2.1.2.1.1 ?_
    refine V_aload_n dec_X13_readDead.2.1.2.1.2.1.2 2 rfl ?_
    refine V_getR 13 4 nf_13_4 ft_13_4 fl_X13_155 dec_X13_readDead.2.1.2.1.2.2.1 ?_
    refine V_getIN RX13 12 3 nf_12_3 ft_12_3 fl_X13_241 dec_X13_readDead.2.1.2.1.2.2.2 ?_
    refine V_iload_n dec_X13_readDead.2.1.2.2.1.1 4 rfl ?_
    refine V_iast dec_X13_readDead.2.1.2.2.1.2.1 ?_
    refine V_lets fun s23 => ?_
    refine V_aload_n dec_X13_readDead.2.1.2.2.1.2.2 2 rfl ?_
    refine V_getR 13 4 nf_13_4 ft_13_4 fl_X13_155 dec_X13_readDead.2.1.2.2.2.1.1 ?_
    refine V_getRN RX13 12 10 nf_12_10 ft_12_10 fl_X13_261 dec_X13_readDead.2.1.2.2.2.1.2 ?_
    refine V_aload_n dec_X13_readDead.2.1.2.2.2.2.1 2 rfl ?_
    refine V_getR 13 4 nf_13_4 ft_13_4 fl_X13_155 dec_X13_readDead.2.1.2.2.2.2.2 ?_
    refine V_getIN RX13 12 3 nf_12_3 ft_12_3 fl_X13_241 dec_X13_readDead.2.2.1.1.1.1 ?_
    refine V_iload dec_X13_readDead.2.2.1.1.1.2.1 1 rfl ?_
    refine V_iast dec_X13_readDead.2.2.1.1.1.2.2 ?_
    refine V_lets fun s24 => ?_
    refine V_aload_n dec_X13_readDead.2.2.1.1.2.1 2 rfl ?_
    refine V_getR 13 4 nf_13_4 ft_13_4 fl_X13_155 dec_X13_readDead.2.2.1.1.2.2.1 ?_
    refine V_getRN RX13 12 11 nf_12_11 ft_12_11 fl_X13_263 dec_X13_readDead.2.2.1.1.2.2.2 ?_
    refine V_aload_n dec_X13_readDead.2.2.1.2.1.1 2 rfl ?_
    refine V_getR 13 4 nf_13_4 ft_13_4 fl_X13_155 dec_X13_readDead.2.2.1.2.1.2.1 ?_
    refine V_getIN RX13 12 3 nf_12_3 ft_12_3 fl_X13_241 dec_X13_readDead.2.2.1.2.1.2.2 ?_
    refine V_iload dec_X13_readDead.2.2.1.2.2.1.1 0 rfl ?_
    refine V_iast dec_X13_readDead.2.2.1.2.2.1.2 ?_
    refine V_lets fun s25 => ?_
    refine V_aload_n dec_X13_readDead.2.2.1.2.2.2.1 2 rfl ?_
    refine V_getR 13 4 nf_13_4 ft_13_4 fl_X13_155 dec_X13_readDead.2.2.1.2.2.2.2 ?_
    refine V_getRN RX13 12 12 nf_12_12 ft_12_12 fl_X13_266 dec_X13_readDead.2.2.2.1.1.1 ?_
    refine V_aload_n dec_X13_readDead.2.2.2.1.1.2.1 2 rfl ?_
    refine V_getR 13 4 nf_13_4 ft_13_4 fl_X13_155 dec_X13_readDead.2.2.2.1.1.2.2 ?_
    refine V_getIN RX13 12 3 nf_12_3 ft_12_3 fl_X13_241 dec_X13_readDead.2.2.2.1.2.1.1 ?_
    refine V_bipush dec_X13_readDead.2.2.2.1.2.1.2 rfl ?_
    refine V_iast dec_X13_readDead.2.2.2.1.2.2.1 ?_
    refine V_lets fun s26 => ?_
    refine V_aload_n dec_X13_readDead.2.2.2.1.2.2.2 2 rfl ?_
    refine V_getR 13 4 nf_13_4 ft_13_4 fl_X13_155 dec_X13_readDead.2.2.2.2.1.1 ?_
    refine V_dup (nl2 _) dec_X13_readDead.2.2.2.2.1.2.1 ?_
    refine V_getIN RX13 12 3 nf_12_3 ft_12_3 fl_X13_241 dec_X13_readDead.2.2.2.2.1.2.2 ?_
    refine V_iconst dec_X13_readDead.2.2.2.2.2.1.1 rfl ?_
    refine V_iadd dec_X13_readDead.2.2.2.2.2.1.2 ?_
    refine V_putI (host := RX13) 12 3 nf_12_3 ty_12_3 (Or.inr ⟨fl_X13_241, rfl⟩) dec_X13_readDead.2.2.2.2.2.2.1 ?_
    refine V_lets fun s27 => ?_
    exact V_vret rfl dec_X13_readDead.2.2.2.2.2.2.2
  · exact V_vret rfl dec_X13_readDead.2.1.1.2.1.1
def X13_readDead_b71 (s : St) (x0 x1 k0 : Int) : Rs :=
  if ¬ k0 = ((-1) : Int) then (X13_readDead_b82 s x0 x1 k0) else (grd (isK s 23 x0) (bnd (X13_flaw s x0 1) (fun r28 s29 => X13_readDead_b82 s29 x0 x1 k0)))
set_option maxRecDepth 100000 in
set_option maxHeartbeats 4000000 in
theorem X13_readDead_b71_s (G : Gx) (l : Launch) (s : St) (x0 x1 k0 : Int) : V G l mX13_readDead 71 [(0, (2, x0)), (1, (1, x1))] [(0, k0)] s (X13_readDead_b71 s x0 x1 k0) := by
  unfold X13_readDead_b71
  refine V_istore_n (lv' := [(3, (0, k0)), (0, (2, x0)), (1, (1, x1))]) dec_X13_readDead.1.2.1.2.1.2.1 (by decide) rfl ?_
  refine V_iload_n dec_X13_readDead.1.2.1.2.1.2.2 0 rfl ?_
  refine V_iconst dec_X13_readDead.1.2.1.2.2.1.1 rfl ?_
  refine V_icmp_ne (tgt := 82) dec_X13_readDead.1.2.1.2.2.1.2 (by decide) ?_ ?_
  · exact V_pick [1, 2, 0] rfl (X13_readDead_b82_s G l s x0 x1 k0)
  · refine V_aload_n dec_X13_readDead.1.2.1.2.2.2.1 1 rfl ?_
    refine V_iconst dec_X13_readDead.1.2.1.2.2.2.2 rfl ?_
    refine V_callV0 (ci := 13) (a := x0) (As := [(0, 1)]) (st := []) rfl rfl (X13_flaw_s G l s x0 1) cal_X13_flaw rfl ml_X13_124 rfl rfl dec_X13_readDead.1.2.2.1.1.1 (k_void rfl fun r28 s29 => ?_)
    exact V_pick [1, 2, 0] rfl (X13_readDead_b82_s G l s29 x0 x1 k0)
def X13_readDead (s : St) (a0 : Int) : Rs :=
  grd (isK s 23 a0) (grd (isK s 22 (gR s a0 4)) (grd (isK s 23 a0) (bnd (X13_lineBegins s a0 (gI s (gR s a0 4) 3) 6) (fun r1 s2 => grd (isK s2 23 a0) (bnd (X13_readFresh s2 a0) (fun r3 s4 => grd (isK s4 23 a0) (bnd (X13_isWord s4 a0 (1000000 + ((26 : Nat) : Int))) (fun r5 s6 => if r5 = 0 then (grd (isK s6 23 a0) (bnd (X13_isWord s6 a0 (1000000 + ((27 : Nat) : Int))) (fun r7 s8 => if r7 = 0 then (grd (isK s8 23 a0) (bnd (X13_isWord s8 a0 (1000000 + ((28 : Nat) : Int))) (fun r9 s10 => if r9 = 0 then (grd (isK s10 23 a0) (bnd (X13_isWord s10 a0 (1000000 + ((29 : Nat) : Int))) (fun r11 s12 => if r11 = 0 then (X13_readDead_b71 s12 a0 r3 (-1)) else (X13_readDead_b71 s12 a0 r3 3)))) else (X13_readDead_b71 s10 a0 r3 2)))) else (X13_readDead_b71 s8 a0 r3 1)))) else (X13_readDead_b71 s6 a0 r3 0)))))))))
set_option maxRecDepth 100000 in
set_option maxHeartbeats 4000000 in
theorem X13_readDead_s (G : Gx) (l : Launch) (s : St) (a0 : Int) : Snd G l mX13_readDead [(2, a0)] s (X13_readDead s a0) := by
  refine Snd.of (by decide +kernel) rfl ?_
  show V G l mX13_readDead 0 [(0, (2, a0))] [] s _
  unfold X13_readDead
  refine V_aload_n dec_X13_readDead.1.1.1.1.1.1 0 rfl ?_
  refine V_aload_n dec_X13_readDead.1.1.1.1.1.2.1 0 rfl ?_
  refine V_getR 13 4 nf_13_4 ft_13_4 fl_X13_155 dec_X13_readDead.1.1.1.1.1.2.2 ?_
  refine V_getIN RX13 12 3 nf_12_3 ft_12_3 fl_X13_241 dec_X13_readDead.1.1.1.1.2.1 ?_
  refine V_bipush dec_X13_readDead.1.1.1.1.2.2.1 rfl ?_
  refine V_callV0 (ci := 13) (a := a0) (As := [(0, (gI s (gR s a0 4) 3)), (0, 6)]) (st := []) rfl rfl (X13_lineBegins_s G l s a0 (gI s (gR s a0 4) 3) 6) cal_X13_lineBegins rfl ml_X13_223 rfl rfl dec_X13_readDead.1.1.1.1.2.2.2 (k_void rfl fun r1 s2 => ?_)
  refine V_aload_n dec_X13_readDead.1.1.1.2.1.1 0 rfl ?_
  refine V_callV0 (ci := 13) (a := a0) (As := []) (st := []) rfl rfl (X13_readFresh_s G l s2 a0) cal_X13_readFresh rfl ml_X13_227 rfl rfl dec_X13_readDead.1.1.1.2.1.2.1 (k_tag (tag := 1) rfl fun r3 s4 => ?_)
  refine V_lstore_n (lv' := [(1, (1, r3)), (0, (2, a0))]) dec_X13_readDead.1.1.1.2.1.2.2 (by decide) rfl ?_
  refine V_aload_n dec_X13_readDead.1.1.1.2.2.1.1 1 rfl ?_
  refine V_ldcS 26 _ rfl rfl rfl dec_X13_readDead.1.1.1.2.2.1.2 ?_
  refine V_callV0 (ci := 13) (a := a0) (As := [(2, (1000000 + ((26 : Nat) : Int)))]) (st := []) rfl rfl (X13_isWord_s G l s4 a0 (1000000 + ((26 : Nat) : Int))) cal_X13_isWord rfl ml_X13_120 rfl rfl dec_X13_readDead.1.1.1.2.2.2.1 (k_tag (tag := 0) rfl fun r5 s6 => ?_)
  refine V_if_eq (tgt := 31) dec_X13_readDead.1.1.1.2.2.2.2 (by decide) ?_ ?_
  · refine V_aload_n dec_X13_readDead.1.1.2.1.1.2.2 1 rfl ?_
    refine V_ldcS 27 _ rfl rfl rfl dec_X13_readDead.1.1.2.1.2.1.1 ?_
    refine V_callV0 (ci := 13) (a := a0) (As := [(2, (1000000 + ((27 : Nat) : Int)))]) (st := []) rfl rfl (X13_isWord_s G l s6 a0 (1000000 + ((27 : Nat) : Int))) cal_X13_isWord rfl ml_X13_120 rfl rfl dec_X13_readDead.1.1.2.1.2.1.2 (k_tag (tag := 0) rfl fun r7 s8 => ?_)
    refine V_if_eq (tgt := 44) dec_X13_readDead.1.1.2.1.2.2.1 (by decide) ?_ ?_
    · refine V_aload_n dec_X13_readDead.1.1.2.2.1.2.1 1 rfl ?_
      refine V_ldcS 28 _ rfl rfl rfl dec_X13_readDead.1.1.2.2.1.2.2 ?_
      refine V_callV0 (ci := 13) (a := a0) (As := [(2, (1000000 + ((28 : Nat) : Int)))]) (st := []) rfl rfl (X13_isWord_s G l s8 a0 (1000000 + ((28 : Nat) : Int))) cal_X13_isWord rfl ml_X13_120 rfl rfl dec_X13_readDead.1.1.2.2.2.1.1 (k_tag (tag := 0) rfl fun r9 s10 => ?_)
      refine V_if_eq (tgt := 57) dec_X13_readDead.1.1.2.2.2.1.2 (by decide) ?_ ?_
      · refine V_aload_n dec_X13_readDead.1.2.1.1.1.1 1 rfl ?_
        refine V_ldcS 29 _ rfl rfl rfl dec_X13_readDead.1.2.1.1.1.2.1 ?_
        refine V_callV0 (ci := 13) (a := a0) (As := [(2, (1000000 + ((29 : Nat) : Int)))]) (st := []) rfl rfl (X13_isWord_s G l s10 a0 (1000000 + ((29 : Nat) : Int))) cal_X13_isWord rfl ml_X13_120 rfl rfl dec_X13_readDead.1.2.1.1.1.2.2 (k_tag (tag := 0) rfl fun r11 s12 => ?_)
        refine V_if_eq (tgt := 70) dec_X13_readDead.1.2.1.1.2.1 (by decide) ?_ ?_
        · refine V_iconst dec_X13_readDead.1.2.1.2.1.1 rfl ?_
          exact V_pick [1, 0] rfl (X13_readDead_b71_s G l s12 a0 r3 (-1))
        · refine V_iconst dec_X13_readDead.1.2.1.1.2.2.1 rfl ?_
          refine V_goto (tgt := 71) dec_X13_readDead.1.2.1.1.2.2.2 (by decide) ?_
          exact V_pick [1, 0] rfl (X13_readDead_b71_s G l s12 a0 r3 3)
      · refine V_iconst dec_X13_readDead.1.1.2.2.2.2.1 rfl ?_
        refine V_goto (tgt := 71) dec_X13_readDead.1.1.2.2.2.2.2 (by decide) ?_
        exact V_pick [1, 0] rfl (X13_readDead_b71_s G l s10 a0 r3 2)
    · refine V_iconst dec_X13_readDead.1.1.2.1.2.2.2 rfl ?_
      refine V_goto (tgt := 71) dec_X13_readDead.1.1.2.2.1.1 (by decide) ?_
      exact V_pick [1, 0] rfl (X13_readDead_b71_s G l s8 a0 r3 1)
  · refine V_iconst dec_X13_readDead.1.1.2.1.1.1 rfl ?_
    refine V_goto (tgt := 71) dec_X13_readDead.1.1.2.1.1.2.1 (by decide) ?_
    exact V_pick [1, 0] rfl (X13_readDead_b71_s G l s6 a0 r3 0)
theorem dec_X13_readHeard : ((((((decode cX13_readHeard 0 = .ok (.aload_n 0, 1) ∧ decode cX13_readHeard 1 = .ok (.aload_n 0, 1)) ∧ (decode cX13_readHeard 2 = .ok (.getfield 155, 3) ∧ decode cX13_readHeard 5 = .ok (.getfield 279, 3))) ∧ ((decode cX13_readHeard 8 = .ok (.bipush 8, 2) ∧ decode cX13_readHeard 10 = .ok (.invokevirtual 223, 3)) ∧ (decode cX13_readHeard 13 = .ok (.aload_n 0, 1) ∧ (decode cX13_readHeard 14 = .ok (.iconst 0, 1) ∧ decode cX13_readHeard 15 = .ok (.invokevirtual 255, 3))))) ∧ (((decode cX13_readHeard 18 = .ok (.istore_n 1, 1) ∧ decode cX13_readHeard 19 = .ok (.aload_n 0, 1)) ∧ (decode cX13_readHeard 20 = .ok (.iconst 1, 1) ∧ decode cX13_readHeard 21 = .ok (.invokevirtual 255, 3))) ∧ ((decode cX13_readHeard 24 = .ok (.istore_n 2, 1) ∧ decode cX13_readHeard 25 = .ok (.aload_n 0, 1)) ∧ (decode cX13_readHeard 26 = .ok (.ldc_w 282, 3) ∧ (decode cX13_readHeard 29 = .ok (.invokevirtual 136, 3) ∧ decode cX13_readHeard 32 = .ok (.aload_n 0, 1)))))) ∧ ((((decode cX13_readHeard 33 = .ok (.iconst 0, 1) ∧ decode cX13_readHeard 34 = .ok (.bipush 60, 2)) ∧ (decode cX13_readHeard 36 = .ok (.invokevirtual 132, 3) ∧ decode cX13_readHeard 39 = .ok (.istore_n 3, 1))) ∧ ((decode cX13_readHeard 40 = .ok (.aload_n 0, 1) ∧ decode cX13_readHeard 41 = .ok (.getfield 81, 3)) ∧ (decode cX13_readHeard 44 = .ok (.iconst 5, 1) ∧ (decode cX13_readHeard 45 = .ok (.if_icmp .eq 20, 3) ∧ decode cX13_readHeard 48 = .ok (.aload_n 0, 1))))) ∧ (((decode cX13_readHeard 49 = .ok (.getfield 155, 3) ∧ decode cX13_readHeard 52 = .ok (.iload_n 2, 1)) ∧ (decode cX13_readHeard 53 = .ok (.iload_n 3, 1) ∧ (decode cX13_readHeard 54 = .ok (.invokevirtual 284, 3) ∧ decode cX13_readHeard 57 = .ok (.ifCond .eq 8, 3)))) ∧ ((decode cX13_readHeard 60 = .ok (.aload_n 0, 1) ∧ decode cX13_readHeard 61 = .ok (.iconst 3, 1)) ∧ (decode cX13_readHeard 62 = .ok (.invokevirtual 124, 3) ∧ (decode cX13_readHeard 65 = .ok (.aload_n 0, 1) ∧ decode cX13_readHeard 66 = .ok (.invokevirtual 117, 3))))))) ∧ (((((decode cX13_readHeard 69 = .ok (.aload_n 0, 1) ∧ decode cX13_readHeard 70 = .ok (.getfield 81, 3)) ∧ (decode cX13_readHeard 73 = .ok (.iconst 5, 1) ∧ decode cX13_readHeard 74 = .ok (.if_icmp .ne 4, 3))) ∧ ((decode cX13_readHeard 77 = .ok (.return_, 1) ∧ decode cX13_readHeard 78 = .ok (.aload_n 0, 1)) ∧ (decode cX13_readHeard 79 = .ok (.getfield 155, 3) ∧ (decode cX13_readHeard 82 = .ok (.getfield 288, 3) ∧ decode cX13_readHeard 85 = .ok (.aload_n 0, 1))))) ∧ (((decode cX13_readHeard 86 = .ok (.getfield 155, 3) ∧ decode cX13_readHeard 89 = .ok (.getfield 279, 3)) ∧ (decode cX13_readHeard 92 = .ok (.iload_n 1, 1) ∧ decode cX13_readHeard 93 = .ok (.iastore, 1))) ∧ ((decode cX13_readHeard 94 = .ok (.aload_n 0, 1) ∧ decode cX13_readHeard 95 = .ok (.getfield 155, 3)) ∧ (decode cX13_readHeard 98 = .ok (.getfield 291, 3) ∧ (decode cX13_readHeard 101 = .ok (.aload_n 0, 1) ∧ decode cX13_readHeard 102 = .ok (.getfield 155, 3)))))) ∧ ((((decode cX13_readHeard 105 = .ok (.getfield 279, 3) ∧ decode cX13_readHeard 108 = .ok (.iload_n 2, 1)) ∧ (decode cX13_readHeard 109 = .ok (.iastore, 1) ∧ decode cX13_readHeard 110 = .ok (.aload_n 0, 1))) ∧ ((decode cX13_readHeard 111 = .ok (.getfield 155, 3) ∧ decode cX13_readHeard 114 = .ok (.getfield 293, 3)) ∧ (decode cX13_readHeard 117 = .ok (.aload_n 0, 1) ∧ (decode cX13_readHeard 118 = .ok (.getfield 155, 3) ∧ decode cX13_readHeard 121 = .ok (.getfield 279, 3))))) ∧ (((decode cX13_readHeard 124 = .ok (.iload_n 3, 1) ∧ decode cX13_readHeard 125 = .ok (.iastore, 1)) ∧ (decode cX13_readHeard 126 = .ok (.aload_n 0, 1) ∧ (decode cX13_readHeard 127 = .ok (.getfield 155, 3) ∧ decode cX13_readHeard 130 = .ok (.dup, 1)))) ∧ ((decode cX13_readHeard 131 = .ok (.getfield 279, 3) ∧ decode cX13_readHeard 134 = .ok (.iconst 1, 1)) ∧ (decode cX13_readHeard 135 = .ok (.iadd, 1) ∧ (decode cX13_readHeard 136 = .ok (.putfield 279, 3) ∧ decode cX13_readHeard 139 = .ok (.return_, 1)))))))) := ⟨⟨⟨by decide +kernel, by decide +kernel⟩, ⟨by decide +kernel, by decide +kernel⟩⟩, ⟨⟨by decide +kernel, by decide +kernel⟩, ⟨by decide +kernel, by decide +kernel⟩⟩⟩
def X13_readHeard_b65 (s : St) (x0 x1 x2 x3 : Int) : Rs :=
  grd (isK s 23 x0) (bnd (X13_goesOn s x0) (fun r11 s12 => grd (isK s12 23 x0) (if ¬ (gI s12 x0 9) = (5 : Int) then (grd (isK s12 23 x0) (grd (isK s12 22 (gR s12 x0 4)) (grd (isK s12 23 x0) (grd (isK s12 22 (gR s12 x0 4)) (grd (isK s12 1 (gR s12 (gR s12 x0 4) 15) ∧ 0 ≤ (gI s12 (gR s12 x0 4) 6) ∧ (gI s12 (gR s12 x0 4) 6) < ln s12 (gR s12 (gR s12 x0 4) 15)) (lets (pI s12 (gR s12 (gR s12 x0 4) 15) (gI s12 (gR s12 x0 4) 6).toNat x1) (fun s13 => grd (isK s13 23 x0) (grd (isK s13 22 (gR s13 x0 4)) (grd (isK s13 23 x0) (grd (isK s13 22 (gR s13 x0 4)) (grd (isK s13 1 (gR s13 (gR s13 x0 4) 16) ∧ 0 ≤ (gI s13 (gR s13 x0 4) 6) ∧ (gI s13 (gR s13 x0 4) 6) < ln s13 (gR s13 (gR s13 x0 4) 16)) (lets (pI s13 (gR s13 (gR s13 x0 4) 16) (gI s13 (gR s13 x0 4) 6).toNat x2) (fun s14 => grd (isK s14 23 x0) (grd (isK s14 22 (gR s14 x0 4)) (grd (isK s14 23 x0) (grd (isK s14 22 (gR s14 x0 4)) (grd (isK s14 1 (gR s14 (gR s14 x0 4) 17) ∧ 0 ≤ (gI s14 (gR s14 x0 4) 6) ∧ (gI s14 (gR s14 x0 4) 6) < ln s14 (gR s14 (gR s14 x0 4) 17)) (lets (pI s14 (gR s14 (gR s14 x0 4) 17) (gI s14 (gR s14 x0 4) 6).toNat x3) (fun s15 => grd (isK s15 23 x0) (grd (isK s15 22 (gR s15 x0 4)) (grd (isK s15 22 (gR s15 x0 4)) (lets (pI s15 (gR s15 x0 4) 6 (w32 ((gI s15 (gR s15 x0 4) 6) + 1))) (fun s16 => some (0, s16)))))))))))))))))))))))) else (some (0, s12)))))
set_option maxRecDepth 100000 in
set_option maxHeartbeats 4000000 in
theorem X13_readHeard_b65_s (G : Gx) (l : Launch) (s : St) (x0 x1 x2 x3 : Int) : V G l mX13_readHeard 65 [(0, (2, x0)), (1, (0, x1)), (2, (0, x2)), (3, (0, x3))] [] s (X13_readHeard_b65 s x0 x1 x2 x3) := by
  unfold X13_readHeard_b65
  refine V_aload_n dec_X13_readHeard.1.2.2.2.2.2.1 0 rfl ?_
  refine V_callV0 (ci := 13) (a := x0) (As := []) (st := []) rfl rfl (X13_goesOn_s G l s x0) cal_X13_goesOn rfl ml_X13_117 rfl rfl dec_X13_readHeard.1.2.2.2.2.2.2 (k_void rfl fun r11 s12 => ?_)
  refine V_aload_n dec_X13_readHeard.2.1.1.1.1.1 0 rfl ?_
  refine V_getI 13 9 nf_13_9 ft_13_9 fl_X13_81 dec_X13_readHeard.2.1.1.1.1.2 ?_
  refine V_iconst dec_X13_readHeard.2.1.1.1.2.1 rfl ?_
  refine V_icmp_ne (tgt := 78) dec_X13_readHeard.2.1.1.1.2.2 (by decide) ?_ ?_
  · refine V_aload_n dec_X13_readHeard.2.1.1.2.1.2 0 rfl ?_
    refine V_getR 13 4 nf_13_4 ft_13_4 fl_X13_155 dec_X13_readHeard.2.1.1.2.2.1 ?_
    refine V_getRN RX13 12 15 nf_12_15 ft_12_15 fl_X13_288 dec_X13_readHeard.2.1.1.2.2.2.1 ?_
    refine V_aload_n dec_X13_readHeard.2.1.1.2.2.2.2 0 rfl ?_
    refine V_getR 13 4 nf_13_4 ft_13_4 fl_X13_155 dec_X13_readHeard.2.1.2.1.1.1 ?_
    refine V_getIN RX13 12 6 nf_12_6 ft_12_6 fl_X13_279 dec_X13_readHeard.2.1.2.1.1.2 ?_
    refine V_iload_n dec_X13_readHeard.2.1.2.1.2.1 1 rfl ?_
    refine V_iast dec_X13_readHeard.2.1.2.1.2.2 ?_
    refine V_lets fun s13 => ?_
    refine V_aload_n dec_X13_readHeard.2.1.2.2.1.1 0 rfl ?_
    refine V_getR 13 4 nf_13_4 ft_13_4 fl_X13_155 dec_X13_readHeard.2.1.2.2.1.2 ?_
    refine V_getRN RX13 12 16 nf_12_16 ft_12_16 fl_X13_291 dec_X13_readHeard.2.1.2.2.2.1 ?_
    refine V_aload_n dec_X13_readHeard.2.1.2.2.2.2.1 0 rfl ?_
    refine V_getR 13 4 nf_13_4 ft_13_4 fl_X13_155 dec_X13_readHeard.2.1.2.2.2.2.2 ?_
    refine V_getIN RX13 12 6 nf_12_6 ft_12_6 fl_X13_279 dec_X13_readHeard.2.2.1.1.1.1 ?_
    refine V_iload_n dec_X13_readHeard.2.2.1.1.1.2 2 rfl ?_
    refine V_iast dec_X13_readHeard.2.2.1.1.2.1 ?_
    refine V_lets fun s14 => ?_
    refine V_aload_n dec_X13_readHeard.2.2.1.1.2.2 0 rfl ?_
    refine V_getR 13 4 nf_13_4 ft_13_4 fl_X13_155 dec_X13_readHeard.2.2.1.2.1.1 ?_
    refine V_getRN RX13 12 17 nf_12_17 ft_12_17 fl_X13_293 dec_X13_readHeard.2.2.1.2.1.2 ?_
    refine V_aload_n dec_X13_readHeard.2.2.1.2.2.1 0 rfl ?_
    refine V_getR 13 4 nf_13_4 ft_13_4 fl_X13_155 dec_X13_readHeard.2.2.1.2.2.2.1 ?_
    refine V_getIN RX13 12 6 nf_12_6 ft_12_6 fl_X13_279 dec_X13_readHeard.2.2.1.2.2.2.2 ?_
    refine V_iload_n dec_X13_readHeard.2.2.2.1.1.1 3 rfl ?_
    refine V_iast dec_X13_readHeard.2.2.2.1.1.2 ?_
    refine V_lets fun s15 => ?_
    refine V_aload_n dec_X13_readHeard.2.2.2.1.2.1 0 rfl ?_
    refine V_getR 13 4 nf_13_4 ft_13_4 fl_X13_155 dec_X13_readHeard.2.2.2.1.2.2.1 ?_
    refine V_dup (nl2 _) dec_X13_readHeard.2.2.2.1.2.2.2 ?_
    refine V_getIN RX13 12 6 nf_12_6 ft_12_6 fl_X13_279 dec_X13_readHeard.2.2.2.2.1.1 ?_
    refine V_iconst dec_X13_readHeard.2.2.2.2.1.2 rfl ?_
    refine V_iadd dec_X13_readHeard.2.2.2.2.2.1 ?_
    refine V_putI (host := RX13) 12 6 nf_12_6 ty_12_6 (Or.inr ⟨fl_X13_279, rfl⟩) dec_X13_readHeard.2.2.2.2.2.2.1 ?_
    refine V_lets fun s16 => ?_
    exact V_vret rfl dec_X13_readHeard.2.2.2.2.2.2.2
  · exact V_vret rfl dec_X13_readHeard.2.1.1.2.1.1
def X13_readHeard (s : St) (a0 : Int) : Rs :=
  grd (isK s 23 a0) (grd (isK s 22 (gR s a0 4)) (grd (isK s 23 a0) (bnd (X13_lineBegins s a0 (gI s (gR s a0 4) 6) 8) (fun r1 s2 => grd (isK s2 23 a0) (bnd (X13_readKnown s2 a0 0) (fun r3 s4 => grd (isK s4 23 a0) (bnd (X13_readKnown s4 a0 1) (fun r5 s6 => grd (isK s6 23 a0) (bnd (X13_needs s6 a0 (1000000 + ((32 : Nat) : Int))) (fun r7 s8 => grd (isK s8 23 a0) (bnd (X13_wholeAt s8 a0 0 60) (fun r9 s10 => grd (isK s10 23 a0) (if (gI s10 a0 9) = (5 : Int) then (X13_readHeard_b65 s10 a0 r3 r5 r9) else (grd (isK s10 23 a0) (grd (isK s10 22 (gR s10 a0 4)) (bnd (X12_isHeard s10 (gR s10 a0 4) r5 r9) (fun r17 s18 => if r17 = 0 then (X13_readHeard_b65 s18 a0 r3 r5 r9) else (grd (isK s18 23 a0) (bnd (X13_flaw s18 a0 3) (fun r19 s20 => X13_readHeard_b65 s20 a0 r3 r5 r9))))))))))))))))))))
set_option maxRecDepth 100000 in
set_option maxHeartbeats 4000000 in
theorem X13_readHeard_s (G : Gx) (l : Launch) (s : St) (a0 : Int) : Snd G l mX13_readHeard [(2, a0)] s (X13_readHeard s a0) := by
  refine Snd.of (by decide +kernel) rfl ?_
  show V G l mX13_readHeard 0 [(0, (2, a0))] [] s _
  unfold X13_readHeard
  refine V_aload_n dec_X13_readHeard.1.1.1.1.1.1 0 rfl ?_
  refine V_aload_n dec_X13_readHeard.1.1.1.1.1.2 0 rfl ?_
  refine V_getR 13 4 nf_13_4 ft_13_4 fl_X13_155 dec_X13_readHeard.1.1.1.1.2.1 ?_
  refine V_getIN RX13 12 6 nf_12_6 ft_12_6 fl_X13_279 dec_X13_readHeard.1.1.1.1.2.2 ?_
  refine V_bipush dec_X13_readHeard.1.1.1.2.1.1 rfl ?_
  refine V_callV0 (ci := 13) (a := a0) (As := [(0, (gI s (gR s a0 4) 6)), (0, 8)]) (st := []) rfl rfl (X13_lineBegins_s G l s a0 (gI s (gR s a0 4) 6) 8) cal_X13_lineBegins rfl ml_X13_223 rfl rfl dec_X13_readHeard.1.1.1.2.1.2 (k_void rfl fun r1 s2 => ?_)
  refine V_aload_n dec_X13_readHeard.1.1.1.2.2.1 0 rfl ?_
  refine V_iconst dec_X13_readHeard.1.1.1.2.2.2.1 rfl ?_
  refine V_callV0 (ci := 13) (a := a0) (As := [(0, 0)]) (st := []) rfl rfl (X13_readKnown_s G l s2 a0 0) cal_X13_readKnown rfl ml_X13_255 rfl rfl dec_X13_readHeard.1.1.1.2.2.2.2 (k_tag (tag := 0) rfl fun r3 s4 => ?_)
  refine V_istore_n (lv' := [(1, (0, r3)), (0, (2, a0))]) dec_X13_readHeard.1.1.2.1.1.1 (by decide) rfl ?_
  refine V_aload_n dec_X13_readHeard.1.1.2.1.1.2 1 rfl ?_
  refine V_iconst dec_X13_readHeard.1.1.2.1.2.1 rfl ?_
  refine V_callV0 (ci := 13) (a := a0) (As := [(0, 1)]) (st := []) rfl rfl (X13_readKnown_s G l s4 a0 1) cal_X13_readKnown rfl ml_X13_255 rfl rfl dec_X13_readHeard.1.1.2.1.2.2 (k_tag (tag := 0) rfl fun r5 s6 => ?_)
  refine V_istore_n (lv' := [(2, (0, r5)), (1, (0, r3)), (0, (2, a0))]) dec_X13_readHeard.1.1.2.2.1.1 (by decide) rfl ?_
  refine V_aload_n dec_X13_readHeard.1.1.2.2.1.2 2 rfl ?_
  refine V_ldcSw 32 _ rfl rfl rfl dec_X13_readHeard.1.1.2.2.2.1 ?_
  refine V_callV0 (ci := 13) (a := a0) (As := [(2, (1000000 + ((32 : Nat) : Int)))]) (st := []) rfl rfl (X13_needs_s G l s6 a0 (1000000 + ((32 : Nat) : Int))) cal_X13_needs rfl ml_X13_136 rfl rfl dec_X13_readHeard.1.1.2.2.2.2.1 (k_void rfl fun r7 s8 => ?_)
  refine V_aload_n dec_X13_readHeard.1.1.2.2.2.2.2 2 rfl ?_
  refine V_iconst dec_X13_readHeard.1.2.1.1.1.1 rfl ?_
  refine V_bipush dec_X13_readHeard.1.2.1.1.1.2 rfl ?_
  refine V_callV0 (ci := 13) (a := a0) (As := [(0, 0), (0, 60)]) (st := []) rfl rfl (X13_wholeAt_s G l s8 a0 0 60) cal_X13_wholeAt rfl ml_X13_132 rfl rfl dec_X13_readHeard.1.2.1.1.2.1 (k_tag (tag := 0) rfl fun r9 s10 => ?_)
  refine V_istore_n (lv' := [(3, (0, r9)), (2, (0, r5)), (1, (0, r3)), (0, (2, a0))]) dec_X13_readHeard.1.2.1.1.2.2 (by decide) rfl ?_
  refine V_aload_n dec_X13_readHeard.1.2.1.2.1.1 3 rfl ?_
  refine V_getI 13 9 nf_13_9 ft_13_9 fl_X13_81 dec_X13_readHeard.1.2.1.2.1.2 ?_
  refine V_iconst dec_X13_readHeard.1.2.1.2.2.1 rfl ?_
  refine V_icmp_eq (tgt := 65) dec_X13_readHeard.1.2.1.2.2.2.1 (by decide) ?_ ?_
  · exact V_pick [3, 2, 1, 0] rfl (X13_readHeard_b65_s G l s10 a0 r3 r5 r9)
  · refine V_aload_n dec_X13_readHeard.1.2.1.2.2.2.2 3 rfl ?_
    refine V_getR 13 4 nf_13_4 ft_13_4 fl_X13_155 dec_X13_readHeard.1.2.2.1.1.1 ?_
    refine V_iload_n dec_X13_readHeard.1.2.2.1.1.2 1 rfl ?_
    refine V_iload_n dec_X13_readHeard.1.2.2.1.2.1 0 rfl ?_
    refine V_callV0 (ci := 12) (a := (gR s10 a0 4)) (As := [(0, r5), (0, r9)]) (st := []) rfl rfl (X12_isHeard_s G l s10 (gR s10 a0 4) r5 r9) cal_X12_isHeard rfl ml_X13_284 rfl rfl dec_X13_readHeard.1.2.2.1.2.2.1 (k_tag (tag := 0) rfl fun r17 s18 => ?_)
    refine V_if_eq (tgt := 65) dec_X13_readHeard.1.2.2.1.2.2.2 (by decide) ?_ ?_
    · exact V_pick [3, 2, 1, 0] rfl (X13_readHeard_b65_s G l s18 a0 r3 r5 r9)
    · refine V_aload_n dec_X13_readHeard.1.2.2.2.1.1 3 rfl ?_
      refine V_iconst dec_X13_readHeard.1.2.2.2.1.2 rfl ?_
      refine V_callV0 (ci := 13) (a := a0) (As := [(0, 3)]) (st := []) rfl rfl (X13_flaw_s G l s18 a0 3) cal_X13_flaw rfl ml_X13_124 rfl rfl dec_X13_readHeard.1.2.2.2.2.1 (k_void rfl fun r19 s20 => ?_)
      exact V_pick [3, 2, 1, 0] rfl (X13_readHeard_b65_s G l s20 a0 r3 r5 r9)
theorem dec_X13_readMirror : (((((decode cX13_readMirror 0 = .ok (.aload_n 0, 1) ∧ decode cX13_readMirror 1 = .ok (.iconst 0, 1)) ∧ (decode cX13_readMirror 2 = .ok (.iconst 1, 1) ∧ (decode cX13_readMirror 3 = .ok (.invokevirtual 223, 3) ∧ decode cX13_readMirror 6 = .ok (.aload_n 0, 1)))) ∧ ((decode cX13_readMirror 7 = .ok (.iconst 1, 1) ∧ (decode cX13_readMirror 8 = .ok (.invokevirtual 184, 3) ∧ decode cX13_readMirror 11 = .ok (.istore_n 1, 1))) ∧ (decode cX13_readMirror 12 = .ok (.aload_n 0, 1) ∧ (decode cX13_readMirror 13 = .ok (.getfield 81, 3) ∧ decode cX13_readMirror 16 = .ok (.iconst 5, 1))))) ∧ (((decode cX13_readMirror 17 = .ok (.if_icmp .eq 22, 3) ∧ decode cX13_readMirror 20 = .ok (.aload_n 0, 1)) ∧ (decode cX13_readMirror 21 = .ok (.getfield 155, 3) ∧ (decode cX13_readMirror 24 = .ok (.getfield 266, 3) ∧ decode cX13_readMirror 27 = .ok (.iload_n 1, 1)))) ∧ ((decode cX13_readMirror 28 = .ok (.iaload, 1) ∧ (decode cX13_readMirror 29 = .ok (.bipush (-2), 2) ∧ decode cX13_readMirror 31 = .ok (.if_icmp .eq 8, 3))) ∧ (decode cX13_readMirror 34 = .ok (.aload_n 0, 1) ∧ (decode cX13_readMirror 35 = .ok (.iconst 3, 1) ∧ decode cX13_readMirror 36 = .ok (.invokevirtual 124, 3)))))) ∧ ((((decode cX13_readMirror 39 = .ok (.aload_n 0, 1) ∧ decode cX13_readMirror 40 = .ok (.invokevirtual 117, 3)) ∧ (decode cX13_readMirror 43 = .ok (.aload_n 0, 1) ∧ (decode cX13_readMirror 44 = .ok (.iconst 0, 1) ∧ decode cX13_readMirror 45 = .ok (.aload_n 0, 1)))) ∧ ((decode cX13_readMirror 46 = .ok (.getfield 155, 3) ∧ (decode cX13_readMirror 49 = .ok (.getfield 159, 3) ∧ decode cX13_readMirror 52 = .ok (.iconst 1, 1))) ∧ (decode cX13_readMirror 53 = .ok (.isub, 1) ∧ (decode cX13_readMirror 54 = .ok (.invokevirtual 140, 3) ∧ decode cX13_readMirror 57 = .ok (.istore_n 2, 1))))) ∧ (((decode cX13_readMirror 58 = .ok (.aload_n 0, 1) ∧ decode cX13_readMirror 59 = .ok (.getfield 81, 3)) ∧ (decode cX13_readMirror 62 = .ok (.iconst 5, 1) ∧ (decode cX13_readMirror 63 = .ok (.if_icmp .eq 13, 3) ∧ decode cX13_readMirror 66 = .ok (.aload_n 0, 1)))) ∧ ((decode cX13_readMirror 67 = .ok (.getfield 155, 3) ∧ (decode cX13_readMirror 70 = .ok (.getfield 266, 3) ∧ decode cX13_readMirror 73 = .ok (.iload_n 1, 1))) ∧ (decode cX13_readMirror 74 = .ok (.iload_n 2, 1) ∧ (decode cX13_readMirror 75 = .ok (.iastore, 1) ∧ decode cX13_readMirror 76 = .ok (.return_, 1))))))) := ⟨⟨by decide +kernel, by decide +kernel⟩, ⟨by decide +kernel, by decide +kernel⟩⟩
def X13_readMirror_b76 (s : St) : Rs :=
  some (0, s)
set_option maxRecDepth 100000 in
set_option maxHeartbeats 4000000 in
theorem X13_readMirror_b76_s (G : Gx) (l : Launch) (s : St) : V G l mX13_readMirror 76 [] [] s (X13_readMirror_b76 s) := by
  unfold X13_readMirror_b76
  exact V_vret rfl dec_X13_readMirror.2.2.2.2.2.2
def X13_readMirror_b39 (s : St) (x0 x1 : Int) : Rs :=
  grd (isK s 23 x0) (bnd (X13_goesOn s x0) (fun r5 s6 => grd (isK s6 23 x0) (grd (isK s6 22 (gR s6 x0 4)) (grd (isK s6 23 x0) (bnd (X13_readWhole s6 x0 0 (w32 ((gI s6 (gR s6 x0 4) 0) - 1))) (fun r7 s8 => grd (isK s8 23 x0) (if (gI s8 x0 9) = (5 : Int) then (X13_readMirror_b76 s8) else (grd (isK s8 23 x0) (grd (isK s8 22 (gR s8 x0 4)) (grd (isK s8 1 (gR s8 (gR s8 x0 4) 12) ∧ 0 ≤ x1 ∧ x1 < ln s8 (gR s8 (gR s8 x0 4) 12)) (lets (pI s8 (gR s8 (gR s8 x0 4) 12) x1.toNat r7) (fun s9 => X13_readMirror_b76 s9))))))))))))
set_option maxRecDepth 100000 in
set_option maxHeartbeats 4000000 in
theorem X13_readMirror_b39_s (G : Gx) (l : Launch) (s : St) (x0 x1 : Int) : V G l mX13_readMirror 39 [(0, (2, x0)), (1, (0, x1))] [] s (X13_readMirror_b39 s x0 x1) := by
  unfold X13_readMirror_b39
  refine V_aload_n dec_X13_readMirror.2.1.1.1.1 0 rfl ?_
  refine V_callV0 (ci := 13) (a := x0) (As := []) (st := []) rfl rfl (X13_goesOn_s G l s x0) cal_X13_goesOn rfl ml_X13_117 rfl rfl dec_X13_readMirror.2.1.1.1.2 (k_void rfl fun r5 s6 => ?_)
  refine V_aload_n dec_X13_readMirror.2.1.1.2.1 0 rfl ?_
  refine V_iconst dec_X13_readMirror.2.1.1.2.2.1 rfl ?_
  refine V_aload_n dec_X13_readMirror.2.1.1.2.2.2 0 rfl ?_
  refine V_getR 13 4 nf_13_4 ft_13_4 fl_X13_155 dec_X13_readMirror.2.1.2.1.1 ?_
  refine V_getIN RX13 12 0 nf_12_0 ft_12_0 fl_X13_159 dec_X13_readMirror.2.1.2.1.2.1 ?_
  refine V_iconst dec_X13_readMirror.2.1.2.1.2.2 rfl ?_
  refine V_isub dec_X13_readMirror.2.1.2.2.1 ?_
  refine V_callV0 (ci := 13) (a := x0) (As := [(0, 0), (0, (w32 ((gI s6 (gR s6 x0 4) 0) - 1)))]) (st := []) rfl rfl (X13_readWhole_s G l s6 x0 0 (w32 ((gI s6 (gR s6 x0 4) 0) - 1))) cal_X13_readWhole rfl ml_X13_140 rfl rfl dec_X13_readMirror.2.1.2.2.2.1 (k_tag (tag := 0) rfl fun r7 s8 => ?_)
  refine V_istore_n (lv' := [(2, (0, r7)), (0, (2, x0)), (1, (0, x1))]) dec_X13_readMirror.2.1.2.2.2.2 (by decide) rfl ?_
  refine V_aload_n dec_X13_readMirror.2.2.1.1.1 1 rfl ?_
  refine V_getI 13 9 nf_13_9 ft_13_9 fl_X13_81 dec_X13_readMirror.2.2.1.1.2 ?_
  refine V_iconst dec_X13_readMirror.2.2.1.2.1 rfl ?_
  refine V_icmp_eq (tgt := 76) dec_X13_readMirror.2.2.1.2.2.1 (by decide) ?_ ?_
  · exact V_pick [] rfl (X13_readMirror_b76_s G l s8)
  · refine V_aload_n dec_X13_readMirror.2.2.1.2.2.2 1 rfl ?_
    refine V_getR 13 4 nf_13_4 ft_13_4 fl_X13_155 dec_X13_readMirror.2.2.2.1.1 ?_
    refine V_getRN RX13 12 12 nf_12_12 ft_12_12 fl_X13_266 dec_X13_readMirror.2.2.2.1.2.1 ?_
    refine V_iload_n dec_X13_readMirror.2.2.2.1.2.2 2 rfl ?_
    refine V_iload_n dec_X13_readMirror.2.2.2.2.1 0 rfl ?_
    refine V_iast dec_X13_readMirror.2.2.2.2.2.1 ?_
    refine V_lets fun s9 => ?_
    exact V_pick [] rfl (X13_readMirror_b76_s G l s9)
def X13_readMirror (s : St) (a0 : Int) : Rs :=
  grd (isK s 23 a0) (bnd (X13_lineBegins s a0 0 1) (fun r1 s2 => grd (isK s2 23 a0) (bnd (X13_knownOne s2 a0 1) (fun r3 s4 => grd (isK s4 23 a0) (if (gI s4 a0 9) = (5 : Int) then (X13_readMirror_b39 s4 a0 r3) else (grd (isK s4 23 a0) (grd (isK s4 22 (gR s4 a0 4)) (grd (isK s4 1 (gR s4 (gR s4 a0 4) 12) ∧ 0 ≤ r3 ∧ r3 < ln s4 (gR s4 (gR s4 a0 4) 12)) (if (gI s4 (gR s4 (gR s4 a0 4) 12) r3.toNat) = ((-2) : Int) then (X13_readMirror_b39 s4 a0 r3) else (grd (isK s4 23 a0) (bnd (X13_flaw s4 a0 3) (fun r10 s11 => X13_readMirror_b39 s11 a0 r3))))))))))))
set_option maxRecDepth 100000 in
set_option maxHeartbeats 4000000 in
theorem X13_readMirror_s (G : Gx) (l : Launch) (s : St) (a0 : Int) : Snd G l mX13_readMirror [(2, a0)] s (X13_readMirror s a0) := by
  refine Snd.of (by decide +kernel) rfl ?_
  show V G l mX13_readMirror 0 [(0, (2, a0))] [] s _
  unfold X13_readMirror
  refine V_aload_n dec_X13_readMirror.1.1.1.1.1 0 rfl ?_
  refine V_iconst dec_X13_readMirror.1.1.1.1.2 rfl ?_
  refine V_iconst dec_X13_readMirror.1.1.1.2.1 rfl ?_
  refine V_callV0 (ci := 13) (a := a0) (As := [(0, 0), (0, 1)]) (st := []) rfl rfl (X13_lineBegins_s G l s a0 0 1) cal_X13_lineBegins rfl ml_X13_223 rfl rfl dec_X13_readMirror.1.1.1.2.2.1 (k_void rfl fun r1 s2 => ?_)
  refine V_aload_n dec_X13_readMirror.1.1.1.2.2.2 0 rfl ?_
  refine V_iconst dec_X13_readMirror.1.1.2.1.1 rfl ?_
  refine V_callV0 (ci := 13) (a := a0) (As := [(0, 1)]) (st := []) rfl rfl (X13_knownOne_s G l s2 a0 1) cal_X13_knownOne rfl ml_X13_184 rfl rfl dec_X13_readMirror.1.1.2.1.2.1 (k_tag (tag := 0) rfl fun r3 s4 => ?_)
  refine V_istore_n (lv' := [(1, (0, r3)), (0, (2, a0))]) dec_X13_readMirror.1.1.2.1.2.2 (by decide) rfl ?_
  refine V_aload_n dec_X13_readMirror.1.1.2.2.1 1 rfl ?_
  refine V_getI 13 9 nf_13_9 ft_13_9 fl_X13_81 dec_X13_readMirror.1.1.2.2.2.1 ?_
  refine V_iconst dec_X13_readMirror.1.1.2.2.2.2 rfl ?_
  refine V_icmp_eq (tgt := 39) dec_X13_readMirror.1.2.1.1.1 (by decide) ?_ ?_
  · exact V_pick [1, 0] rfl (X13_readMirror_b39_s G l s4 a0 r3)
  · refine V_aload_n dec_X13_readMirror.1.2.1.1.2 1 rfl ?_
    refine V_getR 13 4 nf_13_4 ft_13_4 fl_X13_155 dec_X13_readMirror.1.2.1.2.1 ?_
    refine V_getRN RX13 12 12 nf_12_12 ft_12_12 fl_X13_266 dec_X13_readMirror.1.2.1.2.2.1 ?_
    refine V_iload_n dec_X13_readMirror.1.2.1.2.2.2 0 rfl ?_
    refine V_iald dec_X13_readMirror.1.2.2.1.1 ?_
    refine V_bipush dec_X13_readMirror.1.2.2.1.2.1 rfl ?_
    refine V_icmp_eq (tgt := 39) dec_X13_readMirror.1.2.2.1.2.2 (by decide) ?_ ?_
    · exact V_pick [1, 0] rfl (X13_readMirror_b39_s G l s4 a0 r3)
    · refine V_aload_n dec_X13_readMirror.1.2.2.2.1 1 rfl ?_
      refine V_iconst dec_X13_readMirror.1.2.2.2.2.1 rfl ?_
      refine V_callV0 (ci := 13) (a := a0) (As := [(0, 3)]) (st := []) rfl rfl (X13_flaw_s G l s4 a0 3) cal_X13_flaw rfl ml_X13_124 rfl rfl dec_X13_readMirror.1.2.2.2.2.2 (k_void rfl fun r10 s11 => ?_)
      exact V_pick [1, 0] rfl (X13_readMirror_b39_s G l s11 a0 r3)
theorem dec_X13_readPerson : (((((decode cX13_readPerson 0 = .ok (.aload_n 0, 1) ∧ (decode cX13_readPerson 1 = .ok (.aload_n 0, 1) ∧ decode cX13_readPerson 2 = .ok (.getfield 155, 3))) ∧ ((decode cX13_readPerson 5 = .ok (.getfield 193, 3) ∧ decode cX13_readPerson 8 = .ok (.bipush 6, 2)) ∧ (decode cX13_readPerson 10 = .ok (.invokevirtual 223, 3) ∧ decode cX13_readPerson 13 = .ok (.aload_n 0, 1)))) ∧ (((decode cX13_readPerson 14 = .ok (.invokevirtual 227, 3) ∧ decode cX13_readPerson 17 = .ok (.lstore_n 1, 1)) ∧ (decode cX13_readPerson 18 = .ok (.aload_n 0, 1) ∧ decode cX13_readPerson 19 = .ok (.ldc 231, 2))) ∧ ((decode cX13_readPerson 21 = .ok (.invokevirtual 136, 3) ∧ decode cX13_readPerson 24 = .ok (.aload_n 0, 1)) ∧ (decode cX13_readPerson 25 = .ok (.iconst 0, 1) ∧ decode cX13_readPerson 26 = .ok (.aload_n 0, 1))))) ∧ ((((decode cX13_readPerson 27 = .ok (.getfield 155, 3) ∧ decode cX13_readPerson 30 = .ok (.getfield 159, 3)) ∧ (decode cX13_readPerson 33 = .ok (.iconst 1, 1) ∧ decode cX13_readPerson 34 = .ok (.isub, 1))) ∧ ((decode cX13_readPerson 35 = .ok (.invokevirtual 132, 3) ∧ decode cX13_readPerson 38 = .ok (.istore_n 3, 1)) ∧ (decode cX13_readPerson 39 = .ok (.aload_n 0, 1) ∧ decode cX13_readPerson 40 = .ok (.getfield 81, 3)))) ∧ (((decode cX13_readPerson 43 = .ok (.iconst 5, 1) ∧ decode cX13_readPerson 44 = .ok (.if_icmp .eq 19, 3)) ∧ (decode cX13_readPerson 47 = .ok (.aload_n 0, 1) ∧ decode cX13_readPerson 48 = .ok (.getfield 155, 3))) ∧ ((decode cX13_readPerson 51 = .ok (.iload_n 3, 1) ∧ decode cX13_readPerson 52 = .ok (.invokevirtual 233, 3)) ∧ (decode cX13_readPerson 55 = .ok (.ifCond .eq 8, 3) ∧ decode cX13_readPerson 58 = .ok (.aload_n 0, 1)))))) ∧ (((((decode cX13_readPerson 59 = .ok (.iconst 3, 1) ∧ decode cX13_readPerson 60 = .ok (.invokevirtual 124, 3)) ∧ (decode cX13_readPerson 63 = .ok (.aload_n 0, 1) ∧ decode cX13_readPerson 64 = .ok (.invokevirtual 117, 3))) ∧ ((decode cX13_readPerson 67 = .ok (.aload_n 0, 1) ∧ decode cX13_readPerson 68 = .ok (.getfield 81, 3)) ∧ (decode cX13_readPerson 71 = .ok (.iconst 5, 1) ∧ decode cX13_readPerson 72 = .ok (.if_icmp .ne 4, 3)))) ∧ (((decode cX13_readPerson 75 = .ok (.return_, 1) ∧ decode cX13_readPerson 76 = .ok (.aload_n 0, 1)) ∧ (decode cX13_readPerson 77 = .ok (.lload_n 1, 1) ∧ decode cX13_readPerson 78 = .ok (.iconst 0, 1))) ∧ ((decode cX13_readPerson 79 = .ok (.aload_n 0, 1) ∧ decode cX13_readPerson 80 = .ok (.getfield 155, 3)) ∧ (decode cX13_readPerson 83 = .ok (.getfield 193, 3) ∧ decode cX13_readPerson 86 = .ok (.invokevirtual 236, 3))))) ∧ ((((decode cX13_readPerson 89 = .ok (.aload_n 0, 1) ∧ decode cX13_readPerson 90 = .ok (.getfield 155, 3)) ∧ (decode cX13_readPerson 93 = .ok (.getfield 239, 3) ∧ decode cX13_readPerson 96 = .ok (.aload_n 0, 1))) ∧ ((decode cX13_readPerson 97 = .ok (.getfield 155, 3) ∧ decode cX13_readPerson 100 = .ok (.getfield 193, 3)) ∧ (decode cX13_readPerson 103 = .ok (.iload_n 3, 1) ∧ decode cX13_readPerson 104 = .ok (.iastore, 1)))) ∧ (((decode cX13_readPerson 105 = .ok (.aload_n 0, 1) ∧ decode cX13_readPerson 106 = .ok (.getfield 155, 3)) ∧ (decode cX13_readPerson 109 = .ok (.dup, 1) ∧ decode cX13_readPerson 110 = .ok (.getfield 193, 3))) ∧ ((decode cX13_readPerson 113 = .ok (.iconst 1, 1) ∧ decode cX13_readPerson 114 = .ok (.iadd, 1)) ∧ (decode cX13_readPerson 115 = .ok (.putfield 193, 3) ∧ decode cX13_readPerson 118 = .ok (.return_, 1))))))) := ⟨⟨⟨by decide +kernel, by decide +kernel⟩, ⟨by decide +kernel, by decide +kernel⟩⟩, ⟨⟨by decide +kernel, by decide +kernel⟩, ⟨by decide +kernel, by decide +kernel⟩⟩⟩
def X13_readPerson_b63 (s : St) (x0 x1 x3 : Int) : Rs :=
  grd (isK s 23 x0) (bnd (X13_goesOn s x0) (fun r9 s10 => grd (isK s10 23 x0) (if ¬ (gI s10 x0 9) = (5 : Int) then (grd (isK s10 23 x0) (grd (isK s10 22 (gR s10 x0 4)) (grd (isK s10 23 x0) (bnd (X13_names s10 x0 x1 0 (gI s10 (gR s10 x0 4) 2)) (fun r11 s12 => grd (isK s12 23 x0) (grd (isK s12 22 (gR s12 x0 4)) (grd (isK s12 23 x0) (grd (isK s12 22 (gR s12 x0 4)) (grd (isK s12 1 (gR s12 (gR s12 x0 4) 8) ∧ 0 ≤ (gI s12 (gR s12 x0 4) 2) ∧ (gI s12 (gR s12 x0 4) 2) < ln s12 (gR s12 (gR s12 x0 4) 8)) (lets (pI s12 (gR s12 (gR s12 x0 4) 8) (gI s12 (gR s12 x0 4) 2).toNat x3) (fun s13 => grd (isK s13 23 x0) (grd (isK s13 22 (gR s13 x0 4)) (grd (isK s13 22 (gR s13 x0 4)) (lets (pI s13 (gR s13 x0 4) 2 (w32 ((gI s13 (gR s13 x0 4) 2) + 1))) (fun s14 => some (0, s14)))))))))))))))) else (some (0, s10)))))
set_option maxRecDepth 100000 in
set_option maxHeartbeats 4000000 in
theorem X13_readPerson_b63_s (G : Gx) (l : Launch) (s : St) (x0 x1 x3 : Int) : V G l mX13_readPerson 63 [(0, (2, x0)), (1, (1, x1)), (3, (0, x3))] [] s (X13_readPerson_b63 s x0 x1 x3) := by
  unfold X13_readPerson_b63
  refine V_aload_n dec_X13_readPerson.2.1.1.1.2.1 0 rfl ?_
  refine V_callV0 (ci := 13) (a := x0) (As := []) (st := []) rfl rfl (X13_goesOn_s G l s x0) cal_X13_goesOn rfl ml_X13_117 rfl rfl dec_X13_readPerson.2.1.1.1.2.2 (k_void rfl fun r9 s10 => ?_)
  refine V_aload_n dec_X13_readPerson.2.1.1.2.1.1 0 rfl ?_
  refine V_getI 13 9 nf_13_9 ft_13_9 fl_X13_81 dec_X13_readPerson.2.1.1.2.1.2 ?_
  refine V_iconst dec_X13_readPerson.2.1.1.2.2.1 rfl ?_
  refine V_icmp_ne (tgt := 76) dec_X13_readPerson.2.1.1.2.2.2 (by decide) ?_ ?_
  · refine V_aload_n dec_X13_readPerson.2.1.2.1.1.2 0 rfl ?_
    refine V_lload_n dec_X13_readPerson.2.1.2.1.2.1 1 rfl ?_
    refine V_iconst dec_X13_readPerson.2.1.2.1.2.2 rfl ?_
    refine V_aload_n dec_X13_readPerson.2.1.2.2.1.1 0 rfl ?_
    refine V_getR 13 4 nf_13_4 ft_13_4 fl_X13_155 dec_X13_readPerson.2.1.2.2.1.2 ?_
    refine V_getIN RX13 12 2 nf_12_2 ft_12_2 fl_X13_193 dec_X13_readPerson.2.1.2.2.2.1 ?_
    refine V_callV0 (ci := 13) (a := x0) (As := [(1, x1), (0, 0), (0, (gI s10 (gR s10 x0 4) 2))]) (st := []) rfl rfl (X13_names_s G l s10 x0 x1 0 (gI s10 (gR s10 x0 4) 2)) cal_X13_names rfl ml_X13_236 rfl rfl dec_X13_readPerson.2.1.2.2.2.2 (k_void rfl fun r11 s12 => ?_)
    refine V_aload_n dec_X13_readPerson.2.2.1.1.1.1 0 rfl ?_
    refine V_getR 13 4 nf_13_4 ft_13_4 fl_X13_155 dec_X13_readPerson.2.2.1.1.1.2 ?_
    refine V_getRN RX13 12 8 nf_12_8 ft_12_8 fl_X13_239 dec_X13_readPerson.2.2.1.1.2.1 ?_
    refine V_aload_n dec_X13_readPerson.2.2.1.1.2.2 0 rfl ?_
    refine V_getR 13 4 nf_13_4 ft_13_4 fl_X13_155 dec_X13_readPerson.2.2.1.2.1.1 ?_
    refine V_getIN RX13 12 2 nf_12_2 ft_12_2 fl_X13_193 dec_X13_readPerson.2.2.1.2.1.2 ?_
    refine V_iload_n dec_X13_readPerson.2.2.1.2.2.1 2 rfl ?_
    refine V_iast dec_X13_readPerson.2.2.1.2.2.2 ?_
    refine V_lets fun s13 => ?_
    refine V_aload_n dec_X13_readPerson.2.2.2.1.1.1 0 rfl ?_
    refine V_getR 13 4 nf_13_4 ft_13_4 fl_X13_155 dec_X13_readPerson.2.2.2.1.1.2 ?_
    refine V_dup (nl2 _) dec_X13_readPerson.2.2.2.1.2.1 ?_
    refine V_getIN RX13 12 2 nf_12_2 ft_12_2 fl_X13_193 dec_X13_readPerson.2.2.2.1.2.2 ?_
    refine V_iconst dec_X13_readPerson.2.2.2.2.1.1 rfl ?_
    refine V_iadd dec_X13_readPerson.2.2.2.2.1.2 ?_
    refine V_putI (host := RX13) 12 2 nf_12_2 ty_12_2 (Or.inr ⟨fl_X13_193, rfl⟩) dec_X13_readPerson.2.2.2.2.2.1 ?_
    refine V_lets fun s14 => ?_
    exact V_vret rfl dec_X13_readPerson.2.2.2.2.2.2
  · exact V_vret rfl dec_X13_readPerson.2.1.2.1.1.1
def X13_readPerson (s : St) (a0 : Int) : Rs :=
  grd (isK s 23 a0) (grd (isK s 22 (gR s a0 4)) (grd (isK s 23 a0) (bnd (X13_lineBegins s a0 (gI s (gR s a0 4) 2) 6) (fun r1 s2 => grd (isK s2 23 a0) (bnd (X13_readFresh s2 a0) (fun r3 s4 => grd (isK s4 23 a0) (bnd (X13_needs s4 a0 (1000000 + ((25 : Nat) : Int))) (fun r5 s6 => grd (isK s6 23 a0) (grd (isK s6 22 (gR s6 a0 4)) (grd (isK s6 23 a0) (bnd (X13_wholeAt s6 a0 0 (w32 ((gI s6 (gR s6 a0 4) 0) - 1))) (fun r7 s8 => grd (isK s8 23 a0) (if (gI s8 a0 9) = (5 : Int) then (X13_readPerson_b63 s8 a0 r3 r7) else (grd (isK s8 23 a0) (grd (isK s8 22 (gR s8 a0 4)) (bnd (X12_isTaken s8 (gR s8 a0 4) r7) (fun r15 s16 => if r15 = 0 then (X13_readPerson_b63 s16 a0 r3 r7) else (grd (isK s16 23 a0) (bnd (X13_flaw s16 a0 3) (fun r17 s18 => X13_readPerson_b63 s18 a0 r3 r7))))))))))))))))))))
set_option maxRecDepth 100000 in
set_option maxHeartbeats 4000000 in
theorem X13_readPerson_s (G : Gx) (l : Launch) (s : St) (a0 : Int) : Snd G l mX13_readPerson [(2, a0)] s (X13_readPerson s a0) := by
  refine Snd.of (by decide +kernel) rfl ?_
  show V G l mX13_readPerson 0 [(0, (2, a0))] [] s _
  unfold X13_readPerson
  refine V_aload_n dec_X13_readPerson.1.1.1.1.1 0 rfl ?_
  refine V_aload_n dec_X13_readPerson.1.1.1.1.2.1 0 rfl ?_
  refine V_getR 13 4 nf_13_4 ft_13_4 fl_X13_155 dec_X13_readPerson.1.1.1.1.2.2 ?_
  refine V_getIN RX13 12 2 nf_12_2 ft_12_2 fl_X13_193 dec_X13_readPerson.1.1.1.2.1.1 ?_
  refine V_bipush dec_X13_readPerson.1.1.1.2.1.2 rfl ?_
  refine V_callV0 (ci := 13) (a := a0) (As := [(0, (gI s (gR s a0 4) 2)), (0, 6)]) (st := []) rfl rfl (X13_lineBegins_s G l s a0 (gI s (gR s a0 4) 2) 6) cal_X13_lineBegins rfl ml_X13_223 rfl rfl dec_X13_readPerson.1.1.1.2.2.1 (k_void rfl fun r1 s2 => ?_)
  refine V_aload_n dec_X13_readPerson.1.1.1.2.2.2 0 rfl ?_
  refine V_callV0 (ci := 13) (a := a0) (As := []) (st := []) rfl rfl (X13_readFresh_s G l s2 a0) cal_X13_readFresh rfl ml_X13_227 rfl rfl dec_X13_readPerson.1.1.2.1.1.1 (k_tag (tag := 1) rfl fun r3 s4 => ?_)
  refine V_lstore_n (lv' := [(1, (1, r3)), (0, (2, a0))]) dec_X13_readPerson.1.1.2.1.1.2 (by decide) rfl ?_
  refine V_aload_n dec_X13_readPerson.1.1.2.1.2.1 1 rfl ?_
  refine V_ldcS 25 _ rfl rfl rfl dec_X13_readPerson.1.1.2.1.2.2 ?_
  refine V_callV0 (ci := 13) (a := a0) (As := [(2, (1000000 + ((25 : Nat) : Int)))]) (st := []) rfl rfl (X13_needs_s G l s4 a0 (1000000 + ((25 : Nat) : Int))) cal_X13_needs rfl ml_X13_136 rfl rfl dec_X13_readPerson.1.1.2.2.1.1 (k_void rfl fun r5 s6 => ?_)
  refine V_aload_n dec_X13_readPerson.1.1.2.2.1.2 1 rfl ?_
  refine V_iconst dec_X13_readPerson.1.1.2.2.2.1 rfl ?_
  refine V_aload_n dec_X13_readPerson.1.1.2.2.2.2 1 rfl ?_
  refine V_getR 13 4 nf_13_4 ft_13_4 fl_X13_155 dec_X13_readPerson.1.2.1.1.1.1 ?_
  refine V_getIN RX13 12 0 nf_12_0 ft_12_0 fl_X13_159 dec_X13_readPerson.1.2.1.1.1.2 ?_
  refine V_iconst dec_X13_readPerson.1.2.1.1.2.1 rfl ?_
  refine V_isub dec_X13_readPerson.1.2.1.1.2.2 ?_
  refine V_callV0 (ci := 13) (a := a0) (As := [(0, 0), (0, (w32 ((gI s6 (gR s6 a0 4) 0) - 1)))]) (st := []) rfl rfl (X13_wholeAt_s G l s6 a0 0 (w32 ((gI s6 (gR s6 a0 4) 0) - 1))) cal_X13_wholeAt rfl ml_X13_132 rfl rfl dec_X13_readPerson.1.2.1.2.1.1 (k_tag (tag := 0) rfl fun r7 s8 => ?_)
  refine V_istore_n (lv' := [(3, (0, r7)), (1, (1, r3)), (0, (2, a0))]) dec_X13_readPerson.1.2.1.2.1.2 (by decide) rfl ?_
  refine V_aload_n dec_X13_readPerson.1.2.1.2.2.1 2 rfl ?_
  refine V_getI 13 9 nf_13_9 ft_13_9 fl_X13_81 dec_X13_readPerson.1.2.1.2.2.2 ?_
  refine V_iconst dec_X13_readPerson.1.2.2.1.1.1 rfl ?_
  refine V_icmp_eq (tgt := 63) dec_X13_readPerson.1.2.2.1.1.2 (by decide) ?_ ?_
  · exact V_pick [2, 1, 0] rfl (X13_readPerson_b63_s G l s8 a0 r3 r7)
  · refine V_aload_n dec_X13_readPerson.1.2.2.1.2.1 2 rfl ?_
    refine V_getR 13 4 nf_13_4 ft_13_4 fl_X13_155 dec_X13_readPerson.1.2.2.1.2.2 ?_
    refine V_iload_n dec_X13_readPerson.1.2.2.2.1.1 0 rfl ?_
    refine V_callV0 (ci := 12) (a := (gR s8 a0 4)) (As := [(0, r7)]) (st := []) rfl rfl (X12_isTaken_s G l s8 (gR s8 a0 4) r7) cal_X12_isTaken rfl ml_X13_233 rfl rfl dec_X13_readPerson.1.2.2.2.1.2 (k_tag (tag := 0) rfl fun r15 s16 => ?_)
    refine V_if_eq (tgt := 63) dec_X13_readPerson.1.2.2.2.2.1 (by decide) ?_ ?_
    · exact V_pick [2, 1, 0] rfl (X13_readPerson_b63_s G l s16 a0 r3 r7)
    · refine V_aload_n dec_X13_readPerson.1.2.2.2.2.2 2 rfl ?_
      refine V_iconst dec_X13_readPerson.2.1.1.1.1.1 rfl ?_
      refine V_callV0 (ci := 13) (a := a0) (As := [(0, 3)]) (st := []) rfl rfl (X13_flaw_s G l s16 a0 3) cal_X13_flaw rfl ml_X13_124 rfl rfl dec_X13_readPerson.2.1.1.1.1.2 (k_void rfl fun r17 s18 => ?_)
      exact V_pick [2, 1, 0] rfl (X13_readPerson_b63_s G l s18 a0 r3 r7)
theorem dec_X13_readTown : (((((decode cX13_readTown 0 = .ok (.aload_n 0, 1) ∧ decode cX13_readTown 1 = .ok (.getfield 155, 3)) ∧ (decode cX13_readTown 4 = .ok (.getfield 159, 3) ∧ decode cX13_readTown 7 = .ok (.ifCond .le 8, 3))) ∧ ((decode cX13_readTown 10 = .ok (.aload_n 0, 1) ∧ decode cX13_readTown 11 = .ok (.iconst 3, 1)) ∧ (decode cX13_readTown 12 = .ok (.invokevirtual 124, 3) ∧ decode cX13_readTown 15 = .ok (.aload_n 0, 1)))) ∧ (((decode cX13_readTown 16 = .ok (.invokevirtual 117, 3) ∧ decode cX13_readTown 19 = .ok (.aload_n 0, 1)) ∧ (decode cX13_readTown 20 = .ok (.ldc 214, 2) ∧ decode cX13_readTown 22 = .ok (.iconst 2, 1))) ∧ ((decode cX13_readTown 23 = .ok (.bipush 40, 2) ∧ decode cX13_readTown 25 = .ok (.invokevirtual 215, 3)) ∧ (decode cX13_readTown 28 = .ok (.istore_n 1, 1) ∧ (decode cX13_readTown 29 = .ok (.aload_n 0, 1) ∧ decode cX13_readTown 30 = .ok (.ldc 219, 2)))))) ∧ ((((decode cX13_readTown 32 = .ok (.iconst 0, 1) ∧ decode cX13_readTown 33 = .ok (.bipush 100, 2)) ∧ (decode cX13_readTown 35 = .ok (.invokevirtual 215, 3) ∧ decode cX13_readTown 38 = .ok (.istore_n 2, 1))) ∧ ((decode cX13_readTown 39 = .ok (.aload_n 0, 1) ∧ decode cX13_readTown 40 = .ok (.getfield 81, 3)) ∧ (decode cX13_readTown 43 = .ok (.iconst 5, 1) ∧ (decode cX13_readTown 44 = .ok (.if_icmp .ne 4, 3) ∧ decode cX13_readTown 47 = .ok (.return_, 1))))) ∧ (((decode cX13_readTown 48 = .ok (.aload_n 0, 1) ∧ decode cX13_readTown 49 = .ok (.getfield 155, 3)) ∧ (decode cX13_readTown 52 = .ok (.iload_n 1, 1) ∧ decode cX13_readTown 53 = .ok (.putfield 159, 3))) ∧ ((decode cX13_readTown 56 = .ok (.aload_n 0, 1) ∧ decode cX13_readTown 57 = .ok (.getfield 155, 3)) ∧ (decode cX13_readTown 60 = .ok (.iload_n 2, 1) ∧ (decode cX13_readTown 61 = .ok (.putfield 221, 3) ∧ decode cX13_readTown 64 = .ok (.return_, 1))))))) := ⟨⟨by decide +kernel, by decide +kernel⟩, ⟨by decide +kernel, by decide +kernel⟩⟩
def X13_readTown_b15 (s : St) (x0 : Int) : Rs :=
  grd (isK s 23 x0) (bnd (X13_goesOn s x0) (fun r1 s2 => grd (isK s2 23 x0) (bnd (X13_readPart s2 x0 (1000000 + ((18 : Nat) : Int)) 2 40) (fun r3 s4 => grd (isK s4 23 x0) (bnd (X13_readPart s4 x0 (1000000 + ((19 : Nat) : Int)) 0 100) (fun r5 s6 => grd (isK s6 23 x0) (if ¬ (gI s6 x0 9) = (5 : Int) then (grd (isK s6 23 x0) (grd (isK s6 22 (gR s6 x0 4)) (lets (pI s6 (gR s6 x0 4) 0 r3) (fun s7 => grd (isK s7 23 x0) (grd (isK s7 22 (gR s7 x0 4)) (lets (pI s7 (gR s7 x0 4) 1 r5) (fun s8 => some (0, s8)))))))) else (some (0, s6)))))))))
set_option maxRecDepth 100000 in
set_option maxHeartbeats 4000000 in
theorem X13_readTown_b15_s (G : Gx) (l : Launch) (s : St) (x0 : Int) : V G l mX13_readTown 15 [(0, (2, x0))] [] s (X13_readTown_b15 s x0) := by
  unfold X13_readTown_b15
  refine V_aload_n dec_X13_readTown.1.1.2.2.2 0 rfl ?_
  refine V_callV0 (ci := 13) (a := x0) (As := []) (st := []) rfl rfl (X13_goesOn_s G l s x0) cal_X13_goesOn rfl ml_X13_117 rfl rfl dec_X13_readTown.1.2.1.1.1 (k_void rfl fun r1 s2 => ?_)
  refine V_aload_n dec_X13_readTown.1.2.1.1.2 0 rfl ?_
  refine V_ldcS 18 _ rfl rfl rfl dec_X13_readTown.1.2.1.2.1 ?_
  refine V_iconst dec_X13_readTown.1.2.1.2.2 rfl ?_
  refine V_bipush dec_X13_readTown.1.2.2.1.1 rfl ?_
  refine V_callV0 (ci := 13) (a := x0) (As := [(2, (1000000 + ((18 : Nat) : Int))), (0, 2), (0, 40)]) (st := []) rfl rfl (X13_readPart_s G l s2 x0 (1000000 + ((18 : Nat) : Int)) 2 40) cal_X13_readPart rfl ml_X13_215 rfl rfl dec_X13_readTown.1.2.2.1.2 (k_tag (tag := 0) rfl fun r3 s4 => ?_)
  refine V_istore_n (lv' := [(1, (0, r3)), (0, (2, x0))]) dec_X13_readTown.1.2.2.2.1 (by decide) rfl ?_
  refine V_aload_n dec_X13_readTown.1.2.2.2.2.1 1 rfl ?_
  refine V_ldcS 19 _ rfl rfl rfl dec_X13_readTown.1.2.2.2.2.2 ?_
  refine V_iconst dec_X13_readTown.2.1.1.1.1 rfl ?_
  refine V_bipush dec_X13_readTown.2.1.1.1.2 rfl ?_
  refine V_callV0 (ci := 13) (a := x0) (As := [(2, (1000000 + ((19 : Nat) : Int))), (0, 0), (0, 100)]) (st := []) rfl rfl (X13_readPart_s G l s4 x0 (1000000 + ((19 : Nat) : Int)) 0 100) cal_X13_readPart rfl ml_X13_215 rfl rfl dec_X13_readTown.2.1.1.2.1 (k_tag (tag := 0) rfl fun r5 s6 => ?_)
  refine V_istore_n (lv' := [(2, (0, r5)), (1, (0, r3)), (0, (2, x0))]) dec_X13_readTown.2.1.1.2.2 (by decide) rfl ?_
  refine V_aload_n dec_X13_readTown.2.1.2.1.1 2 rfl ?_
  refine V_getI 13 9 nf_13_9 ft_13_9 fl_X13_81 dec_X13_readTown.2.1.2.1.2 ?_
  refine V_iconst dec_X13_readTown.2.1.2.2.1 rfl ?_
  refine V_icmp_ne (tgt := 48) dec_X13_readTown.2.1.2.2.2.1 (by decide) ?_ ?_
  · refine V_aload_n dec_X13_readTown.2.2.1.1.1 2 rfl ?_
    refine V_getR 13 4 nf_13_4 ft_13_4 fl_X13_155 dec_X13_readTown.2.2.1.1.2 ?_
    refine V_iload_n dec_X13_readTown.2.2.1.2.1 1 rfl ?_
    refine V_putI (host := RX13) 12 0 nf_12_0 ty_12_0 (Or.inr ⟨fl_X13_159, rfl⟩) dec_X13_readTown.2.2.1.2.2 ?_
    refine V_lets fun s7 => ?_
    refine V_aload_n dec_X13_readTown.2.2.2.1.1 2 rfl ?_
    refine V_getR 13 4 nf_13_4 ft_13_4 fl_X13_155 dec_X13_readTown.2.2.2.1.2 ?_
    refine V_iload_n dec_X13_readTown.2.2.2.2.1 0 rfl ?_
    refine V_putI (host := RX13) 12 1 nf_12_1 ty_12_1 (Or.inr ⟨fl_X13_221, rfl⟩) dec_X13_readTown.2.2.2.2.2.1 ?_
    refine V_lets fun s8 => ?_
    exact V_vret rfl dec_X13_readTown.2.2.2.2.2.2
  · exact V_vret rfl dec_X13_readTown.2.1.2.2.2.2
def X13_readTown (s : St) (a0 : Int) : Rs :=
  grd (isK s 23 a0) (grd (isK s 22 (gR s a0 4)) (if (gI s (gR s a0 4) 0) ≤ 0 then (X13_readTown_b15 s a0) else (grd (isK s 23 a0) (bnd (X13_flaw s a0 3) (fun r9 s10 => X13_readTown_b15 s10 a0)))))
set_option maxRecDepth 100000 in
set_option maxHeartbeats 4000000 in
theorem X13_readTown_s (G : Gx) (l : Launch) (s : St) (a0 : Int) : Snd G l mX13_readTown [(2, a0)] s (X13_readTown s a0) := by
  refine Snd.of (by decide +kernel) rfl ?_
  show V G l mX13_readTown 0 [(0, (2, a0))] [] s _
  unfold X13_readTown
  refine V_aload_n dec_X13_readTown.1.1.1.1.1 0 rfl ?_
  refine V_getR 13 4 nf_13_4 ft_13_4 fl_X13_155 dec_X13_readTown.1.1.1.1.2 ?_
  refine V_getIN RX13 12 0 nf_12_0 ft_12_0 fl_X13_159 dec_X13_readTown.1.1.1.2.1 ?_
  refine V_if_le (tgt := 15) dec_X13_readTown.1.1.1.2.2 (by decide) ?_ ?_
  · exact V_pick [0] rfl (X13_readTown_b15_s G l s a0)
  · refine V_aload_n dec_X13_readTown.1.1.2.1.1 0 rfl ?_
    refine V_iconst dec_X13_readTown.1.1.2.1.2 rfl ?_
    refine V_callV0 (ci := 13) (a := a0) (As := [(0, 3)]) (st := []) rfl rfl (X13_flaw_s G l s a0 3) cal_X13_flaw rfl ml_X13_124 rfl rfl dec_X13_readTown.1.1.2.2.1 (k_void rfl fun r9 s10 => ?_)
    exact V_pick [0] rfl (X13_readTown_b15_s G l s10 a0)
theorem dec_X13_readUnsure : (((((decode cX13_readUnsure 0 = .ok (.aload_n 0, 1) ∧ (decode cX13_readUnsure 1 = .ok (.aload_n 0, 1) ∧ decode cX13_readUnsure 2 = .ok (.getfield 155, 3))) ∧ ((decode cX13_readUnsure 5 = .ok (.getfield 268, 3) ∧ decode cX13_readUnsure 8 = .ok (.iconst 4, 1)) ∧ (decode cX13_readUnsure 9 = .ok (.invokevirtual 223, 3) ∧ decode cX13_readUnsure 12 = .ok (.aload_n 0, 1)))) ∧ ((decode cX13_readUnsure 13 = .ok (.iconst 1, 1) ∧ (decode cX13_readUnsure 14 = .ok (.invokevirtual 184, 3) ∧ decode cX13_readUnsure 17 = .ok (.istore_n 1, 1))) ∧ ((decode cX13_readUnsure 18 = .ok (.aload_n 0, 1) ∧ decode cX13_readUnsure 19 = .ok (.getfield 81, 3)) ∧ (decode cX13_readUnsure 22 = .ok (.iconst 5, 1) ∧ decode cX13_readUnsure 23 = .ok (.if_icmp .eq 19, 3))))) ∧ (((decode cX13_readUnsure 26 = .ok (.aload_n 0, 1) ∧ (decode cX13_readUnsure 27 = .ok (.getfield 155, 3) ∧ decode cX13_readUnsure 30 = .ok (.iload_n 1, 1))) ∧ ((decode cX13_readUnsure 31 = .ok (.invokevirtual 271, 3) ∧ decode cX13_readUnsure 34 = .ok (.ifCond .eq 8, 3)) ∧ (decode cX13_readUnsure 37 = .ok (.aload_n 0, 1) ∧ decode cX13_readUnsure 38 = .ok (.iconst 3, 1)))) ∧ (((decode cX13_readUnsure 39 = .ok (.invokevirtual 124, 3) ∧ decode cX13_readUnsure 42 = .ok (.aload_n 0, 1)) ∧ (decode cX13_readUnsure 43 = .ok (.invokevirtual 117, 3) ∧ decode cX13_readUnsure 46 = .ok (.aload_n 0, 1))) ∧ ((decode cX13_readUnsure 47 = .ok (.iconst 0, 1) ∧ decode cX13_readUnsure 48 = .ok (.bipush 39, 2)) ∧ (decode cX13_readUnsure 50 = .ok (.invokevirtual 140, 3) ∧ decode cX13_readUnsure 53 = .ok (.istore_n 2, 1)))))) ∧ ((((decode cX13_readUnsure 54 = .ok (.aload_n 0, 1) ∧ (decode cX13_readUnsure 55 = .ok (.getfield 81, 3) ∧ decode cX13_readUnsure 58 = .ok (.iconst 5, 1))) ∧ ((decode cX13_readUnsure 59 = .ok (.if_icmp .ne 4, 3) ∧ decode cX13_readUnsure 62 = .ok (.return_, 1)) ∧ (decode cX13_readUnsure 63 = .ok (.aload_n 0, 1) ∧ decode cX13_readUnsure 64 = .ok (.getfield 155, 3)))) ∧ ((decode cX13_readUnsure 67 = .ok (.getfield 274, 3) ∧ (decode cX13_readUnsure 70 = .ok (.aload_n 0, 1) ∧ decode cX13_readUnsure 71 = .ok (.getfield 155, 3))) ∧ ((decode cX13_readUnsure 74 = .ok (.getfield 268, 3) ∧ decode cX13_readUnsure 77 = .ok (.iload_n 1, 1)) ∧ (decode cX13_readUnsure 78 = .ok (.iastore, 1) ∧ decode cX13_readUnsure 79 = .ok (.aload_n 0, 1))))) ∧ (((decode cX13_readUnsure 80 = .ok (.getfield 155, 3) ∧ (decode cX13_readUnsure 83 = .ok (.getfield 276, 3) ∧ decode cX13_readUnsure 86 = .ok (.aload_n 0, 1))) ∧ ((decode cX13_readUnsure 87 = .ok (.getfield 155, 3) ∧ decode cX13_readUnsure 90 = .ok (.getfield 268, 3)) ∧ (decode cX13_readUnsure 93 = .ok (.iload_n 2, 1) ∧ decode cX13_readUnsure 94 = .ok (.iastore, 1)))) ∧ (((decode cX13_readUnsure 95 = .ok (.aload_n 0, 1) ∧ decode cX13_readUnsure 96 = .ok (.getfield 155, 3)) ∧ (decode cX13_readUnsure 99 = .ok (.dup, 1) ∧ decode cX13_readUnsure 100 = .ok (.getfield 268, 3))) ∧ ((decode cX13_readUnsure 103 = .ok (.iconst 1, 1) ∧ decode cX13_readUnsure 104 = .ok (.iadd, 1)) ∧ (decode cX13_readUnsure 105 = .ok (.putfield 268, 3) ∧ decode cX13_readUnsure 108 = .ok (.return_, 1))))))) := ⟨⟨⟨by decide +kernel, by decide +kernel⟩, ⟨by decide +kernel, by decide +kernel⟩⟩, ⟨⟨by decide +kernel, by decide +kernel⟩, ⟨by decide +kernel, by decide +kernel⟩⟩⟩
def X13_readUnsure_b42 (s : St) (x0 x1 : Int) : Rs :=
  grd (isK s 23 x0) (bnd (X13_goesOn s x0) (fun r5 s6 => grd (isK s6 23 x0) (bnd (X13_readWhole s6 x0 0 39) (fun r7 s8 => grd (isK s8 23 x0) (if ¬ (gI s8 x0 9) = (5 : Int) then (grd (isK s8 23 x0) (grd (isK s8 22 (gR s8 x0 4)) (grd (isK s8 23 x0) (grd (isK s8 22 (gR s8 x0 4)) (grd (isK s8 1 (gR s8 (gR s8 x0 4) 13) ∧ 0 ≤ (gI s8 (gR s8 x0 4) 5) ∧ (gI s8 (gR s8 x0 4) 5) < ln s8 (gR s8 (gR s8 x0 4) 13)) (lets (pI s8 (gR s8 (gR s8 x0 4) 13) (gI s8 (gR s8 x0 4) 5).toNat x1) (fun s9 => grd (isK s9 23 x0) (grd (isK s9 22 (gR s9 x0 4)) (grd (isK s9 23 x0) (grd (isK s9 22 (gR s9 x0 4)) (grd (isK s9 1 (gR s9 (gR s9 x0 4) 14) ∧ 0 ≤ (gI s9 (gR s9 x0 4) 5) ∧ (gI s9 (gR s9 x0 4) 5) < ln s9 (gR s9 (gR s9 x0 4) 14)) (lets (pI s9 (gR s9 (gR s9 x0 4) 14) (gI s9 (gR s9 x0 4) 5).toNat r7) (fun s10 => grd (isK s10 23 x0) (grd (isK s10 22 (gR s10 x0 4)) (grd (isK s10 22 (gR s10 x0 4)) (lets (pI s10 (gR s10 x0 4) 5 (w32 ((gI s10 (gR s10 x0 4) 5) + 1))) (fun s11 => some (0, s11)))))))))))))))))) else (some (0, s8)))))))
set_option maxRecDepth 100000 in
set_option maxHeartbeats 4000000 in
theorem X13_readUnsure_b42_s (G : Gx) (l : Launch) (s : St) (x0 x1 : Int) : V G l mX13_readUnsure 42 [(0, (2, x0)), (1, (0, x1))] [] s (X13_readUnsure_b42 s x0 x1) := by
  unfold X13_readUnsure_b42
  refine V_aload_n dec_X13_readUnsure.1.2.2.1.1.2 0 rfl ?_
  refine V_callV0 (ci := 13) (a := x0) (As := []) (st := []) rfl rfl (X13_goesOn_s G l s x0) cal_X13_goesOn rfl ml_X13_117 rfl rfl dec_X13_readUnsure.1.2.2.1.2.1 (k_void rfl fun r5 s6 => ?_)
  refine V_aload_n dec_X13_readUnsure.1.2.2.1.2.2 0 rfl ?_
  refine V_iconst dec_X13_readUnsure.1.2.2.2.1.1 rfl ?_
  refine V_bipush dec_X13_readUnsure.1.2.2.2.1.2 rfl ?_
  refine V_callV0 (ci := 13) (a := x0) (As := [(0, 0), (0, 39)]) (st := []) rfl rfl (X13_readWhole_s G l s6 x0 0 39) cal_X13_readWhole rfl ml_X13_140 rfl rfl dec_X13_readUnsure.1.2.2.2.2.1 (k_tag (tag := 0) rfl fun r7 s8 => ?_)
  refine V_istore_n (lv' := [(2, (0, r7)), (0, (2, x0)), (1, (0, x1))]) dec_X13_readUnsure.1.2.2.2.2.2 (by decide) rfl ?_
  refine V_aload_n dec_X13_readUnsure.2.1.1.1.1 1 rfl ?_
  refine V_getI 13 9 nf_13_9 ft_13_9 fl_X13_81 dec_X13_readUnsure.2.1.1.1.2.1 ?_
  refine V_iconst dec_X13_readUnsure.2.1.1.1.2.2 rfl ?_
  refine V_icmp_ne (tgt := 63) dec_X13_readUnsure.2.1.1.2.1.1 (by decide) ?_ ?_
  · refine V_aload_n dec_X13_readUnsure.2.1.1.2.2.1 1 rfl ?_
    refine V_getR 13 4 nf_13_4 ft_13_4 fl_X13_155 dec_X13_readUnsure.2.1.1.2.2.2 ?_
    refine V_getRN RX13 12 13 nf_12_13 ft_12_13 fl_X13_274 dec_X13_readUnsure.2.1.2.1.1 ?_
    refine V_aload_n dec_X13_readUnsure.2.1.2.1.2.1 1 rfl ?_
    refine V_getR 13 4 nf_13_4 ft_13_4 fl_X13_155 dec_X13_readUnsure.2.1.2.1.2.2 ?_
    refine V_getIN RX13 12 5 nf_12_5 ft_12_5 fl_X13_268 dec_X13_readUnsure.2.1.2.2.1.1 ?_
    refine V_iload_n dec_X13_readUnsure.2.1.2.2.1.2 2 rfl ?_
    refine V_iast dec_X13_readUnsure.2.1.2.2.2.1 ?_
    refine V_lets fun s9 => ?_
    refine V_aload_n dec_X13_readUnsure.2.1.2.2.2.2 1 rfl ?_
    refine V_getR 13 4 nf_13_4 ft_13_4 fl_X13_155 dec_X13_readUnsure.2.2.1.1.1 ?_
    refine V_getRN RX13 12 14 nf_12_14 ft_12_14 fl_X13_276 dec_X13_readUnsure.2.2.1.1.2.1 ?_
    refine V_aload_n dec_X13_readUnsure.2.2.1.1.2.2 1 rfl ?_
    refine V_getR 13 4 nf_13_4 ft_13_4 fl_X13_155 dec_X13_readUnsure.2.2.1.2.1.1 ?_
    refine V_getIN RX13 12 5 nf_12_5 ft_12_5 fl_X13_268 dec_X13_readUnsure.2.2.1.2.1.2 ?_
    refine V_iload_n dec_X13_readUnsure.2.2.1.2.2.1 0 rfl ?_
    refine V_iast dec_X13_readUnsure.2.2.1.2.2.2 ?_
    refine V_lets fun s10 => ?_
    refine V_aload_n dec_X13_readUnsure.2.2.2.1.1.1 1 rfl ?_
    refine V_getR 13 4 nf_13_4 ft_13_4 fl_X13_155 dec_X13_readUnsure.2.2.2.1.1.2 ?_
    refine V_dup (nl2 _) dec_X13_readUnsure.2.2.2.1.2.1 ?_
    refine V_getIN RX13 12 5 nf_12_5 ft_12_5 fl_X13_268 dec_X13_readUnsure.2.2.2.1.2.2 ?_
    refine V_iconst dec_X13_readUnsure.2.2.2.2.1.1 rfl ?_
    refine V_iadd dec_X13_readUnsure.2.2.2.2.1.2 ?_
    refine V_putI (host := RX13) 12 5 nf_12_5 ty_12_5 (Or.inr ⟨fl_X13_268, rfl⟩) dec_X13_readUnsure.2.2.2.2.2.1 ?_
    refine V_lets fun s11 => ?_
    exact V_vret rfl dec_X13_readUnsure.2.2.2.2.2.2
  · exact V_vret rfl dec_X13_readUnsure.2.1.1.2.1.2
def X13_readUnsure (s : St) (a0 : Int) : Rs :=
  grd (isK s 23 a0) (grd (isK s 22 (gR s a0 4)) (grd (isK s 23 a0) (bnd (X13_lineBegins s a0 (gI s (gR s a0 4) 5) 4) (fun r1 s2 => grd (isK s2 23 a0) (bnd (X13_knownOne s2 a0 1) (fun r3 s4 => grd (isK s4 23 a0) (if (gI s4 a0 9) = (5 : Int) then (X13_readUnsure_b42 s4 a0 r3) else (grd (isK s4 23 a0) (grd (isK s4 22 (gR s4 a0 4)) (bnd (X12_isUnsure s4 (gR s4 a0 4) r3) (fun r12 s13 => if r12 = 0 then (X13_readUnsure_b42 s13 a0 r3) else (grd (isK s13 23 a0) (bnd (X13_flaw s13 a0 3) (fun r14 s15 => X13_readUnsure_b42 s15 a0 r3))))))))))))))
set_option maxRecDepth 100000 in
set_option maxHeartbeats 4000000 in
theorem X13_readUnsure_s (G : Gx) (l : Launch) (s : St) (a0 : Int) : Snd G l mX13_readUnsure [(2, a0)] s (X13_readUnsure s a0) := by
  refine Snd.of (by decide +kernel) rfl ?_
  show V G l mX13_readUnsure 0 [(0, (2, a0))] [] s _
  unfold X13_readUnsure
  refine V_aload_n dec_X13_readUnsure.1.1.1.1.1 0 rfl ?_
  refine V_aload_n dec_X13_readUnsure.1.1.1.1.2.1 0 rfl ?_
  refine V_getR 13 4 nf_13_4 ft_13_4 fl_X13_155 dec_X13_readUnsure.1.1.1.1.2.2 ?_
  refine V_getIN RX13 12 5 nf_12_5 ft_12_5 fl_X13_268 dec_X13_readUnsure.1.1.1.2.1.1 ?_
  refine V_iconst dec_X13_readUnsure.1.1.1.2.1.2 rfl ?_
  refine V_callV0 (ci := 13) (a := a0) (As := [(0, (gI s (gR s a0 4) 5)), (0, 4)]) (st := []) rfl rfl (X13_lineBegins_s G l s a0 (gI s (gR s a0 4) 5) 4) cal_X13_lineBegins rfl ml_X13_223 rfl rfl dec_X13_readUnsure.1.1.1.2.2.1 (k_void rfl fun r1 s2 => ?_)
  refine V_aload_n dec_X13_readUnsure.1.1.1.2.2.2 0 rfl ?_
  refine V_iconst dec_X13_readUnsure.1.1.2.1.1 rfl ?_
  refine V_callV0 (ci := 13) (a := a0) (As := [(0, 1)]) (st := []) rfl rfl (X13_knownOne_s G l s2 a0 1) cal_X13_knownOne rfl ml_X13_184 rfl rfl dec_X13_readUnsure.1.1.2.1.2.1 (k_tag (tag := 0) rfl fun r3 s4 => ?_)
  refine V_istore_n (lv' := [(1, (0, r3)), (0, (2, a0))]) dec_X13_readUnsure.1.1.2.1.2.2 (by decide) rfl ?_
  refine V_aload_n dec_X13_readUnsure.1.1.2.2.1.1 1 rfl ?_
  refine V_getI 13 9 nf_13_9 ft_13_9 fl_X13_81 dec_X13_readUnsure.1.1.2.2.1.2 ?_
  refine V_iconst dec_X13_readUnsure.1.1.2.2.2.1 rfl ?_
  refine V_icmp_eq (tgt := 42) dec_X13_readUnsure.1.1.2.2.2.2 (by decide) ?_ ?_
  · exact V_pick [1, 0] rfl (X13_readUnsure_b42_s G l s4 a0 r3)
  · refine V_aload_n dec_X13_readUnsure.1.2.1.1.1 1 rfl ?_
    refine V_getR 13 4 nf_13_4 ft_13_4 fl_X13_155 dec_X13_readUnsure.1.2.1.1.2.1 ?_
    refine V_iload_n dec_X13_readUnsure.1.2.1.1.2.2 0 rfl ?_
    refine V_callV0 (ci := 12) (a := (gR s4 a0 4)) (As := [(0, r3)]) (st := []) rfl rfl (X12_isUnsure_s G l s4 (gR s4 a0 4) r3) cal_X12_isUnsure rfl ml_X13_271 rfl rfl dec_X13_readUnsure.1.2.1.2.1.1 (k_tag (tag := 0) rfl fun r12 s13 => ?_)
    refine V_if_eq (tgt := 42) dec_X13_readUnsure.1.2.1.2.1.2 (by decide) ?_ ?_
    · exact V_pick [1, 0] rfl (X13_readUnsure_b42_s G l s13 a0 r3)
    · refine V_aload_n dec_X13_readUnsure.1.2.1.2.2.1 1 rfl ?_
      refine V_iconst dec_X13_readUnsure.1.2.1.2.2.2 rfl ?_
      refine V_callV0 (ci := 13) (a := a0) (As := [(0, 3)]) (st := []) rfl rfl (X13_flaw_s G l s13 a0 3) cal_X13_flaw rfl ml_X13_124 rfl rfl dec_X13_readUnsure.1.2.2.1.1.1 (k_void rfl fun r14 s15 => ?_)
      exact V_pick [1, 0] rfl (X13_readUnsure_b42_s G l s15 a0 r3)
theorem dec_X13_readLine : (((((decode cX13_readLine 0 = .ok (.aload_n 0, 1) ∧ decode cX13_readLine 1 = .ok (.ldc 143, 2)) ∧ (decode cX13_readLine 3 = .ok (.invokevirtual 120, 3) ∧ (decode cX13_readLine 6 = .ok (.ifCond .eq 10, 3) ∧ decode cX13_readLine 9 = .ok (.aload_n 0, 1)))) ∧ ((decode cX13_readLine 10 = .ok (.invokevirtual 196, 3) ∧ (decode cX13_readLine 13 = .ok (.goto 88, 3) ∧ decode cX13_readLine 16 = .ok (.aload_n 0, 1))) ∧ (decode cX13_readLine 17 = .ok (.ldc 145, 2) ∧ (decode cX13_readLine 19 = .ok (.invokevirtual 120, 3) ∧ decode cX13_readLine 22 = .ok (.ifCond .eq 10, 3))))) ∧ (((decode cX13_readLine 25 = .ok (.aload_n 0, 1) ∧ (decode cX13_readLine 26 = .ok (.invokevirtual 199, 3) ∧ decode cX13_readLine 29 = .ok (.goto 72, 3))) ∧ (decode cX13_readLine 32 = .ok (.aload_n 0, 1) ∧ (decode cX13_readLine 33 = .ok (.ldc 147, 2) ∧ decode cX13_readLine 35 = .ok (.invokevirtual 120, 3)))) ∧ ((decode cX13_readLine 38 = .ok (.ifCond .eq 10, 3) ∧ (decode cX13_readLine 41 = .ok (.aload_n 0, 1) ∧ decode cX13_readLine 42 = .ok (.invokevirtual 202, 3))) ∧ (decode cX13_readLine 45 = .ok (.goto 56, 3) ∧ (decode cX13_readLine 48 = .ok (.aload_n 0, 1) ∧ decode cX13_readLine 49 = .ok (.ldc 149, 2)))))) ∧ ((((decode cX13_readLine 51 = .ok (.invokevirtual 120, 3) ∧ decode cX13_readLine 54 = .ok (.ifCond .eq 10, 3)) ∧ (decode cX13_readLine 57 = .ok (.aload_n 0, 1) ∧ (decode cX13_readLine 58 = .ok (.invokevirtual 205, 3) ∧ decode cX13_readLine 61 = .ok (.goto 40, 3)))) ∧ ((decode cX13_readLine 64 = .ok (.aload_n 0, 1) ∧ (decode cX13_readLine 65 = .ok (.ldc 151, 2) ∧ decode cX13_readLine 67 = .ok (.invokevirtual 120, 3))) ∧ (decode cX13_readLine 70 = .ok (.ifCond .eq 10, 3) ∧ (decode cX13_readLine 73 = .ok (.aload_n 0, 1) ∧ decode cX13_readLine 74 = .ok (.invokevirtual 208, 3))))) ∧ (((decode cX13_readLine 77 = .ok (.goto 24, 3) ∧ (decode cX13_readLine 80 = .ok (.aload_n 0, 1) ∧ decode cX13_readLine 81 = .ok (.ldc 153, 2))) ∧ (decode cX13_readLine 83 = .ok (.invokevirtual 120, 3) ∧ (decode cX13_readLine 86 = .ok (.ifCond .eq 10, 3) ∧ decode cX13_readLine 89 = .ok (.aload_n 0, 1)))) ∧ ((decode cX13_readLine 90 = .ok (.invokevirtual 211, 3) ∧ (decode cX13_readLine 93 = .ok (.goto 8, 3) ∧ decode cX13_readLine 96 = .ok (.aload_n 0, 1))) ∧ (decode cX13_readLine 97 = .ok (.iconst 1, 1) ∧ (decode cX13_readLine 98 = .ok (.invokevirtual 124, 3) ∧ decode cX13_readLine 101 = .ok (.return_, 1))))))) := ⟨⟨by decide +kernel, by decide +kernel⟩, ⟨by decide +kernel, by decide +kernel⟩⟩
def X13_readLine_b101 (s : St) : Rs :=
  some (0, s)
set_option maxRecDepth 100000 in
set_option maxHeartbeats 4000000 in
theorem X13_readLine_b101_s (G : Gx) (l : Launch) (s : St) : V G l mX13_readLine 101 [] [] s (X13_readLine_b101 s) := by
  unfold X13_readLine_b101
  exact V_vret rfl dec_X13_readLine.2.2.2.2.2.2
def X13_readLine (s : St) (a0 : Int) : Rs :=
  grd (isK s 23 a0) (bnd (X13_isWord s a0 (1000000 + ((17 : Nat) : Int))) (fun r1 s2 => if r1 = 0 then (grd (isK s2 23 a0) (bnd (X13_isWord s2 a0 (1000000 + ((20 : Nat) : Int))) (fun r3 s4 => if r3 = 0 then (grd (isK s4 23 a0) (bnd (X13_isWord s4 a0 (1000000 + ((21 : Nat) : Int))) (fun r5 s6 => if r5 = 0 then (grd (isK s6 23 a0) (bnd (X13_isWord s6 a0 (1000000 + ((22 : Nat) : Int))) (fun r7 s8 => if r7 = 0 then (grd (isK s8 23 a0) (bnd (X13_isWord s8 a0 (1000000 + ((23 : Nat) : Int))) (fun r9 s10 => if r9 = 0 then (grd (isK s10 23 a0) (bnd (X13_isWord s10 a0 (1000000 + ((24 : Nat) : Int))) (fun r11 s12 => if r11 = 0 then (grd (isK s12 23 a0) (bnd (X13_flaw s12 a0 1) (fun r13 s14 => X13_readLine_b101 s14))) else (grd (isK s12 23 a0) (bnd (X13_readHeard s12 a0) (fun r15 s16 => X13_readLine_b101 s16)))))) else (grd (isK s10 23 a0) (bnd (X13_readUnsure s10 a0) (fun r17 s18 => X13_readLine_b101 s18)))))) else (grd (isK s8 23 a0) (bnd (X13_readMirror s8 a0) (fun r19 s20 => X13_readLine_b101 s20)))))) else (grd (isK s6 23 a0) (bnd (X13_readDead s6 a0) (fun r21 s22 => X13_readLine_b101 s22)))))) else (grd (isK s4 23 a0) (bnd (X13_readPerson s4 a0) (fun r23 s24 => X13_readLine_b101 s24)))))) else (grd (isK s2 23 a0) (bnd (X13_readTown s2 a0) (fun r25 s26 => X13_readLine_b101 s26)))))
set_option maxRecDepth 100000 in
set_option maxHeartbeats 4000000 in
theorem X13_readLine_s (G : Gx) (l : Launch) (s : St) (a0 : Int) : Snd G l mX13_readLine [(2, a0)] s (X13_readLine s a0) := by
  refine Snd.of (by decide +kernel) rfl ?_
  show V G l mX13_readLine 0 [(0, (2, a0))] [] s _
  unfold X13_readLine
  refine V_aload_n dec_X13_readLine.1.1.1.1.1 0 rfl ?_
  refine V_ldcS 17 _ rfl rfl rfl dec_X13_readLine.1.1.1.1.2 ?_
  refine V_callV0 (ci := 13) (a := a0) (As := [(2, (1000000 + ((17 : Nat) : Int)))]) (st := []) rfl rfl (X13_isWord_s G l s a0 (1000000 + ((17 : Nat) : Int))) cal_X13_isWord rfl ml_X13_120 rfl rfl dec_X13_readLine.1.1.1.2.1 (k_tag (tag := 0) rfl fun r1 s2 => ?_)
  refine V_if_eq (tgt := 16) dec_X13_readLine.1.1.1.2.2.1 (by decide) ?_ ?_
  · refine V_aload_n dec_X13_readLine.1.1.2.1.2.2 0 rfl ?_
    refine V_ldcS 20 _ rfl rfl rfl dec_X13_readLine.1.1.2.2.1 ?_
    refine V_callV0 (ci := 13) (a := a0) (As := [(2, (1000000 + ((20 : Nat) : Int)))]) (st := []) rfl rfl (X13_isWord_s G l s2 a0 (1000000 + ((20 : Nat) : Int))) cal_X13_isWord rfl ml_X13_120 rfl rfl dec_X13_readLine.1.1.2.2.2.1 (k_tag (tag := 0) rfl fun r3 s4 => ?_)
    refine V_if_eq (tgt := 32) dec_X13_readLine.1.1.2.2.2.2 (by decide) ?_ ?_
    · refine V_aload_n dec_X13_readLine.1.2.1.2.1 0 rfl ?_
      refine V_ldcS 21 _ rfl rfl rfl dec_X13_readLine.1.2.1.2.2.1 ?_
      refine V_callV0 (ci := 13) (a := a0) (As := [(2, (1000000 + ((21 : Nat) : Int)))]) (st := []) rfl rfl (X13_isWord_s G l s4 a0 (1000000 + ((21 : Nat) : Int))) cal_X13_isWord rfl ml_X13_120 rfl rfl dec_X13_readLine.1.2.1.2.2.2 (k_tag (tag := 0) rfl fun r5 s6 => ?_)
      refine V_if_eq (tgt := 48) dec_X13_readLine.1.2.2.1.1 (by decide) ?_ ?_
      · refine V_aload_n dec_X13_readLine.1.2.2.2.2.1 0 rfl ?_
        refine V_ldcS 22 _ rfl rfl rfl dec_X13_readLine.1.2.2.2.2.2 ?_
        refine V_callV0 (ci := 13) (a := a0) (As := [(2, (1000000 + ((22 : Nat) : Int)))]) (st := []) rfl rfl (X13_isWord_s G l s6 a0 (1000000 + ((22 : Nat) : Int))) cal_X13_isWord rfl ml_X13_120 rfl rfl dec_X13_readLine.2.1.1.1.1 (k_tag (tag := 0) rfl fun r7 s8 => ?_)
        refine V_if_eq (tgt := 64) dec_X13_readLine.2.1.1.1.2 (by decide) ?_ ?_
        · refine V_aload_n dec_X13_readLine.2.1.2.1.1 0 rfl ?_
          refine V_ldcS 23 _ rfl rfl rfl dec_X13_readLine.2.1.2.1.2.1 ?_
          refine V_callV0 (ci := 13) (a := a0) (As := [(2, (1000000 + ((23 : Nat) : Int)))]) (st := []) rfl rfl (X13_isWord_s G l s8 a0 (1000000 + ((23 : Nat) : Int))) cal_X13_isWord rfl ml_X13_120 rfl rfl dec_X13_readLine.2.1.2.1.2.2 (k_tag (tag := 0) rfl fun r9 s10 => ?_)
          refine V_if_eq (tgt := 80) dec_X13_readLine.2.1.2.2.1 (by decide) ?_ ?_
          · refine V_aload_n dec_X13_readLine.2.2.1.1.2.1 0 rfl ?_
            refine V_ldcS 24 _ rfl rfl rfl dec_X13_readLine.2.2.1.1.2.2 ?_
            refine V_callV0 (ci := 13) (a := a0) (As := [(2, (1000000 + ((24 : Nat) : Int)))]) (st := []) rfl rfl (X13_isWord_s G l s10 a0 (1000000 + ((24 : Nat) : Int))) cal_X13_isWord rfl ml_X13_120 rfl rfl dec_X13_readLine.2.2.1.2.1 (k_tag (tag := 0) rfl fun r11 s12 => ?_)
            refine V_if_eq (tgt := 96) dec_X13_readLine.2.2.1.2.2.1 (by decide) ?_ ?_
            · refine V_aload_n dec_X13_readLine.2.2.2.1.2.2 0 rfl ?_
              refine V_iconst dec_X13_readLine.2.2.2.2.1 rfl ?_
              refine V_callV0 (ci := 13) (a := a0) (As := [(0, 1)]) (st := []) rfl rfl (X13_flaw_s G l s12 a0 1) cal_X13_flaw rfl ml_X13_124 rfl rfl dec_X13_readLine.2.2.2.2.2.1 (k_void rfl fun r13 s14 => ?_)
              exact V_pick [] rfl (X13_readLine_b101_s G l s14)
            · refine V_aload_n dec_X13_readLine.2.2.1.2.2.2 0 rfl ?_
              refine V_callV0 (ci := 13) (a := a0) (As := []) (st := []) rfl rfl (X13_readHeard_s G l s12 a0) cal_X13_readHeard rfl ml_X13_211 rfl rfl dec_X13_readLine.2.2.2.1.1 (k_void rfl fun r15 s16 => ?_)
              refine V_goto (tgt := 101) dec_X13_readLine.2.2.2.1.2.1 (by decide) ?_
              exact V_pick [] rfl (X13_readLine_b101_s G l s16)
          · refine V_aload_n dec_X13_readLine.2.1.2.2.2.1 0 rfl ?_
            refine V_callV0 (ci := 13) (a := a0) (As := []) (st := []) rfl rfl (X13_readUnsure_s G l s10 a0) cal_X13_readUnsure rfl ml_X13_208 rfl rfl dec_X13_readLine.2.1.2.2.2.2 (k_void rfl fun r17 s18 => ?_)
            refine V_goto (tgt := 101) dec_X13_readLine.2.2.1.1.1 (by decide) ?_
            exact V_pick [] rfl (X13_readLine_b101_s G l s18)
        · refine V_aload_n dec_X13_readLine.2.1.1.2.1 0 rfl ?_
          refine V_callV0 (ci := 13) (a := a0) (As := []) (st := []) rfl rfl (X13_readMirror_s G l s8 a0) cal_X13_readMirror rfl ml_X13_205 rfl rfl dec_X13_readLine.2.1.1.2.2.1 (k_void rfl fun r19 s20 => ?_)
          refine V_goto (tgt := 101) dec_X13_readLine.2.1.1.2.2.2 (by decide) ?_
          exact V_pick [] rfl (X13_readLine_b101_s G l s20)
      · refine V_aload_n dec_X13_readLine.1.2.2.1.2.1 0 rfl ?_
        refine V_callV0 (ci := 13) (a := a0) (As := []) (st := []) rfl rfl (X13_readDead_s G l s6 a0) cal_X13_readDead rfl ml_X13_202 rfl rfl dec_X13_readLine.1.2.2.1.2.2 (k_void rfl fun r21 s22 => ?_)
        refine V_goto (tgt := 101) dec_X13_readLine.1.2.2.2.1 (by decide) ?_
        exact V_pick [] rfl (X13_readLine_b101_s G l s22)
    · refine V_aload_n dec_X13_readLine.1.2.1.1.1 0 rfl ?_
      refine V_callV0 (ci := 13) (a := a0) (As := []) (st := []) rfl rfl (X13_readPerson_s G l s4 a0) cal_X13_readPerson rfl ml_X13_199 rfl rfl dec_X13_readLine.1.2.1.1.2.1 (k_void rfl fun r23 s24 => ?_)
      refine V_goto (tgt := 101) dec_X13_readLine.1.2.1.1.2.2 (by decide) ?_
      exact V_pick [] rfl (X13_readLine_b101_s G l s24)
  · refine V_aload_n dec_X13_readLine.1.1.1.2.2.2 0 rfl ?_
    refine V_callV0 (ci := 13) (a := a0) (As := []) (st := []) rfl rfl (X13_readTown_s G l s2 a0) cal_X13_readTown rfl ml_X13_196 rfl rfl dec_X13_readLine.1.1.2.1.1 (k_void rfl fun r25 s26 => ?_)
    refine V_goto (tgt := 101) dec_X13_readLine.1.1.2.1.2.1 (by decide) ?_
    exact V_pick [] rfl (X13_readLine_b101_s G l s26)
theorem dec_X13_readAll : ((((decode cX13_readAll 0 = .ok (.iconst 1, 1) ∧ (decode cX13_readAll 1 = .ok (.istore_n 1, 1) ∧ decode cX13_readAll 2 = .ok (.iload_n 1, 1))) ∧ (decode cX13_readAll 3 = .ok (.ifCond .eq 15, 3) ∧ (decode cX13_readAll 6 = .ok (.aload_n 0, 1) ∧ decode cX13_readAll 7 = .ok (.invokevirtual 187, 3)))) ∧ ((decode cX13_readAll 10 = .ok (.aload_n 0, 1) ∧ (decode cX13_readAll 11 = .ok (.invokevirtual 190, 3) ∧ decode cX13_readAll 14 = .ok (.istore_n 1, 1))) ∧ (decode cX13_readAll 15 = .ok (.goto (-13), 3) ∧ (decode cX13_readAll 18 = .ok (.aload_n 0, 1) ∧ decode cX13_readAll 19 = .ok (.getfield 81, 3))))) ∧ (((decode cX13_readAll 22 = .ok (.iconst 1, 1) ∧ (decode cX13_readAll 23 = .ok (.if_icmp .eq 8, 3) ∧ decode cX13_readAll 26 = .ok (.aload_n 0, 1))) ∧ (decode cX13_readAll 27 = .ok (.iconst 1, 1) ∧ (decode cX13_readAll 28 = .ok (.invokevirtual 124, 3) ∧ decode cX13_readAll 31 = .ok (.aload_n 0, 1)))) ∧ ((decode cX13_readAll 32 = .ok (.getfield 155, 3) ∧ (decode cX13_readAll 35 = .ok (.getfield 193, 3) ∧ decode cX13_readAll 38 = .ok (.ifCond .ne 9, 3))) ∧ ((decode cX13_readAll 41 = .ok (.aload_n 0, 1) ∧ decode cX13_readAll 42 = .ok (.bipush 6, 2)) ∧ (decode cX13_readAll 44 = .ok (.invokevirtual 124, 3) ∧ decode cX13_readAll 47 = .ok (.return_, 1)))))) := ⟨by decide +kernel, ⟨by decide +kernel, by decide +kernel⟩⟩
def X13_readAll_b47 (s : St) : Rs :=
  some (0, s)
set_option maxRecDepth 100000 in
set_option maxHeartbeats 4000000 in
theorem X13_readAll_b47_s (G : Gx) (l : Launch) (s : St) : V G l mX13_readAll 47 [] [] s (X13_readAll_b47 s) := by
  unfold X13_readAll_b47
  exact V_vret rfl dec_X13_readAll.2.2.2.2.2
def X13_readAll_b31 (s : St) (x0 : Int) : Rs :=
  grd (isK s 23 x0) (grd (isK s 22 (gR s x0 4)) (if ¬ (gI s (gR s x0 4) 2) = 0 then (X13_readAll_b47 s) else (grd (isK s 23 x0) (bnd (X13_flaw s x0 6) (fun r1 s2 => X13_readAll_b47 s2)))))
set_option maxRecDepth 100000 in
set_option maxHeartbeats 4000000 in
theorem X13_readAll_b31_s (G : Gx) (l : Launch) (s : St) (x0 : Int) : V G l mX13_readAll 31 [(0, (2, x0))] [] s (X13_readAll_b31 s x0) := by
  unfold X13_readAll_b31
  refine V_aload_n dec_X13_readAll.2.1.2.2.2 0 rfl ?_
  refine V_getR 13 4 nf_13_4 ft_13_4 fl_X13_155 dec_X13_readAll.2.2.1.1 ?_
  refine V_getIN RX13 12 2 nf_12_2 ft_12_2 fl_X13_193 dec_X13_readAll.2.2.1.2.1 ?_
  refine V_if_ne (tgt := 47) dec_X13_readAll.2.2.1.2.2 (by decide) ?_ ?_
  · exact V_pick [] rfl (X13_readAll_b47_s G l s)
  · refine V_aload_n dec_X13_readAll.2.2.2.1.1 0 rfl ?_
    refine V_bipush dec_X13_readAll.2.2.2.1.2 rfl ?_
    refine V_callV0 (ci := 13) (a := x0) (As := [(0, 6)]) (st := []) rfl rfl (X13_flaw_s G l s x0 6) cal_X13_flaw rfl ml_X13_124 rfl rfl dec_X13_readAll.2.2.2.2.1 (k_void rfl fun r1 s2 => ?_)
    exact V_pick [] rfl (X13_readAll_b47_s G l s2)
def X13_readAll_b2_body (rk2 : St → Int → Int → Rs) (s : St) (x0 x1 : Int) : Rs :=
  if x1 = 0 then (grd (isK s 23 x0) (if (gI s x0 9) = (1 : Int) then (X13_readAll_b31 s x0) else (grd (isK s 23 x0) (bnd (X13_flaw s x0 1) (fun r3 s4 => X13_readAll_b31 s4 x0))))) else (grd (isK s 23 x0) (bnd (X13_readLine s x0) (fun r5 s6 => grd (isK s6 23 x0) (bnd (X13_eatsSemicolon s6 x0) (fun r7 s8 => rk2 s8 x0 r7)))))
def X13_readAll_b2 (n : Nat) (s : St) (x0 x1 : Int) : Rs := iter (fun (rec : St × Int × Int → Rs) (a : St × Int × Int) => X13_readAll_b2_body (fun (s : St) (x0 x1 : Int) => rec (s, x0, x1)) a.1 a.2.1 a.2.2) n (s, x0, x1)
theorem X13_readAll_b2_0 (s : St) (x0 x1 : Int) : X13_readAll_b2 0 s x0 x1 = none := rfl
theorem X13_readAll_b2_1 (n : Nat) (s : St) (x0 x1 : Int) : X13_readAll_b2 (n + 1) s x0 x1 = X13_readAll_b2_body (X13_readAll_b2 n) s x0 x1 := rfl
set_option maxRecDepth 100000 in
set_option maxHeartbeats 4000000 in
theorem X13_readAll_b2_body_s (G : Gx) (l : Launch) (rk2 : St → Int → Int → Rs) (hk2 : ∀ (s : St) (x0 x1 : Int), V G l mX13_readAll 2 [(0, (2, x0)), (1, (0, x1))] [] s (rk2 s x0 x1)) (s : St) (x0 x1 : Int) : V G l mX13_readAll 2 [(0, (2, x0)), (1, (0, x1))] [] s (X13_readAll_b2_body rk2 s x0 x1) := by
  unfold X13_readAll_b2_body
  refine V_iload_n dec_X13_readAll.1.1.1.2.2 1 rfl ?_
  refine V_if_eq (tgt := 18) dec_X13_readAll.1.1.2.1 (by decide) ?_ ?_
  · refine V_aload_n dec_X13_readAll.1.2.2.2.1 0 rfl ?_
    refine V_getI 13 9 nf_13_9 ft_13_9 fl_X13_81 dec_X13_readAll.1.2.2.2.2 ?_
    refine V_iconst dec_X13_readAll.2.1.1.1 rfl ?_
    refine V_icmp_eq (tgt := 31) dec_X13_readAll.2.1.1.2.1 (by decide) ?_ ?_
    · exact V_pick [0] rfl (X13_readAll_b31_s G l s x0)
    · refine V_aload_n dec_X13_readAll.2.1.1.2.2 0 rfl ?_
      refine V_iconst dec_X13_readAll.2.1.2.1 rfl ?_
      refine V_callV0 (ci := 13) (a := x0) (As := [(0, 1)]) (st := []) rfl rfl (X13_flaw_s G l s x0 1) cal_X13_flaw rfl ml_X13_124 rfl rfl dec_X13_readAll.2.1.2.2.1 (k_void rfl fun r3 s4 => ?_)
      exact V_pick [0] rfl (X13_readAll_b31_s G l s4 x0)
  · refine V_aload_n dec_X13_readAll.1.1.2.2.1 0 rfl ?_
    refine V_callV0 (ci := 13) (a := x0) (As := []) (st := []) rfl rfl (X13_readLine_s G l s x0) cal_X13_readLine rfl ml_X13_187 rfl rfl dec_X13_readAll.1.1.2.2.2 (k_void rfl fun r5 s6 => ?_)
    refine V_aload_n dec_X13_readAll.1.2.1.1 0 rfl ?_
    refine V_callV0 (ci := 13) (a := x0) (As := []) (st := []) rfl rfl (X13_eatsSemicolon_s G l s6 x0) cal_X13_eatsSemicolon rfl ml_X13_190 rfl rfl dec_X13_readAll.1.2.1.2.1 (k_tag (tag := 0) rfl fun r7 s8 => ?_)
    refine V_istore_n (lv' := [(1, (0, r7)), (0, (2, x0))]) dec_X13_readAll.1.2.1.2.2 (by decide) rfl ?_
    refine V_goto (tgt := 2) dec_X13_readAll.1.2.2.1 (by decide) ?_
    exact V_pick [1, 0] rfl (hk2 s8 x0 r7)
theorem X13_readAll_b2_s (G : Gx) (l : Launch) (n : Nat) (s : St) (x0 x1 : Int) : V G l mX13_readAll 2 [(0, (2, x0)), (1, (0, x1))] [] s (X13_readAll_b2 n s x0 x1) :=
  V_iter (LV := fun a : St × Int × Int => [(0, (2, a.2.1)), (1, (0, a.2.2))]) (ST := fun a : St × Int × Int => []) (SS := fun a : St × Int × Int => a.1) (fun rec hrec a => X13_readAll_b2_body_s G l (fun (s : St) (x0 x1 : Int) => rec (s, x0, x1)) (fun (s : St) (x0 x1 : Int) => hrec (s, x0, x1)) a.1 a.2.1 a.2.2) n (s, x0, x1)
def X13_readAll (s : St) (a0 : Int) : Rs :=
  X13_readAll_b2 FU s a0 1
set_option maxRecDepth 100000 in
set_option maxHeartbeats 4000000 in
theorem X13_readAll_s (G : Gx) (l : Launch) (s : St) (a0 : Int) : Snd G l mX13_readAll [(2, a0)] s (X13_readAll s a0) := by
  refine Snd.of (by decide +kernel) rfl ?_
  show V G l mX13_readAll 0 [(0, (2, a0))] [] s _
  unfold X13_readAll
  refine V_iconst dec_X13_readAll.1.1.1.1 rfl ?_
  refine V_istore_n (lv' := [(1, (0, 1)), (0, (2, a0))]) dec_X13_readAll.1.1.1.2.1 (by decide) rfl ?_
  exact V_pick [1, 0] rfl (X13_readAll_b2_s G l FU s a0 1)
theorem dec_X13_rest : (((((decode cX13_rest 0 = .ok (.aload_n 0, 1) ∧ decode cX13_rest 1 = .ok (.iconst 0, 1)) ∧ (decode cX13_rest 2 = .ok (.putfield 49, 3) ∧ (decode cX13_rest 5 = .ok (.aload_n 0, 1) ∧ decode cX13_rest 6 = .ok (.iload_n 1, 1)))) ∧ ((decode cX13_rest 7 = .ok (.invokevirtual 431, 3) ∧ decode cX13_rest 10 = .ok (.istore_n 2, 1)) ∧ (decode cX13_rest 11 = .ok (.iload_n 2, 1) ∧ (decode cX13_rest 12 = .ok (.ifCond .le 9, 3) ∧ decode cX13_rest 15 = .ok (.aload_n 0, 1))))) ∧ (((decode cX13_rest 16 = .ok (.iload_n 2, 1) ∧ decode cX13_rest 17 = .ok (.invokevirtual 55, 3)) ∧ (decode cX13_rest 20 = .ok (.ireturn, 1) ∧ (decode cX13_rest 21 = .ok (.iconst 0, 1) ∧ decode cX13_rest 22 = .ok (.istore_n 3, 1)))) ∧ ((decode cX13_rest 23 = .ok (.iload_n 3, 1) ∧ decode cX13_rest 24 = .ok (.iconst 4, 1)) ∧ (decode cX13_rest 25 = .ok (.if_icmp .ge 32, 3) ∧ (decode cX13_rest 28 = .ok (.iload_n 1, 1) ∧ decode cX13_rest 29 = .ok (.iload_n 3, 1)))))) ∧ ((((decode cX13_rest 30 = .ok (.invokestatic 441, 3) ∧ decode cX13_rest 33 = .ok (.ifCond .eq 18, 3)) ∧ (decode cX13_rest 36 = .ok (.aload_n 0, 1) ∧ (decode cX13_rest 37 = .ok (.bipush 10, 2) ∧ decode cX13_rest 39 = .ok (.iload_n 3, 1)))) ∧ ((decode cX13_rest 40 = .ok (.iconst 2, 1) ∧ decode cX13_rest 41 = .ok (.idiv, 1)) ∧ (decode cX13_rest 42 = .ok (.imul, 1) ∧ (decode cX13_rest 43 = .ok (.iload_n 3, 1) ∧ decode cX13_rest 44 = .ok (.iconst 2, 1))))) ∧ (((decode cX13_rest 45 = .ok (.irem, 1) ∧ decode cX13_rest 46 = .ok (.iadd, 1)) ∧ (decode cX13_rest 47 = .ok (.invokevirtual 59, 3) ∧ (decode cX13_rest 50 = .ok (.ireturn, 1) ∧ decode cX13_rest 51 = .ok (.iinc 3 1, 3)))) ∧ ((decode cX13_rest 54 = .ok (.goto (-31), 3) ∧ decode cX13_rest 57 = .ok (.aload_n 0, 1)) ∧ (decode cX13_rest 58 = .ok (.bipush (-2), 2) ∧ (decode cX13_rest 60 = .ok (.invokevirtual 59, 3) ∧ decode cX13_rest 63 = .ok (.ireturn, 1))))))) := ⟨⟨by decide +kernel, by decide +kernel⟩, ⟨by decide +kernel, by decide +kernel⟩⟩
def X13_rest_b23_body (rk23 : St → Int → Int → Int → Rs) (s : St) (x0 x1 x3 : Int) : Rs :=
  if (4 : Int) ≤ x3 then (grd (isK s 23 x0) (bnd (X13_good s x0 (-2)) (fun r4 s5 => some (r4, s5)))) else (bnd (X13_isRest s x1 x3) (fun r6 s7 => if r6 = 0 then (rk23 s7 x0 x1 (w32 (x3 + 1))) else (grd ((2 : Int) ≠ 0) (grd ((2 : Int) ≠ 0) (grd (isK s7 23 x0) (bnd (X13_good s7 x0 (w32 ((w32 (10 * (w32 (Int.tdiv x3 2)))) + (Int.tmod x3 2)))) (fun r8 s9 => some (r8, s9))))))))
def X13_rest_b23 (n : Nat) (s : St) (x0 x1 x3 : Int) : Rs := iter (fun (rec : St × Int × Int × Int → Rs) (a : St × Int × Int × Int) => X13_rest_b23_body (fun (s : St) (x0 x1 x3 : Int) => rec (s, x0, x1, x3)) a.1 a.2.1 a.2.2.1 a.2.2.2) n (s, x0, x1, x3)
theorem X13_rest_b23_0 (s : St) (x0 x1 x3 : Int) : X13_rest_b23 0 s x0 x1 x3 = none := rfl
theorem X13_rest_b23_1 (n : Nat) (s : St) (x0 x1 x3 : Int) : X13_rest_b23 (n + 1) s x0 x1 x3 = X13_rest_b23_body (X13_rest_b23 n) s x0 x1 x3 := rfl
set_option maxRecDepth 100000 in
set_option maxHeartbeats 4000000 in
theorem X13_rest_b23_body_s (G : Gx) (l : Launch) (rk23 : St → Int → Int → Int → Rs) (hk23 : ∀ (s : St) (x0 x1 x3 : Int), V G l mX13_rest 23 [(0, (2, x0)), (1, (0, x1)), (3, (0, x3))] [] s (rk23 s x0 x1 x3)) (s : St) (x0 x1 x3 : Int) : V G l mX13_rest 23 [(0, (2, x0)), (1, (0, x1)), (3, (0, x3))] [] s (X13_rest_b23_body rk23 s x0 x1 x3) := by
  unfold X13_rest_b23_body
  refine V_iload_n dec_X13_rest.1.2.2.1.1 2 rfl ?_
  refine V_iconst dec_X13_rest.1.2.2.1.2 rfl ?_
  refine V_icmp_ge (tgt := 57) dec_X13_rest.1.2.2.2.1 (by decide) ?_ ?_
  · refine V_aload_n dec_X13_rest.2.2.2.1.2 0 rfl ?_
    refine V_bipush dec_X13_rest.2.2.2.2.1 rfl ?_
    refine V_callV0 (ci := 13) (a := x0) (As := [(0, (-2))]) (st := []) rfl rfl (X13_good_s G l s x0 (-2)) cal_X13_good rfl ml_X13_59 rfl rfl dec_X13_rest.2.2.2.2.2.1 (k_tag (tag := 0) rfl fun r4 s5 => ?_)
    exact V_iret rfl dec_X13_rest.2.2.2.2.2.2
  · refine V_iload_n dec_X13_rest.1.2.2.2.2.1 1 rfl ?_
    refine V_iload_n dec_X13_rest.1.2.2.2.2.2 2 rfl ?_
    refine V_callS0 (As := [(0, x1), (0, x3)]) (st := []) (host := "") rfl (X13_isRest_s G l s x1 x3) cal_X13_isRest rfl (Or.inl ml_X13_441) rfl rfl dec_X13_rest.2.1.1.1.1 (k_tag (tag := 0) rfl fun r6 s7 => ?_)
    refine V_if_eq (tgt := 51) dec_X13_rest.2.1.1.1.2 (by decide) ?_ ?_
    · refine V_iinc (lv' := [(3, (0, (w32 (x3 + 1)))), (0, (2, x0)), (1, (0, x1))]) dec_X13_rest.2.2.1.2.2.2 2 rfl (by decide) rfl ?_
      refine V_goto (tgt := 23) dec_X13_rest.2.2.2.1.1 (by decide) ?_
      exact V_pick [1, 2, 0] rfl (hk23 s7 x0 x1 (w32 (x3 + 1)))
    · refine V_aload_n dec_X13_rest.2.1.1.2.1 0 rfl ?_
      refine V_bipush dec_X13_rest.2.1.1.2.2.1 rfl ?_
      refine V_iload_n dec_X13_rest.2.1.1.2.2.2 2 rfl ?_
      refine V_iconst dec_X13_rest.2.1.2.1.1 rfl ?_
      refine V_idiv dec_X13_rest.2.1.2.1.2 ?_
      refine V_imul dec_X13_rest.2.1.2.2.1 ?_
      refine V_iload_n dec_X13_rest.2.1.2.2.2.1 2 rfl ?_
      refine V_iconst dec_X13_rest.2.1.2.2.2.2 rfl ?_
      refine V_irem dec_X13_rest.2.2.1.1.1 ?_
      refine V_iadd dec_X13_rest.2.2.1.1.2 ?_
      refine V_callV0 (ci := 13) (a := x0) (As := [(0, (w32 ((w32 (10 * (w32 (Int.tdiv x3 2)))) + (Int.tmod x3 2))))]) (st := []) rfl rfl (X13_good_s G l s7 x0 (w32 ((w32 (10 * (w32 (Int.tdiv x3 2)))) + (Int.tmod x3 2)))) cal_X13_good rfl ml_X13_59 rfl rfl dec_X13_rest.2.2.1.2.1 (k_tag (tag := 0) rfl fun r8 s9 => ?_)
      exact V_iret rfl dec_X13_rest.2.2.1.2.2.1
theorem X13_rest_b23_s (G : Gx) (l : Launch) (n : Nat) (s : St) (x0 x1 x3 : Int) : V G l mX13_rest 23 [(0, (2, x0)), (1, (0, x1)), (3, (0, x3))] [] s (X13_rest_b23 n s x0 x1 x3) :=
  V_iter (LV := fun a : St × Int × Int × Int => [(0, (2, a.2.1)), (1, (0, a.2.2.1)), (3, (0, a.2.2.2))]) (ST := fun a : St × Int × Int × Int => []) (SS := fun a : St × Int × Int × Int => a.1) (fun rec hrec a => X13_rest_b23_body_s G l (fun (s : St) (x0 x1 x3 : Int) => rec (s, x0, x1, x3)) (fun (s : St) (x0 x1 x3 : Int) => hrec (s, x0, x1, x3)) a.1 a.2.1 a.2.2.1 a.2.2.2) n (s, x0, x1, x3)
def X13_rest (s : St) (a0 a1 : Int) : Rs :=
  grd (isK s 23 a0) (lets (pI s a0 0 0) (fun s1 => grd (isK s1 23 a0) (bnd (X13_refusesSoot s1 a0 a1) (fun r2 s3 => if r2 ≤ 0 then (X13_rest_b23 FU s3 a0 a1 0) else (grd (isK s3 23 a0) (bnd (X13_refused s3 a0 r2) (fun r10 s11 => some (r10, s11))))))))
set_option maxRecDepth 100000 in
set_option maxHeartbeats 4000000 in
theorem X13_rest_s (G : Gx) (l : Launch) (s : St) (a0 a1 : Int) : Snd G l mX13_rest [(2, a0), (0, a1)] s (X13_rest s a0 a1) := by
  refine Snd.of (by decide +kernel) rfl ?_
  show V G l mX13_rest 0 [(0, (2, a0)), (1, (0, a1))] [] s _
  unfold X13_rest
  refine V_aload_n dec_X13_rest.1.1.1.1.1 0 rfl ?_
  refine V_iconst dec_X13_rest.1.1.1.1.2 rfl ?_
  refine V_putI (host := "") 13 0 nf_13_0 ty_13_0 (Or.inl ⟨fl_X13_49, Or.inl rfl⟩) dec_X13_rest.1.1.1.2.1 ?_
  refine V_lets fun s1 => ?_
  refine V_aload_n dec_X13_rest.1.1.1.2.2.1 0 rfl ?_
  refine V_iload_n dec_X13_rest.1.1.1.2.2.2 1 rfl ?_
  refine V_callV0 (ci := 13) (a := a0) (As := [(0, a1)]) (st := []) rfl rfl (X13_refusesSoot_s G l s1 a0 a1) cal_X13_refusesSoot rfl ml_X13_431 rfl rfl dec_X13_rest.1.1.2.1.1 (k_tag (tag := 0) rfl fun r2 s3 => ?_)
  refine V_istore_n (lv' := [(2, (0, r2)), (0, (2, a0)), (1, (0, a1))]) dec_X13_rest.1.1.2.1.2 (by decide) rfl ?_
  refine V_iload_n dec_X13_rest.1.1.2.2.1 0 rfl ?_
  refine V_if_le (tgt := 21) dec_X13_rest.1.1.2.2.2.1 (by decide) ?_ ?_
  · refine V_iconst dec_X13_rest.1.2.1.2.2.1 rfl ?_
    refine V_istore_n (lv' := [(3, (0, 0)), (2, (0, r2)), (0, (2, a0)), (1, (0, a1))]) dec_X13_rest.1.2.1.2.2.2 (by decide) rfl ?_
    exact V_pick [2, 3, 0] rfl (X13_rest_b23_s G l FU s3 a0 a1 0)
  · refine V_aload_n dec_X13_rest.1.1.2.2.2.2 1 rfl ?_
    refine V_iload_n dec_X13_rest.1.2.1.1.1 0 rfl ?_
    refine V_callV0 (ci := 13) (a := a0) (As := [(0, r2)]) (st := []) rfl rfl (X13_refused_s G l s3 a0 r2) cal_X13_refused rfl ml_X13_55 rfl rfl dec_X13_rest.1.2.1.1.2 (k_tag (tag := 0) rfl fun r10 s11 => ?_)
    exact V_iret rfl dec_X13_rest.1.2.1.2.1
theorem dec_X13_restless : (((((decode cX13_restless 0 = .ok (.aload_n 0, 1) ∧ (decode cX13_restless 1 = .ok (.iconst 0, 1) ∧ decode cX13_restless 2 = .ok (.putfield 49, 3))) ∧ (decode cX13_restless 5 = .ok (.aload_n 0, 1) ∧ (decode cX13_restless 6 = .ok (.aload_n 0, 1) ∧ decode cX13_restless 7 = .ok (.getfield 303, 3)))) ∧ ((decode cX13_restless 10 = .ok (.ifnull 7, 3) ∧ (decode cX13_restless 13 = .ok (.iconst 1, 1) ∧ decode cX13_restless 14 = .ok (.goto 4, 3))) ∧ ((decode cX13_restless 17 = .ok (.iconst 0, 1) ∧ decode cX13_restless 18 = .ok (.iload_n 1, 1)) ∧ (decode cX13_restless 19 = .ok (.invokevirtual 354, 3) ∧ decode cX13_restless 22 = .ok (.istore_n 2, 1))))) ∧ (((decode cX13_restless 23 = .ok (.iload_n 2, 1) ∧ (decode cX13_restless 24 = .ok (.ifCond .le 9, 3) ∧ decode cX13_restless 27 = .ok (.aload_n 0, 1))) ∧ (decode cX13_restless 28 = .ok (.iload_n 2, 1) ∧ (decode cX13_restless 29 = .ok (.invokevirtual 55, 3) ∧ decode cX13_restless 32 = .ok (.ireturn, 1)))) ∧ ((decode cX13_restless 33 = .ok (.iconst 0, 1) ∧ (decode cX13_restless 34 = .ok (.istore_n 3, 1) ∧ decode cX13_restless 35 = .ok (.iconst 0, 1))) ∧ ((decode cX13_restless 36 = .ok (.istore 4, 2) ∧ decode cX13_restless 38 = .ok (.iload 4, 2)) ∧ (decode cX13_restless 40 = .ok (.aload_n 0, 1) ∧ decode cX13_restless 41 = .ok (.getfield 303, 3)))))) ∧ ((((decode cX13_restless 44 = .ok (.getfield 193, 3) ∧ (decode cX13_restless 47 = .ok (.if_icmp .ge 45, 3) ∧ decode cX13_restless 50 = .ok (.iconst 0, 1))) ∧ (decode cX13_restless 51 = .ok (.istore 5, 2) ∧ (decode cX13_restless 53 = .ok (.iload 5, 2) ∧ decode cX13_restless 55 = .ok (.iload 4, 2)))) ∧ ((decode cX13_restless 57 = .ok (.if_icmp .ge 29, 3) ∧ (decode cX13_restless 60 = .ok (.iload_n 3, 1) ∧ decode cX13_restless 61 = .ok (.aload_n 0, 1))) ∧ ((decode cX13_restless 62 = .ok (.iload 4, 2) ∧ decode cX13_restless 64 = .ok (.iload 5, 2)) ∧ (decode cX13_restless 66 = .ok (.iload_n 1, 1) ∧ decode cX13_restless 67 = .ok (.invokevirtual 385, 3))))) ∧ (((decode cX13_restless 70 = .ok (.ifCond .eq 7, 3) ∧ (decode cX13_restless 73 = .ok (.iconst 1, 1) ∧ decode cX13_restless 74 = .ok (.goto 4, 3))) ∧ ((decode cX13_restless 77 = .ok (.iconst 0, 1) ∧ decode cX13_restless 78 = .ok (.iadd, 1)) ∧ (decode cX13_restless 79 = .ok (.istore_n 3, 1) ∧ decode cX13_restless 80 = .ok (.iinc 5 1, 3)))) ∧ ((decode cX13_restless 83 = .ok (.goto (-30), 3) ∧ (decode cX13_restless 86 = .ok (.iinc 4 1, 3) ∧ decode cX13_restless 89 = .ok (.goto (-51), 3))) ∧ ((decode cX13_restless 92 = .ok (.aload_n 0, 1) ∧ decode cX13_restless 93 = .ok (.iload_n 3, 1)) ∧ (decode cX13_restless 94 = .ok (.invokevirtual 59, 3) ∧ decode cX13_restless 97 = .ok (.ireturn, 1))))))) := ⟨⟨⟨by decide +kernel, by decide +kernel⟩, ⟨by decide +kernel, by decide +kernel⟩⟩, ⟨⟨by decide +kernel, by decide +kernel⟩, ⟨by decide +kernel, by decide +kernel⟩⟩⟩
def X13_restless_b78 (rk38 : St → Int → Int → Int → Int → Rs) (rk53 : St → Int → Int → Int → Int → Int → Rs) (s : St) (x0 x1 x4 x5 k0 k1 : Int) : Rs :=
  rk53 s x0 x1 (w32 (k1 + k0)) x4 (w32 (x5 + 1))
set_option maxRecDepth 100000 in
set_option maxHeartbeats 4000000 in
theorem X13_restless_b78_s (G : Gx) (l : Launch) (rk38 : St → Int → Int → Int → Int → Rs) (rk53 : St → Int → Int → Int → Int → Int → Rs) (hk38 : ∀ (s : St) (x0 x1 x3 x4 : Int), V G l mX13_restless 38 [(0, (2, x0)), (1, (0, x1)), (3, (0, x3)), (4, (0, x4))] [] s (rk38 s x0 x1 x3 x4)) (hk53 : ∀ (s : St) (x0 x1 x3 x4 x5 : Int), V G l mX13_restless 53 [(0, (2, x0)), (1, (0, x1)), (3, (0, x3)), (4, (0, x4)), (5, (0, x5))] [] s (rk53 s x0 x1 x3 x4 x5)) (s : St) (x0 x1 x4 x5 k0 k1 : Int) : V G l mX13_restless 78 [(0, (2, x0)), (1, (0, x1)), (4, (0, x4)), (5, (0, x5))] [(0, k0), (0, k1)] s (X13_restless_b78 rk38 rk53 s x0 x1 x4 x5 k0 k1) := by
  unfold X13_restless_b78
  refine V_iadd dec_X13_restless.2.2.1.2.1.2 ?_
  refine V_istore_n (lv' := [(3, (0, (w32 (k1 + k0)))), (0, (2, x0)), (1, (0, x1)), (4, (0, x4)), (5, (0, x5))]) dec_X13_restless.2.2.1.2.2.1 (by decide) rfl ?_
  refine V_iinc (lv' := [(5, (0, (w32 (x5 + 1)))), (3, (0, (w32 (k1 + k0)))), (0, (2, x0)), (1, (0, x1)), (4, (0, x4))]) dec_X13_restless.2.2.1.2.2.2 4 rfl (by decide) rfl ?_
  refine V_goto (tgt := 53) dec_X13_restless.2.2.2.1.1 (by decide) ?_
  exact V_pick [2, 3, 1, 4, 0] rfl (hk53 s x0 x1 (w32 (k1 + k0)) x4 (w32 (x5 + 1)))
def X13_restless_b53_body (rk38 : St → Int → Int → Int → Int → Rs) (rk53 : St → Int → Int → Int → Int → Int → Rs) (s : St) (x0 x1 x3 x4 x5 : Int) : Rs :=
  if x4 ≤ x5 then (rk38 s x0 x1 x3 (w32 (x4 + 1))) else (grd (isK s 23 x0) (bnd (X13_isLiked s x0 x4 x5 x1) (fun r6 s7 => if r6 = 0 then (X13_restless_b78 rk38 rk53 s7 x0 x1 x4 x5 0 x3) else (X13_restless_b78 rk38 rk53 s7 x0 x1 x4 x5 1 x3))))
def X13_restless_b53 (rk38 : St → Int → Int → Int → Int → Rs) (n : Nat) (s : St) (x0 x1 x3 x4 x5 : Int) : Rs := iter (fun (rec : St × Int × Int × Int × Int × Int → Rs) (a : St × Int × Int × Int × Int × Int) => X13_restless_b53_body rk38 (fun (s : St) (x0 x1 x3 x4 x5 : Int) => rec (s, x0, x1, x3, x4, x5)) a.1 a.2.1 a.2.2.1 a.2.2.2.1 a.2.2.2.2.1 a.2.2.2.2.2) n (s, x0, x1, x3, x4, x5)
theorem X13_restless_b53_0 (rk38 : St → Int → Int → Int → Int → Rs) (s : St) (x0 x1 x3 x4 x5 : Int) : X13_restless_b53 rk38 0 s x0 x1 x3 x4 x5 = none := rfl
theorem X13_restless_b53_1 (rk38 : St → Int → Int → Int → Int → Rs) (n : Nat) (s : St) (x0 x1 x3 x4 x5 : Int) : X13_restless_b53 rk38 (n + 1) s x0 x1 x3 x4 x5 = X13_restless_b53_body rk38 (X13_restless_b53 rk38 n) s x0 x1 x3 x4 x5 := rfl
set_option maxRecDepth 100000 in
set_option maxHeartbeats 4000000 in
theorem X13_restless_b53_body_s (G : Gx) (l : Launch) (rk38 : St → Int → Int → Int → Int → Rs) (rk53 : St → Int → Int → Int → Int → Int → Rs) (hk38 : ∀ (s : St) (x0 x1 x3 x4 : Int), V G l mX13_restless 38 [(0, (2, x0)), (1, (0, x1)), (3, (0, x3)), (4, (0, x4))] [] s (rk38 s x0 x1 x3 x4)) (hk53 : ∀ (s : St) (x0 x1 x3 x4 x5 : Int), V G l mX13_restless 53 [(0, (2, x0)), (1, (0, x1)), (3, (0, x3)), (4, (0, x4)), (5, (0, x5))] [] s (rk53 s x0 x1 x3 x4 x5)) (s : St) (x0 x1 x3 x4 x5 : Int) : V G l mX13_restless 53 [(0, (2, x0)), (1, (0, x1)), (3, (0, x3)), (4, (0, x4)), (5, (0, x5))] [] s (X13_restless_b53_body rk38 rk53 s x0 x1 x3 x4 x5) := by
  unfold X13_restless_b53_body
  refine V_iload dec_X13_restless.2.1.1.2.2.1 4 rfl ?_
  refine V_iload dec_X13_restless.2.1.1.2.2.2 3 rfl ?_
  refine V_icmp_ge (tgt := 86) dec_X13_restless.2.1.2.1.1 (by decide) ?_ ?_
  · refine V_iinc (lv' := [(4, (0, (w32 (x4 + 1)))), (0, (2, x0)), (1, (0, x1)), (3, (0, x3)), (5, (0, x5))]) dec_X13_restless.2.2.2.1.2.1 3 rfl (by decide) rfl ?_
    refine V_goto (tgt := 38) dec_X13_restless.2.2.2.1.2.2 (by decide) ?_
    exact V_pick [1, 2, 3, 0] rfl (hk38 s x0 x1 x3 (w32 (x4 + 1)))
  · refine V_iload_n dec_X13_restless.2.1.2.1.2.1 2 rfl ?_
    refine V_aload_n dec_X13_restless.2.1.2.1.2.2 0 rfl ?_
    refine V_iload dec_X13_restless.2.1.2.2.1.1 3 rfl ?_
    refine V_iload dec_X13_restless.2.1.2.2.1.2 4 rfl ?_
    refine V_iload_n dec_X13_restless.2.1.2.2.2.1 1 rfl ?_
    refine V_callV0 (ci := 13) (a := x0) (As := [(0, x4), (0, x5), (0, x1)]) (st := [(0, x3)]) rfl rfl (X13_isLiked_s G l s x0 x4 x5 x1) cal_X13_isLiked rfl ml_X13_385 rfl rfl dec_X13_restless.2.1.2.2.2.2 (k_tag (tag := 0) rfl fun r6 s7 => ?_)
    refine V_if_eq (tgt := 77) dec_X13_restless.2.2.1.1.1 (by decide) ?_ ?_
    · refine V_iconst dec_X13_restless.2.2.1.2.1.1 rfl ?_
      exact V_pick [0, 1, 3, 4] rfl (X13_restless_b78_s G l rk38 rk53 hk38 hk53 s7 x0 x1 x4 x5 0 x3)
    · refine V_iconst dec_X13_restless.2.2.1.1.2.1 rfl ?_
      refine V_goto (tgt := 78) dec_X13_restless.2.2.1.1.2.2 (by decide) ?_
      exact V_pick [0, 1, 3, 4] rfl (X13_restless_b78_s G l rk38 rk53 hk38 hk53 s7 x0 x1 x4 x5 1 x3)
theorem X13_restless_b53_s (G : Gx) (l : Launch) (rk38 : St → Int → Int → Int → Int → Rs) (hk38 : ∀ (s : St) (x0 x1 x3 x4 : Int), V G l mX13_restless 38 [(0, (2, x0)), (1, (0, x1)), (3, (0, x3)), (4, (0, x4))] [] s (rk38 s x0 x1 x3 x4)) (n : Nat) (s : St) (x0 x1 x3 x4 x5 : Int) : V G l mX13_restless 53 [(0, (2, x0)), (1, (0, x1)), (3, (0, x3)), (4, (0, x4)), (5, (0, x5))] [] s (X13_restless_b53 rk38 n s x0 x1 x3 x4 x5) :=
  V_iter (LV := fun a : St × Int × Int × Int × Int × Int => [(0, (2, a.2.1)), (1, (0, a.2.2.1)), (3, (0, a.2.2.2.1)), (4, (0, a.2.2.2.2.1)), (5, (0, a.2.2.2.2.2))]) (ST := fun a : St × Int × Int × Int × Int × Int => []) (SS := fun a : St × Int × Int × Int × Int × Int => a.1) (fun rec hrec a => X13_restless_b53_body_s G l rk38 (fun (s : St) (x0 x1 x3 x4 x5 : Int) => rec (s, x0, x1, x3, x4, x5)) hk38 (fun (s : St) (x0 x1 x3 x4 x5 : Int) => hrec (s, x0, x1, x3, x4, x5)) a.1 a.2.1 a.2.2.1 a.2.2.2.1 a.2.2.2.2.1 a.2.2.2.2.2) n (s, x0, x1, x3, x4, x5)
def X13_restless_b38_body (rk38 : St → Int → Int → Int → Int → Rs) (s : St) (x0 x1 x3 x4 : Int) : Rs :=
  grd (isK s 23 x0) (grd (isK s 22 (gR s x0 3)) (if (gI s (gR s x0 3) 2) ≤ x4 then (grd (isK s 23 x0) (bnd (X13_good s x0 x3) (fun r4 s5 => some (r4, s5)))) else (X13_restless_b53 rk38 FU s x0 x1 x3 x4 0)))
def X13_restless_b38 (n : Nat) (s : St) (x0 x1 x3 x4 : Int) : Rs := iter (fun (rec : St × Int × Int × Int × Int → Rs) (a : St × Int × Int × Int × Int) => X13_restless_b38_body (fun (s : St) (x0 x1 x3 x4 : Int) => rec (s, x0, x1, x3, x4)) a.1 a.2.1 a.2.2.1 a.2.2.2.1 a.2.2.2.2) n (s, x0, x1, x3, x4)
theorem X13_restless_b38_0 (s : St) (x0 x1 x3 x4 : Int) : X13_restless_b38 0 s x0 x1 x3 x4 = none := rfl
theorem X13_restless_b38_1 (n : Nat) (s : St) (x0 x1 x3 x4 : Int) : X13_restless_b38 (n + 1) s x0 x1 x3 x4 = X13_restless_b38_body (X13_restless_b38 n) s x0 x1 x3 x4 := rfl
set_option maxRecDepth 100000 in
set_option maxHeartbeats 4000000 in
theorem X13_restless_b38_body_s (G : Gx) (l : Launch) (rk38 : St → Int → Int → Int → Int → Rs) (hk38 : ∀ (s : St) (x0 x1 x3 x4 : Int), V G l mX13_restless 38 [(0, (2, x0)), (1, (0, x1)), (3, (0, x3)), (4, (0, x4))] [] s (rk38 s x0 x1 x3 x4)) (s : St) (x0 x1 x3 x4 : Int) : V G l mX13_restless 38 [(0, (2, x0)), (1, (0, x1)), (3, (0, x3)), (4, (0, x4))] [] s (X13_restless_b38_body rk38 s x0 x1 x3 x4) := by
  unfold X13_restless_b38_body
  refine V_iload dec_X13_restless.1.2.2.2.1.2 3 rfl ?_
  refine V_aload_n dec_X13_restless.1.2.2.2.2.1 0 rfl ?_
  refine V_getR 13 3 nf_13_3 ft_13_3 fl_X13_303 dec_X13_restless.1.2.2.2.2.2 ?_
  refine V_getIN RX13 12 2 nf_12_2 ft_12_2 fl_X13_193 dec_X13_restless.2.1.1.1.1 ?_
  refine V_icmp_ge (tgt := 92) dec_X13_restless.2.1.1.1.2.1 (by decide) ?_ ?_
  · refine V_aload_n dec_X13_restless.2.2.2.2.1.1 0 rfl ?_
    refine V_iload_n dec_X13_restless.2.2.2.2.1.2 2 rfl ?_
    refine V_callV0 (ci := 13) (a := x0) (As := [(0, x3)]) (st := []) rfl rfl (X13_good_s G l s x0 x3) cal_X13_good rfl ml_X13_59 rfl rfl dec_X13_restless.2.2.2.2.2.1 (k_tag (tag := 0) rfl fun r4 s5 => ?_)
    exact V_iret rfl dec_X13_restless.2.2.2.2.2.2
  · refine V_iconst dec_X13_restless.2.1.1.1.2.2 rfl ?_
    refine V_istore (lv' := [(5, (0, 0)), (0, (2, x0)), (1, (0, x1)), (3, (0, x3)), (4, (0, x4))]) dec_X13_restless.2.1.1.2.1 (by decide) rfl ?_
    exact V_pick [1, 2, 3, 4, 0] rfl (X13_restless_b53_s G l rk38 hk38 FU s x0 x1 x3 x4 0)
theorem X13_restless_b38_s (G : Gx) (l : Launch) (n : Nat) (s : St) (x0 x1 x3 x4 : Int) : V G l mX13_restless 38 [(0, (2, x0)), (1, (0, x1)), (3, (0, x3)), (4, (0, x4))] [] s (X13_restless_b38 n s x0 x1 x3 x4) :=
  V_iter (LV := fun a : St × Int × Int × Int × Int => [(0, (2, a.2.1)), (1, (0, a.2.2.1)), (3, (0, a.2.2.2.1)), (4, (0, a.2.2.2.2))]) (ST := fun a : St × Int × Int × Int × Int => []) (SS := fun a : St × Int × Int × Int × Int => a.1) (fun rec hrec a => X13_restless_b38_body_s G l (fun (s : St) (x0 x1 x3 x4 : Int) => rec (s, x0, x1, x3, x4)) (fun (s : St) (x0 x1 x3 x4 : Int) => hrec (s, x0, x1, x3, x4)) a.1 a.2.1 a.2.2.1 a.2.2.2.1 a.2.2.2.2) n (s, x0, x1, x3, x4)
def X13_restless_b18 (s : St) (x0 x1 k0 k1 : Int) : Rs :=
  grd (isK s 23 k1) (bnd (X13_refusesNight s k1 k0 x1) (fun r2 s3 => if r2 ≤ 0 then (X13_restless_b38 FU s3 x0 x1 0 0) else (grd (isK s3 23 x0) (bnd (X13_refused s3 x0 r2) (fun r8 s9 => some (r8, s9))))))
set_option maxRecDepth 100000 in
set_option maxHeartbeats 4000000 in
theorem X13_restless_b18_s (G : Gx) (l : Launch) (s : St) (x0 x1 k0 k1 : Int) : V G l mX13_restless 18 [(0, (2, x0)), (1, (0, x1))] [(0, k0), (2, k1)] s (X13_restless_b18 s x0 x1 k0 k1) := by
  unfold X13_restless_b18
  refine V_iload_n dec_X13_restless.1.1.2.2.1.2 1 rfl ?_
  refine V_callV0 (ci := 13) (a := k1) (As := [(0, k0), (0, x1)]) (st := []) rfl rfl (X13_refusesNight_s G l s k1 k0 x1) cal_X13_refusesNight rfl ml_X13_354 rfl rfl dec_X13_restless.1.1.2.2.2.1 (k_tag (tag := 0) rfl fun r2 s3 => ?_)
  refine V_istore_n (lv' := [(2, (0, r2)), (0, (2, x0)), (1, (0, x1))]) dec_X13_restless.1.1.2.2.2.2 (by decide) rfl ?_
  refine V_iload_n dec_X13_restless.1.2.1.1.1 0 rfl ?_
  refine V_if_le (tgt := 33) dec_X13_restless.1.2.1.1.2.1 (by decide) ?_ ?_
  · refine V_iconst dec_X13_restless.1.2.2.1.1 rfl ?_
    refine V_istore_n (lv' := [(3, (0, 0)), (2, (0, r2)), (0, (2, x0)), (1, (0, x1))]) dec_X13_restless.1.2.2.1.2.1 (by decide) rfl ?_
    refine V_iconst dec_X13_restless.1.2.2.1.2.2 rfl ?_
    refine V_istore (lv' := [(4, (0, 0)), (3, (0, 0)), (2, (0, r2)), (0, (2, x0)), (1, (0, x1))]) dec_X13_restless.1.2.2.2.1.1 (by decide) rfl ?_
    exact V_pick [3, 4, 1, 0] rfl (X13_restless_b38_s G l FU s3 x0 x1 0 0)
  · refine V_aload_n dec_X13_restless.1.2.1.1.2.2 1 rfl ?_
    refine V_iload_n dec_X13_restless.1.2.1.2.1 0 rfl ?_
    refine V_callV0 (ci := 13) (a := x0) (As := [(0, r2)]) (st := []) rfl rfl (X13_refused_s G l s3 x0 r2) cal_X13_refused rfl ml_X13_55 rfl rfl dec_X13_restless.1.2.1.2.2.1 (k_tag (tag := 0) rfl fun r8 s9 => ?_)
    exact V_iret rfl dec_X13_restless.1.2.1.2.2.2
def X13_restless (s : St) (a0 a1 : Int) : Rs :=
  grd (isK s 23 a0) (lets (pI s a0 0 0) (fun s1 => grd (isK s1 23 a0) (if (gR s1 a0 3) < 0 then (X13_restless_b18 s1 a0 a1 0 a0) else (X13_restless_b18 s1 a0 a1 1 a0))))
set_option maxRecDepth 100000 in
set_option maxHeartbeats 4000000 in
theorem X13_restless_s (G : Gx) (l : Launch) (s : St) (a0 a1 : Int) : Snd G l mX13_restless [(2, a0), (0, a1)] s (X13_restless s a0 a1) := by
  refine Snd.of (by decide +kernel) rfl ?_
  show V G l mX13_restless 0 [(0, (2, a0)), (1, (0, a1))] [] s _
  unfold X13_restless
  refine V_aload_n dec_X13_restless.1.1.1.1.1 0 rfl ?_
  refine V_iconst dec_X13_restless.1.1.1.1.2.1 rfl ?_
  refine V_putI (host := "") 13 0 nf_13_0 ty_13_0 (Or.inl ⟨fl_X13_49, Or.inl rfl⟩) dec_X13_restless.1.1.1.1.2.2 ?_
  refine V_lets fun s1 => ?_
  refine V_aload_n dec_X13_restless.1.1.1.2.1 0 rfl ?_
  refine V_aload_n dec_X13_restless.1.1.1.2.2.1 0 rfl ?_
  refine V_getR 13 3 nf_13_3 ft_13_3 fl_X13_303 dec_X13_restless.1.1.1.2.2.2 ?_
  refine V_ifnull (tgt := 17) dec_X13_restless.1.1.2.1.1 (by decide) ?_ ?_
  · refine V_iconst dec_X13_restless.1.1.2.2.1.1 rfl ?_
    exact V_pick [0, 1] rfl (X13_restless_b18_s G l s1 a0 a1 0 a0)
  · refine V_iconst dec_X13_restless.1.1.2.1.2.1 rfl ?_
    refine V_goto (tgt := 18) dec_X13_restless.1.1.2.1.2.2 (by decide) ?_
    exact V_pick [0, 1] rfl (X13_restless_b18_s G l s1 a0 a1 1 a0)
theorem dec_X13_rests : (((((decode cX13_rests 0 = .ok (.aload_n 0, 1) ∧ decode cX13_rests 1 = .ok (.iconst 0, 1)) ∧ (decode cX13_rests 2 = .ok (.putfield 49, 3) ∧ decode cX13_rests 5 = .ok (.aload_n 0, 1))) ∧ ((decode cX13_rests 6 = .ok (.iload_n 1, 1) ∧ decode cX13_rests 7 = .ok (.invokevirtual 431, 3)) ∧ (decode cX13_rests 10 = .ok (.istore_n 2, 1) ∧ (decode cX13_rests 11 = .ok (.iload_n 2, 1) ∧ decode cX13_rests 12 = .ok (.ifCond .le 9, 3))))) ∧ (((decode cX13_rests 15 = .ok (.aload_n 0, 1) ∧ decode cX13_rests 16 = .ok (.iload_n 2, 1)) ∧ (decode cX13_rests 17 = .ok (.invokevirtual 55, 3) ∧ decode cX13_rests 20 = .ok (.ireturn, 1))) ∧ ((decode cX13_rests 21 = .ok (.iconst 0, 1) ∧ decode cX13_rests 22 = .ok (.istore_n 3, 1)) ∧ (decode cX13_rests 23 = .ok (.iconst 0, 1) ∧ (decode cX13_rests 24 = .ok (.istore 4, 2) ∧ decode cX13_rests 26 = .ok (.iload 4, 2)))))) ∧ ((((decode cX13_rests 28 = .ok (.iconst 4, 1) ∧ decode cX13_rests 29 = .ok (.if_icmp .ge 26, 3)) ∧ (decode cX13_rests 32 = .ok (.iload_n 3, 1) ∧ decode cX13_rests 33 = .ok (.iload_n 1, 1))) ∧ ((decode cX13_rests 34 = .ok (.iload 4, 2) ∧ decode cX13_rests 36 = .ok (.invokestatic 441, 3)) ∧ (decode cX13_rests 39 = .ok (.ifCond .eq 7, 3) ∧ (decode cX13_rests 42 = .ok (.iconst 1, 1) ∧ decode cX13_rests 43 = .ok (.goto 4, 3))))) ∧ (((decode cX13_rests 46 = .ok (.iconst 0, 1) ∧ decode cX13_rests 47 = .ok (.iadd, 1)) ∧ (decode cX13_rests 48 = .ok (.istore_n 3, 1) ∧ decode cX13_rests 49 = .ok (.iinc 4 1, 3))) ∧ ((decode cX13_rests 52 = .ok (.goto (-26), 3) ∧ decode cX13_rests 55 = .ok (.aload_n 0, 1)) ∧ (decode cX13_rests 56 = .ok (.iload_n 3, 1) ∧ (decode cX13_rests 57 = .ok (.invokevirtual 59, 3) ∧ decode cX13_rests 60 = .ok (.ireturn, 1))))))) := ⟨⟨by decide +kernel, by decide +kernel⟩, ⟨by decide +kernel, by decide +kernel⟩⟩
def X13_rests_b47 (rk26 : St → Int → Int → Int → Int → Rs) (s : St) (x0 x1 x4 k0 k1 : Int) : Rs :=
  rk26 s x0 x1 (w32 (k1 + k0)) (w32 (x4 + 1))
set_option maxRecDepth 100000 in
set_option maxHeartbeats 4000000 in
theorem X13_rests_b47_s (G : Gx) (l : Launch) (rk26 : St → Int → Int → Int → Int → Rs) (hk26 : ∀ (s : St) (x0 x1 x3 x4 : Int), V G l mX13_rests 26 [(0, (2, x0)), (1, (0, x1)), (3, (0, x3)), (4, (0, x4))] [] s (rk26 s x0 x1 x3 x4)) (s : St) (x0 x1 x4 k0 k1 : Int) : V G l mX13_rests 47 [(0, (2, x0)), (1, (0, x1)), (4, (0, x4))] [(0, k0), (0, k1)] s (X13_rests_b47 rk26 s x0 x1 x4 k0 k1) := by
  unfold X13_rests_b47
  refine V_iadd dec_X13_rests.2.2.1.1.2 ?_
  refine V_istore_n (lv' := [(3, (0, (w32 (k1 + k0)))), (0, (2, x0)), (1, (0, x1)), (4, (0, x4))]) dec_X13_rests.2.2.1.2.1 (by decide) rfl ?_
  refine V_iinc (lv' := [(4, (0, (w32 (x4 + 1)))), (3, (0, (w32 (k1 + k0)))), (0, (2, x0)), (1, (0, x1))]) dec_X13_rests.2.2.1.2.2 3 rfl (by decide) rfl ?_
  refine V_goto (tgt := 26) dec_X13_rests.2.2.2.1.1 (by decide) ?_
  exact V_pick [2, 3, 1, 0] rfl (hk26 s x0 x1 (w32 (k1 + k0)) (w32 (x4 + 1)))
def X13_rests_b26_body (rk26 : St → Int → Int → Int → Int → Rs) (s : St) (x0 x1 x3 x4 : Int) : Rs :=
  if (4 : Int) ≤ x4 then (grd (isK s 23 x0) (bnd (X13_good s x0 x3) (fun r4 s5 => some (r4, s5)))) else (bnd (X13_isRest s x1 x4) (fun r6 s7 => if r6 = 0 then (X13_rests_b47 rk26 s7 x0 x1 x4 0 x3) else (X13_rests_b47 rk26 s7 x0 x1 x4 1 x3)))
def X13_rests_b26 (n : Nat) (s : St) (x0 x1 x3 x4 : Int) : Rs := iter (fun (rec : St × Int × Int × Int × Int → Rs) (a : St × Int × Int × Int × Int) => X13_rests_b26_body (fun (s : St) (x0 x1 x3 x4 : Int) => rec (s, x0, x1, x3, x4)) a.1 a.2.1 a.2.2.1 a.2.2.2.1 a.2.2.2.2) n (s, x0, x1, x3, x4)
theorem X13_rests_b26_0 (s : St) (x0 x1 x3 x4 : Int) : X13_rests_b26 0 s x0 x1 x3 x4 = none := rfl
theorem X13_rests_b26_1 (n : Nat) (s : St) (x0 x1 x3 x4 : Int) : X13_rests_b26 (n + 1) s x0 x1 x3 x4 = X13_rests_b26_body (X13_rests_b26 n) s x0 x1 x3 x4 := rfl
set_option maxRecDepth 100000 in
set_option maxHeartbeats 4000000 in
theorem X13_rests_b26_body_s (G : Gx) (l : Launch) (rk26 : St → Int → Int → Int → Int → Rs) (hk26 : ∀ (s : St) (x0 x1 x3 x4 : Int), V G l mX13_rests 26 [(0, (2, x0)), (1, (0, x1)), (3, (0, x3)), (4, (0, x4))] [] s (rk26 s x0 x1 x3 x4)) (s : St) (x0 x1 x3 x4 : Int) : V G l mX13_rests 26 [(0, (2, x0)), (1, (0, x1)), (3, (0, x3)), (4, (0, x4))] [] s (X13_rests_b26_body rk26 s x0 x1 x3 x4) := by
  unfold X13_rests_b26_body
  refine V_iload dec_X13_rests.1.2.2.2.2.2 3 rfl ?_
  refine V_iconst dec_X13_rests.2.1.1.1.1 rfl ?_
  refine V_icmp_ge (tgt := 55) dec_X13_rests.2.1.1.1.2 (by decide) ?_ ?_
  · refine V_aload_n dec_X13_rests.2.2.2.1.2 0 rfl ?_
    refine V_iload_n dec_X13_rests.2.2.2.2.1 2 rfl ?_
    refine V_callV0 (ci := 13) (a := x0) (As := [(0, x3)]) (st := []) rfl rfl (X13_good_s G l s x0 x3) cal_X13_good rfl ml_X13_59 rfl rfl dec_X13_rests.2.2.2.2.2.1 (k_tag (tag := 0) rfl fun r4 s5 => ?_)
    exact V_iret rfl dec_X13_rests.2.2.2.2.2.2
  · refine V_iload_n dec_X13_rests.2.1.1.2.1 2 rfl ?_
    refine V_iload_n dec_X13_rests.2.1.1.2.2 1 rfl ?_
    refine V_iload dec_X13_rests.2.1.2.1.1 3 rfl ?_
    refine V_callS0 (As := [(0, x1), (0, x4)]) (st := [(0, x3)]) (host := "") rfl (X13_isRest_s G l s x1 x4) cal_X13_isRest rfl (Or.inl ml_X13_441) rfl rfl dec_X13_rests.2.1.2.1.2 (k_tag (tag := 0) rfl fun r6 s7 => ?_)
    refine V_if_eq (tgt := 46) dec_X13_rests.2.1.2.2.1 (by decide) ?_ ?_
    · refine V_iconst dec_X13_rests.2.2.1.1.1 rfl ?_
      exact V_pick [0, 1, 3] rfl (X13_rests_b47_s G l rk26 hk26 s7 x0 x1 x4 0 x3)
    · refine V_iconst dec_X13_rests.2.1.2.2.2.1 rfl ?_
      refine V_goto (tgt := 47) dec_X13_rests.2.1.2.2.2.2 (by decide) ?_
      exact V_pick [0, 1, 3] rfl (X13_rests_b47_s G l rk26 hk26 s7 x0 x1 x4 1 x3)
theorem X13_rests_b26_s (G : Gx) (l : Launch) (n : Nat) (s : St) (x0 x1 x3 x4 : Int) : V G l mX13_rests 26 [(0, (2, x0)), (1, (0, x1)), (3, (0, x3)), (4, (0, x4))] [] s (X13_rests_b26 n s x0 x1 x3 x4) :=
  V_iter (LV := fun a : St × Int × Int × Int × Int => [(0, (2, a.2.1)), (1, (0, a.2.2.1)), (3, (0, a.2.2.2.1)), (4, (0, a.2.2.2.2))]) (ST := fun a : St × Int × Int × Int × Int => []) (SS := fun a : St × Int × Int × Int × Int => a.1) (fun rec hrec a => X13_rests_b26_body_s G l (fun (s : St) (x0 x1 x3 x4 : Int) => rec (s, x0, x1, x3, x4)) (fun (s : St) (x0 x1 x3 x4 : Int) => hrec (s, x0, x1, x3, x4)) a.1 a.2.1 a.2.2.1 a.2.2.2.1 a.2.2.2.2) n (s, x0, x1, x3, x4)
def X13_rests (s : St) (a0 a1 : Int) : Rs :=
  grd (isK s 23 a0) (lets (pI s a0 0 0) (fun s1 => grd (isK s1 23 a0) (bnd (X13_refusesSoot s1 a0 a1) (fun r2 s3 => if r2 ≤ 0 then (X13_rests_b26 FU s3 a0 a1 0 0) else (grd (isK s3 23 a0) (bnd (X13_refused s3 a0 r2) (fun r8 s9 => some (r8, s9))))))))
set_option maxRecDepth 100000 in
set_option maxHeartbeats 4000000 in
theorem X13_rests_s (G : Gx) (l : Launch) (s : St) (a0 a1 : Int) : Snd G l mX13_rests [(2, a0), (0, a1)] s (X13_rests s a0 a1) := by
  refine Snd.of (by decide +kernel) rfl ?_
  show V G l mX13_rests 0 [(0, (2, a0)), (1, (0, a1))] [] s _
  unfold X13_rests
  refine V_aload_n dec_X13_rests.1.1.1.1.1 0 rfl ?_
  refine V_iconst dec_X13_rests.1.1.1.1.2 rfl ?_
  refine V_putI (host := "") 13 0 nf_13_0 ty_13_0 (Or.inl ⟨fl_X13_49, Or.inl rfl⟩) dec_X13_rests.1.1.1.2.1 ?_
  refine V_lets fun s1 => ?_
  refine V_aload_n dec_X13_rests.1.1.1.2.2 0 rfl ?_
  refine V_iload_n dec_X13_rests.1.1.2.1.1 1 rfl ?_
  refine V_callV0 (ci := 13) (a := a0) (As := [(0, a1)]) (st := []) rfl rfl (X13_refusesSoot_s G l s1 a0 a1) cal_X13_refusesSoot rfl ml_X13_431 rfl rfl dec_X13_rests.1.1.2.1.2 (k_tag (tag := 0) rfl fun r2 s3 => ?_)
  refine V_istore_n (lv' := [(2, (0, r2)), (0, (2, a0)), (1, (0, a1))]) dec_X13_rests.1.1.2.2.1 (by decide) rfl ?_
  refine V_iload_n dec_X13_rests.1.1.2.2.2.1 0 rfl ?_
  refine V_if_le (tgt := 21) dec_X13_rests.1.1.2.2.2.2 (by decide) ?_ ?_
  · refine V_iconst dec_X13_rests.1.2.2.1.1 rfl ?_
    refine V_istore_n (lv' := [(3, (0, 0)), (2, (0, r2)), (0, (2, a0)), (1, (0, a1))]) dec_X13_rests.1.2.2.1.2 (by decide) rfl ?_
    refine V_iconst dec_X13_rests.1.2.2.2.1 rfl ?_
    refine V_istore (lv' := [(4, (0, 0)), (3, (0, 0)), (2, (0, r2)), (0, (2, a0)), (1, (0, a1))]) dec_X13_rests.1.2.2.2.2.1 (by decide) rfl ?_
    exact V_pick [3, 4, 1, 0] rfl (X13_rests_b26_s G l FU s3 a0 a1 0 0)
  · refine V_aload_n dec_X13_rests.1.2.1.1.1 1 rfl ?_
    refine V_iload_n dec_X13_rests.1.2.1.1.2 0 rfl ?_
    refine V_callV0 (ci := 13) (a := a0) (As := [(0, r2)]) (st := []) rfl rfl (X13_refused_s G l s3 a0 r2) cal_X13_refused rfl ml_X13_55 rfl rfl dec_X13_rests.1.2.1.2.1 (k_tag (tag := 0) rfl fun r8 s9 => ?_)
    exact V_iret rfl dec_X13_rests.1.2.1.2.2
theorem dec_X13_right : ((((decode cX13_right 0 = .ok (.aload_n 0, 1) ∧ (decode cX13_right 1 = .ok (.iconst 0, 1) ∧ decode cX13_right 2 = .ok (.putfield 49, 3))) ∧ (decode cX13_right 5 = .ok (.aload_n 0, 1) ∧ (decode cX13_right 6 = .ok (.aload_n 0, 1) ∧ decode cX13_right 7 = .ok (.getfield 303, 3)))) ∧ ((decode cX13_right 10 = .ok (.ifnull 7, 3) ∧ (decode cX13_right 13 = .ok (.iconst 1, 1) ∧ decode cX13_right 14 = .ok (.goto 4, 3))) ∧ ((decode cX13_right 17 = .ok (.iconst 0, 1) ∧ decode cX13_right 18 = .ok (.iload_n 1, 1)) ∧ (decode cX13_right 19 = .ok (.invokevirtual 354, 3) ∧ decode cX13_right 22 = .ok (.istore_n 2, 1))))) ∧ (((decode cX13_right 23 = .ok (.iload_n 2, 1) ∧ (decode cX13_right 24 = .ok (.ifCond .le 9, 3) ∧ decode cX13_right 27 = .ok (.aload_n 0, 1))) ∧ ((decode cX13_right 28 = .ok (.iload_n 2, 1) ∧ decode cX13_right 29 = .ok (.invokevirtual 55, 3)) ∧ (decode cX13_right 32 = .ok (.ireturn, 1) ∧ decode cX13_right 33 = .ok (.aload_n 0, 1)))) ∧ ((decode cX13_right 34 = .ok (.invokevirtual 342, 3) ∧ (decode cX13_right 37 = .ok (.aload_n 0, 1) ∧ decode cX13_right 38 = .ok (.aload_n 0, 1))) ∧ ((decode cX13_right 39 = .ok (.iload_n 1, 1) ∧ decode cX13_right 40 = .ok (.invokevirtual 358, 3)) ∧ (decode cX13_right 43 = .ok (.invokevirtual 59, 3) ∧ decode cX13_right 46 = .ok (.ireturn, 1)))))) := ⟨⟨by decide +kernel, by decide +kernel⟩, ⟨by decide +kernel, by decide +kernel⟩⟩
def X13_right_b18 (s : St) (x0 x1 k0 k1 : Int) : Rs :=
  grd (isK s 23 k1) (bnd (X13_refusesNight s k1 k0 x1) (fun r2 s3 => if r2 ≤ 0 then (grd (isK s3 23 x0) (bnd (X13_works s3 x0) (fun r4 s5 => grd (isK s5 23 x0) (bnd (X13_rightOn s5 x0 x1) (fun r6 s7 => grd (isK s7 23 x0) (bnd (X13_good s7 x0 r6) (fun r8 s9 => some (r8, s9)))))))) else (grd (isK s3 23 x0) (bnd (X13_refused s3 x0 r2) (fun r10 s11 => some (r10, s11))))))
set_option maxRecDepth 100000 in
set_option maxHeartbeats 4000000 in
theorem X13_right_b18_s (G : Gx) (l : Launch) (s : St) (x0 x1 k0 k1 : Int) : V G l mX13_right 18 [(0, (2, x0)), (1, (0, x1))] [(0, k0), (2, k1)] s (X13_right_b18 s x0 x1 k0 k1) := by
  unfold X13_right_b18
  refine V_iload_n dec_X13_right.1.2.2.1.2 1 rfl ?_
  refine V_callV0 (ci := 13) (a := k1) (As := [(0, k0), (0, x1)]) (st := []) rfl rfl (X13_refusesNight_s G l s k1 k0 x1) cal_X13_refusesNight rfl ml_X13_354 rfl rfl dec_X13_right.1.2.2.2.1 (k_tag (tag := 0) rfl fun r2 s3 => ?_)
  refine V_istore_n (lv' := [(2, (0, r2)), (0, (2, x0)), (1, (0, x1))]) dec_X13_right.1.2.2.2.2 (by decide) rfl ?_
  refine V_iload_n dec_X13_right.2.1.1.1 0 rfl ?_
  refine V_if_le (tgt := 33) dec_X13_right.2.1.1.2.1 (by decide) ?_ ?_
  · refine V_aload_n dec_X13_right.2.1.2.2.2 1 rfl ?_
    refine V_callV0 (ci := 13) (a := x0) (As := []) (st := []) rfl rfl (X13_works_s G l s3 x0) cal_X13_works rfl ml_X13_342 rfl rfl dec_X13_right.2.2.1.1 (k_void rfl fun r4 s5 => ?_)
    refine V_aload_n dec_X13_right.2.2.1.2.1 1 rfl ?_
    refine V_aload_n dec_X13_right.2.2.1.2.2 1 rfl ?_
    refine V_iload_n dec_X13_right.2.2.2.1.1 2 rfl ?_
    refine V_callV0 (ci := 13) (a := x0) (As := [(0, x1)]) (st := [(2, x0)]) rfl rfl (X13_rightOn_s G l s5 x0 x1) cal_X13_rightOn rfl ml_X13_358 rfl rfl dec_X13_right.2.2.2.1.2 (k_tag (tag := 0) rfl fun r6 s7 => ?_)
    refine V_callV0 (ci := 13) (a := x0) (As := [(0, r6)]) (st := []) rfl rfl (X13_good_s G l s7 x0 r6) cal_X13_good rfl ml_X13_59 rfl rfl dec_X13_right.2.2.2.2.1 (k_tag (tag := 0) rfl fun r8 s9 => ?_)
    exact V_iret rfl dec_X13_right.2.2.2.2.2
  · refine V_aload_n dec_X13_right.2.1.1.2.2 1 rfl ?_
    refine V_iload_n dec_X13_right.2.1.2.1.1 0 rfl ?_
    refine V_callV0 (ci := 13) (a := x0) (As := [(0, r2)]) (st := []) rfl rfl (X13_refused_s G l s3 x0 r2) cal_X13_refused rfl ml_X13_55 rfl rfl dec_X13_right.2.1.2.1.2 (k_tag (tag := 0) rfl fun r10 s11 => ?_)
    exact V_iret rfl dec_X13_right.2.1.2.2.1
def X13_right (s : St) (a0 a1 : Int) : Rs :=
  grd (isK s 23 a0) (lets (pI s a0 0 0) (fun s1 => grd (isK s1 23 a0) (if (gR s1 a0 3) < 0 then (X13_right_b18 s1 a0 a1 0 a0) else (X13_right_b18 s1 a0 a1 1 a0))))
set_option maxRecDepth 100000 in
set_option maxHeartbeats 4000000 in
theorem X13_right_s (G : Gx) (l : Launch) (s : St) (a0 a1 : Int) : Snd G l mX13_right [(2, a0), (0, a1)] s (X13_right s a0 a1) := by
  refine Snd.of (by decide +kernel) rfl ?_
  show V G l mX13_right 0 [(0, (2, a0)), (1, (0, a1))] [] s _
  unfold X13_right
  refine V_aload_n dec_X13_right.1.1.1.1 0 rfl ?_
  refine V_iconst dec_X13_right.1.1.1.2.1 rfl ?_
  refine V_putI (host := "") 13 0 nf_13_0 ty_13_0 (Or.inl ⟨fl_X13_49, Or.inl rfl⟩) dec_X13_right.1.1.1.2.2 ?_
  refine V_lets fun s1 => ?_
  refine V_aload_n dec_X13_right.1.1.2.1 0 rfl ?_
  refine V_aload_n dec_X13_right.1.1.2.2.1 0 rfl ?_
  refine V_getR 13 3 nf_13_3 ft_13_3 fl_X13_303 dec_X13_right.1.1.2.2.2 ?_
  refine V_ifnull (tgt := 17) dec_X13_right.1.2.1.1 (by decide) ?_ ?_
  · refine V_iconst dec_X13_right.1.2.2.1.1 rfl ?_
    exact V_pick [0, 1] rfl (X13_right_b18_s G l s1 a0 a1 0 a0)
  · refine V_iconst dec_X13_right.1.2.1.2.1 rfl ?_
    refine V_goto (tgt := 18) dec_X13_right.1.2.1.2.2 (by decide) ?_
    exact V_pick [0, 1] rfl (X13_right_b18_s G l s1 a0 a1 1 a0)
theorem dec_X13_rightFrom : (((((decode cX13_rightFrom 0 = .ok (.aload_n 0, 1) ∧ decode cX13_rightFrom 1 = .ok (.iconst 0, 1)) ∧ (decode cX13_rightFrom 2 = .ok (.putfield 49, 3) ∧ decode cX13_rightFrom 5 = .ok (.aload_n 0, 1))) ∧ ((decode cX13_rightFrom 6 = .ok (.aload_n 0, 1) ∧ decode cX13_rightFrom 7 = .ok (.iload_n 1, 1)) ∧ (decode cX13_rightFrom 8 = .ok (.invokevirtual 348, 3) ∧ (decode cX13_rightFrom 11 = .ok (.iload_n 2, 1) ∧ decode cX13_rightFrom 12 = .ok (.invokevirtual 354, 3))))) ∧ (((decode cX13_rightFrom 15 = .ok (.istore_n 3, 1) ∧ decode cX13_rightFrom 16 = .ok (.iload_n 3, 1)) ∧ (decode cX13_rightFrom 17 = .ok (.ifCond .le 9, 3) ∧ (decode cX13_rightFrom 20 = .ok (.aload_n 0, 1) ∧ decode cX13_rightFrom 21 = .ok (.iload_n 3, 1)))) ∧ ((decode cX13_rightFrom 22 = .ok (.invokevirtual 55, 3) ∧ decode cX13_rightFrom 25 = .ok (.ireturn, 1)) ∧ (decode cX13_rightFrom 26 = .ok (.aload_n 0, 1) ∧ (decode cX13_rightFrom 27 = .ok (.invokevirtual 342, 3) ∧ decode cX13_rightFrom 30 = .ok (.iload_n 2, 1)))))) ∧ ((((decode cX13_rightFrom 31 = .ok (.istore 4, 2) ∧ decode cX13_rightFrom 33 = .ok (.iload 4, 2)) ∧ (decode cX13_rightFrom 35 = .ok (.bipush 100, 2) ∧ decode cX13_rightFrom 37 = .ok (.if_icmp .ge 26, 3))) ∧ ((decode cX13_rightFrom 40 = .ok (.aload_n 0, 1) ∧ decode cX13_rightFrom 41 = .ok (.iload_n 1, 1)) ∧ (decode cX13_rightFrom 42 = .ok (.iload 4, 2) ∧ (decode cX13_rightFrom 44 = .ok (.invokevirtual 336, 3) ∧ decode cX13_rightFrom 47 = .ok (.ifCond .eq 10, 3))))) ∧ (((decode cX13_rightFrom 50 = .ok (.aload_n 0, 1) ∧ decode cX13_rightFrom 51 = .ok (.iload 4, 2)) ∧ (decode cX13_rightFrom 53 = .ok (.invokevirtual 59, 3) ∧ (decode cX13_rightFrom 56 = .ok (.ireturn, 1) ∧ decode cX13_rightFrom 57 = .ok (.iinc 4 1, 3)))) ∧ ((decode cX13_rightFrom 60 = .ok (.goto (-27), 3) ∧ decode cX13_rightFrom 63 = .ok (.aload_n 0, 1)) ∧ (decode cX13_rightFrom 64 = .ok (.bipush (-2), 2) ∧ (decode cX13_rightFrom 66 = .ok (.invokevirtual 59, 3) ∧ decode cX13_rightFrom 69 = .ok (.ireturn, 1))))))) := ⟨⟨by decide +kernel, by decide +kernel⟩, ⟨by decide +kernel, by decide +kernel⟩⟩
def X13_rightFrom_b33_body (rk33 : St → Int → Int → Int → Rs) (s : St) (x0 x1 x4 : Int) : Rs :=
  if (100 : Int) ≤ x4 then (grd (isK s 23 x0) (bnd (X13_good s x0 (-2)) (fun r8 s9 => some (r8, s9)))) else (grd (isK s 23 x0) (bnd (X13_isRight s x0 x1 x4) (fun r10 s11 => if r10 = 0 then (rk33 s11 x0 x1 (w32 (x4 + 1))) else (grd (isK s11 23 x0) (bnd (X13_good s11 x0 x4) (fun r12 s13 => some (r12, s13)))))))
def X13_rightFrom_b33 (n : Nat) (s : St) (x0 x1 x4 : Int) : Rs := iter (fun (rec : St × Int × Int × Int → Rs) (a : St × Int × Int × Int) => X13_rightFrom_b33_body (fun (s : St) (x0 x1 x4 : Int) => rec (s, x0, x1, x4)) a.1 a.2.1 a.2.2.1 a.2.2.2) n (s, x0, x1, x4)
theorem X13_rightFrom_b33_0 (s : St) (x0 x1 x4 : Int) : X13_rightFrom_b33 0 s x0 x1 x4 = none := rfl
theorem X13_rightFrom_b33_1 (n : Nat) (s : St) (x0 x1 x4 : Int) : X13_rightFrom_b33 (n + 1) s x0 x1 x4 = X13_rightFrom_b33_body (X13_rightFrom_b33 n) s x0 x1 x4 := rfl
set_option maxRecDepth 100000 in
set_option maxHeartbeats 4000000 in
theorem X13_rightFrom_b33_body_s (G : Gx) (l : Launch) (rk33 : St → Int → Int → Int → Rs) (hk33 : ∀ (s : St) (x0 x1 x4 : Int), V G l mX13_rightFrom 33 [(0, (2, x0)), (1, (0, x1)), (4, (0, x4))] [] s (rk33 s x0 x1 x4)) (s : St) (x0 x1 x4 : Int) : V G l mX13_rightFrom 33 [(0, (2, x0)), (1, (0, x1)), (4, (0, x4))] [] s (X13_rightFrom_b33_body rk33 s x0 x1 x4) := by
  unfold X13_rightFrom_b33_body
  refine V_iload dec_X13_rightFrom.2.1.1.1.2 2 rfl ?_
  refine V_bipush dec_X13_rightFrom.2.1.1.2.1 rfl ?_
  refine V_icmp_ge (tgt := 63) dec_X13_rightFrom.2.1.1.2.2 (by decide) ?_ ?_
  · refine V_aload_n dec_X13_rightFrom.2.2.2.1.2 0 rfl ?_
    refine V_bipush dec_X13_rightFrom.2.2.2.2.1 rfl ?_
    refine V_callV0 (ci := 13) (a := x0) (As := [(0, (-2))]) (st := []) rfl rfl (X13_good_s G l s x0 (-2)) cal_X13_good rfl ml_X13_59 rfl rfl dec_X13_rightFrom.2.2.2.2.2.1 (k_tag (tag := 0) rfl fun r8 s9 => ?_)
    exact V_iret rfl dec_X13_rightFrom.2.2.2.2.2.2
  · refine V_aload_n dec_X13_rightFrom.2.1.2.1.1 0 rfl ?_
    refine V_iload_n dec_X13_rightFrom.2.1.2.1.2 1 rfl ?_
    refine V_iload dec_X13_rightFrom.2.1.2.2.1 2 rfl ?_
    refine V_callV0 (ci := 13) (a := x0) (As := [(0, x1), (0, x4)]) (st := []) rfl rfl (X13_isRight_s G l s x0 x1 x4) cal_X13_isRight rfl ml_X13_336 rfl rfl dec_X13_rightFrom.2.1.2.2.2.1 (k_tag (tag := 0) rfl fun r10 s11 => ?_)
    refine V_if_eq (tgt := 57) dec_X13_rightFrom.2.1.2.2.2.2 (by decide) ?_ ?_
    · refine V_iinc (lv' := [(4, (0, (w32 (x4 + 1)))), (0, (2, x0)), (1, (0, x1))]) dec_X13_rightFrom.2.2.1.2.2.2 2 rfl (by decide) rfl ?_
      refine V_goto (tgt := 33) dec_X13_rightFrom.2.2.2.1.1 (by decide) ?_
      exact V_pick [1, 2, 0] rfl (hk33 s11 x0 x1 (w32 (x4 + 1)))
    · refine V_aload_n dec_X13_rightFrom.2.2.1.1.1 0 rfl ?_
      refine V_iload dec_X13_rightFrom.2.2.1.1.2 2 rfl ?_
      refine V_callV0 (ci := 13) (a := x0) (As := [(0, x4)]) (st := []) rfl rfl (X13_good_s G l s11 x0 x4) cal_X13_good rfl ml_X13_59 rfl rfl dec_X13_rightFrom.2.2.1.2.1 (k_tag (tag := 0) rfl fun r12 s13 => ?_)
      exact V_iret rfl dec_X13_rightFrom.2.2.1.2.2.1
theorem X13_rightFrom_b33_s (G : Gx) (l : Launch) (n : Nat) (s : St) (x0 x1 x4 : Int) : V G l mX13_rightFrom 33 [(0, (2, x0)), (1, (0, x1)), (4, (0, x4))] [] s (X13_rightFrom_b33 n s x0 x1 x4) :=
  V_iter (LV := fun a : St × Int × Int × Int => [(0, (2, a.2.1)), (1, (0, a.2.2.1)), (4, (0, a.2.2.2))]) (ST := fun a : St × Int × Int × Int => []) (SS := fun a : St × Int × Int × Int => a.1) (fun rec hrec a => X13_rightFrom_b33_body_s G l (fun (s : St) (x0 x1 x4 : Int) => rec (s, x0, x1, x4)) (fun (s : St) (x0 x1 x4 : Int) => hrec (s, x0, x1, x4)) a.1 a.2.1 a.2.2.1 a.2.2.2) n (s, x0, x1, x4)
def X13_rightFrom (s : St) (a0 a1 a2 : Int) : Rs :=
  grd (isK s 23 a0) (lets (pI s a0 0 0) (fun s1 => grd (isK s1 23 a0) (bnd (X13_isDead s1 a0 a1) (fun r2 s3 => grd (isK s3 23 a0) (bnd (X13_refusesNight s3 a0 r2 a2) (fun r4 s5 => if r4 ≤ 0 then (grd (isK s5 23 a0) (bnd (X13_works s5 a0) (fun r6 s7 => X13_rightFrom_b33 FU s7 a0 a1 a2))) else (grd (isK s5 23 a0) (bnd (X13_refused s5 a0 r4) (fun r14 s15 => some (r14, s15))))))))))
set_option maxRecDepth 100000 in
set_option maxHeartbeats 4000000 in
theorem X13_rightFrom_s (G : Gx) (l : Launch) (s : St) (a0 a1 a2 : Int) : Snd G l mX13_rightFrom [(2, a0), (0, a1), (0, a2)] s (X13_rightFrom s a0 a1 a2) := by
  refine Snd.of (by decide +kernel) rfl ?_
  show V G l mX13_rightFrom 0 [(0, (2, a0)), (1, (0, a1)), (2, (0, a2))] [] s _
  unfold X13_rightFrom
  refine V_aload_n dec_X13_rightFrom.1.1.1.1.1 0 rfl ?_
  refine V_iconst dec_X13_rightFrom.1.1.1.1.2 rfl ?_
  refine V_putI (host := "") 13 0 nf_13_0 ty_13_0 (Or.inl ⟨fl_X13_49, Or.inl rfl⟩) dec_X13_rightFrom.1.1.1.2.1 ?_
  refine V_lets fun s1 => ?_
  refine V_aload_n dec_X13_rightFrom.1.1.1.2.2 0 rfl ?_
  refine V_aload_n dec_X13_rightFrom.1.1.2.1.1 0 rfl ?_
  refine V_iload_n dec_X13_rightFrom.1.1.2.1.2 1 rfl ?_
  refine V_callV0 (ci := 13) (a := a0) (As := [(0, a1)]) (st := [(2, a0)]) rfl rfl (X13_isDead_s G l s1 a0 a1) cal_X13_isDead rfl ml_X13_348 rfl rfl dec_X13_rightFrom.1.1.2.2.1 (k_tag (tag := 0) rfl fun r2 s3 => ?_)
  refine V_iload_n dec_X13_rightFrom.1.1.2.2.2.1 2 rfl ?_
  refine V_callV0 (ci := 13) (a := a0) (As := [(0, r2), (0, a2)]) (st := []) rfl rfl (X13_refusesNight_s G l s3 a0 r2 a2) cal_X13_refusesNight rfl ml_X13_354 rfl rfl dec_X13_rightFrom.1.1.2.2.2.2 (k_tag (tag := 0) rfl fun r4 s5 => ?_)
  refine V_istore_n (lv' := [(3, (0, r4)), (0, (2, a0)), (1, (0, a1)), (2, (0, a2))]) dec_X13_rightFrom.1.2.1.1.1 (by decide) rfl ?_
  refine V_iload_n dec_X13_rightFrom.1.2.1.1.2 0 rfl ?_
  refine V_if_le (tgt := 26) dec_X13_rightFrom.1.2.1.2.1 (by decide) ?_ ?_
  · refine V_aload_n dec_X13_rightFrom.1.2.2.2.1 1 rfl ?_
    refine V_callV0 (ci := 13) (a := a0) (As := []) (st := []) rfl rfl (X13_works_s G l s5 a0) cal_X13_works rfl ml_X13_342 rfl rfl dec_X13_rightFrom.1.2.2.2.2.1 (k_void rfl fun r6 s7 => ?_)
    refine V_iload_n dec_X13_rightFrom.1.2.2.2.2.2 3 rfl ?_
    refine V_istore (lv' := [(4, (0, a2)), (3, (0, r4)), (0, (2, a0)), (1, (0, a1)), (2, (0, a2))]) dec_X13_rightFrom.2.1.1.1.1 (by decide) rfl ?_
    exact V_pick [2, 3, 0] rfl (X13_rightFrom_b33_s G l FU s7 a0 a1 a2)
  · refine V_aload_n dec_X13_rightFrom.1.2.1.2.2.1 1 rfl ?_
    refine V_iload_n dec_X13_rightFrom.1.2.1.2.2.2 0 rfl ?_
    refine V_callV0 (ci := 13) (a := a0) (As := [(0, r4)]) (st := []) rfl rfl (X13_refused_s G l s5 a0 r4) cal_X13_refused rfl ml_X13_55 rfl rfl dec_X13_rightFrom.1.2.2.1.1 (k_tag (tag := 0) rfl fun r14 s15 => ?_)
    exact V_iret rfl dec_X13_rightFrom.1.2.2.1.2
theorem dec_X13_rights : ((((((decode cX13_rights 0 = .ok (.aload_n 0, 1) ∧ decode cX13_rights 1 = .ok (.iconst 0, 1)) ∧ (decode cX13_rights 2 = .ok (.putfield 49, 3) ∧ decode cX13_rights 5 = .ok (.aload_n 0, 1))) ∧ ((decode cX13_rights 6 = .ok (.getfield 303, 3) ∧ decode cX13_rights 9 = .ok (.ifnonnull 9, 3)) ∧ (decode cX13_rights 12 = .ok (.aload_n 0, 1) ∧ decode cX13_rights 13 = .ok (.iconst 1, 1)))) ∧ (((decode cX13_rights 14 = .ok (.invokevirtual 55, 3) ∧ decode cX13_rights 17 = .ok (.ireturn, 1)) ∧ (decode cX13_rights 18 = .ok (.iload_n 1, 1) ∧ decode cX13_rights 19 = .ok (.iconst 0, 1))) ∧ ((decode cX13_rights 20 = .ok (.ldc_w 465, 3) ∧ decode cX13_rights 23 = .ok (.invokestatic 128, 3)) ∧ (decode cX13_rights 26 = .ok (.ifCond .eq 13, 3) ∧ (decode cX13_rights 29 = .ok (.iload_n 2, 1) ∧ decode cX13_rights 30 = .ok (.iconst 0, 1)))))) ∧ ((((decode cX13_rights 31 = .ok (.bipush 99, 2) ∧ decode cX13_rights 33 = .ok (.invokestatic 128, 3)) ∧ (decode cX13_rights 36 = .ok (.ifCond .ne 9, 3) ∧ decode cX13_rights 39 = .ok (.aload_n 0, 1))) ∧ ((decode cX13_rights 40 = .ok (.iconst 2, 1) ∧ decode cX13_rights 41 = .ok (.invokevirtual 55, 3)) ∧ (decode cX13_rights 44 = .ok (.ireturn, 1) ∧ decode cX13_rights 45 = .ok (.aload_n 0, 1)))) ∧ (((decode cX13_rights 46 = .ok (.invokevirtual 342, 3) ∧ decode cX13_rights 49 = .ok (.aload_n 0, 1)) ∧ (decode cX13_rights 50 = .ok (.iload_n 1, 1) ∧ decode cX13_rights 51 = .ok (.putfield 458, 3))) ∧ ((decode cX13_rights 54 = .ok (.iconst 0, 1) ∧ decode cX13_rights 55 = .ok (.istore_n 3, 1)) ∧ (decode cX13_rights 56 = .ok (.iconst 0, 1) ∧ (decode cX13_rights 57 = .ok (.istore 4, 2) ∧ decode cX13_rights 59 = .ok (.iload 4, 2))))))) ∧ (((((decode cX13_rights 61 = .ok (.iload_n 2, 1) ∧ decode cX13_rights 62 = .ok (.if_icmp .ge 63, 3)) ∧ (decode cX13_rights 65 = .ok (.iconst 0, 1) ∧ decode cX13_rights 66 = .ok (.istore 5, 2))) ∧ ((decode cX13_rights 68 = .ok (.iload 5, 2) ∧ decode cX13_rights 70 = .ok (.aload_n 0, 1)) ∧ (decode cX13_rights 71 = .ok (.getfield 303, 3) ∧ decode cX13_rights 74 = .ok (.getfield 241, 3)))) ∧ (((decode cX13_rights 77 = .ok (.if_icmp .ge 42, 3) ∧ decode cX13_rights 80 = .ok (.iload_n 3, 1)) ∧ (decode cX13_rights 81 = .ok (.aload_n 0, 1) ∧ decode cX13_rights 82 = .ok (.iload 5, 2))) ∧ ((decode cX13_rights 84 = .ok (.iload 4, 2) ∧ decode cX13_rights 86 = .ok (.aload_n 0, 1)) ∧ (decode cX13_rights 87 = .ok (.invokevirtual 466, 3) ∧ (decode cX13_rights 90 = .ok (.invokevirtual 444, 3) ∧ decode cX13_rights 93 = .ok (.aload_n 0, 1)))))) ∧ ((((decode cX13_rights 94 = .ok (.getfield 303, 3) ∧ decode cX13_rights 97 = .ok (.getfield 263, 3)) ∧ (decode cX13_rights 100 = .ok (.iload 5, 2) ∧ decode cX13_rights 102 = .ok (.iaload, 1))) ∧ ((decode cX13_rights 103 = .ok (.if_icmp .ne 7, 3) ∧ decode cX13_rights 106 = .ok (.iconst 1, 1)) ∧ (decode cX13_rights 107 = .ok (.goto 4, 3) ∧ (decode cX13_rights 110 = .ok (.iconst 0, 1) ∧ decode cX13_rights 111 = .ok (.iadd, 1))))) ∧ (((decode cX13_rights 112 = .ok (.istore_n 3, 1) ∧ decode cX13_rights 113 = .ok (.iinc 5 1, 3)) ∧ (decode cX13_rights 116 = .ok (.goto (-48), 3) ∧ decode cX13_rights 119 = .ok (.iinc 4 1, 3))) ∧ ((decode cX13_rights 122 = .ok (.goto (-63), 3) ∧ decode cX13_rights 125 = .ok (.aload_n 0, 1)) ∧ (decode cX13_rights 126 = .ok (.iload_n 3, 1) ∧ (decode cX13_rights 127 = .ok (.invokevirtual 59, 3) ∧ decode cX13_rights 130 = .ok (.ireturn, 1)))))))) := ⟨⟨⟨by decide +kernel, by decide +kernel⟩, ⟨by decide +kernel, by decide +kernel⟩⟩, ⟨⟨by decide +kernel, by decide +kernel⟩, ⟨by decide +kernel, by decide +kernel⟩⟩⟩
def X13_rights_b39 (s : St) (x0 : Int) : Rs :=
  grd (isK s 23 x0) (bnd (X13_refused s x0 2) (fun r4 s5 => some (r4, s5)))
set_option maxRecDepth 100000 in
set_option maxHeartbeats 4000000 in
theorem X13_rights_b39_s (G : Gx) (l : Launch) (s : St) (x0 : Int) : V G l mX13_rights 39 [(0, (2, x0))] [] s (X13_rights_b39 s x0) := by
  unfold X13_rights_b39
  refine V_aload_n dec_X13_rights.1.2.1.1.2.2 0 rfl ?_
  refine V_iconst dec_X13_rights.1.2.1.2.1.1 rfl ?_
  refine V_callV0 (ci := 13) (a := x0) (As := [(0, 2)]) (st := []) rfl rfl (X13_refused_s G l s x0 2) cal_X13_refused rfl ml_X13_55 rfl rfl dec_X13_rights.1.2.1.2.1.2 (k_tag (tag := 0) rfl fun r4 s5 => ?_)
  exact V_iret rfl dec_X13_rights.1.2.1.2.2.1
def X13_rights_b111 (rk59 : St → Int → Int → Int → Int → Rs) (rk68 : St → Int → Int → Int → Int → Int → Rs) (s : St) (x0 x2 x4 x5 k0 k1 : Int) : Rs :=
  rk68 s x0 x2 (w32 (k1 + k0)) x4 (w32 (x5 + 1))
set_option maxRecDepth 100000 in
set_option maxHeartbeats 4000000 in
theorem X13_rights_b111_s (G : Gx) (l : Launch) (rk59 : St → Int → Int → Int → Int → Rs) (rk68 : St → Int → Int → Int → Int → Int → Rs) (hk59 : ∀ (s : St) (x0 x2 x3 x4 : Int), V G l mX13_rights 59 [(0, (2, x0)), (2, (0, x2)), (3, (0, x3)), (4, (0, x4))] [] s (rk59 s x0 x2 x3 x4)) (hk68 : ∀ (s : St) (x0 x2 x3 x4 x5 : Int), V G l mX13_rights 68 [(0, (2, x0)), (2, (0, x2)), (3, (0, x3)), (4, (0, x4)), (5, (0, x5))] [] s (rk68 s x0 x2 x3 x4 x5)) (s : St) (x0 x2 x4 x5 k0 k1 : Int) : V G l mX13_rights 111 [(0, (2, x0)), (2, (0, x2)), (4, (0, x4)), (5, (0, x5))] [(0, k0), (0, k1)] s (X13_rights_b111 rk59 rk68 s x0 x2 x4 x5 k0 k1) := by
  unfold X13_rights_b111
  refine V_iadd dec_X13_rights.2.2.1.2.2.2.2 ?_
  refine V_istore_n (lv' := [(3, (0, (w32 (k1 + k0)))), (0, (2, x0)), (2, (0, x2)), (4, (0, x4)), (5, (0, x5))]) dec_X13_rights.2.2.2.1.1.1 (by decide) rfl ?_
  refine V_iinc (lv' := [(5, (0, (w32 (x5 + 1)))), (3, (0, (w32 (k1 + k0)))), (0, (2, x0)), (2, (0, x2)), (4, (0, x4))]) dec_X13_rights.2.2.2.1.1.2 4 rfl (by decide) rfl ?_
  refine V_goto (tgt := 68) dec_X13_rights.2.2.2.1.2.1 (by decide) ?_
  exact V_pick [2, 3, 1, 4, 0] rfl (hk68 s x0 x2 (w32 (k1 + k0)) x4 (w32 (x5 + 1)))
def X13_rights_b68_body (rk59 : St → Int → Int → Int → Int → Rs) (rk68 : St → Int → Int → Int → Int → Int → Rs) (s : St) (x0 x2 x3 x4 x5 : Int) : Rs :=
  grd (isK s 23 x0) (grd (isK s 22 (gR s x0 3)) (if (gI s (gR s x0 3) 3) ≤ x5 then (rk59 s x0 x2 x3 (w32 (x4 + 1))) else (grd (isK s 23 x0) (bnd (X13_further s x0) (fun r13 s14 => grd (isK s14 23 x0) (bnd (X13_hearerBy s14 x0 x5 x4 r13) (fun r15 s16 => grd (isK s16 23 x0) (grd (isK s16 22 (gR s16 x0 3)) (grd (isK s16 1 (gR s16 (gR s16 x0 3) 11) ∧ 0 ≤ x5 ∧ x5 < ln s16 (gR s16 (gR s16 x0 3) 11)) (if ¬ r15 = (gI s16 (gR s16 (gR s16 x0 3) 11) x5.toNat) then (X13_rights_b111 rk59 rk68 s16 x0 x2 x4 x5 0 x3) else (X13_rights_b111 rk59 rk68 s16 x0 x2 x4 x5 1 x3)))))))))))
def X13_rights_b68 (rk59 : St → Int → Int → Int → Int → Rs) (n : Nat) (s : St) (x0 x2 x3 x4 x5 : Int) : Rs := iter (fun (rec : St × Int × Int × Int × Int × Int → Rs) (a : St × Int × Int × Int × Int × Int) => X13_rights_b68_body rk59 (fun (s : St) (x0 x2 x3 x4 x5 : Int) => rec (s, x0, x2, x3, x4, x5)) a.1 a.2.1 a.2.2.1 a.2.2.2.1 a.2.2.2.2.1 a.2.2.2.2.2) n (s, x0, x2, x3, x4, x5)
theorem X13_rights_b68_0 (rk59 : St → Int → Int → Int → Int → Rs) (s : St) (x0 x2 x3 x4 x5 : Int) : X13_rights_b68 rk59 0 s x0 x2 x3 x4 x5 = none := rfl
theorem X13_rights_b68_1 (rk59 : St → Int → Int → Int → Int → Rs) (n : Nat) (s : St) (x0 x2 x3 x4 x5 : Int) : X13_rights_b68 rk59 (n + 1) s x0 x2 x3 x4 x5 = X13_rights_b68_body rk59 (X13_rights_b68 rk59 n) s x0 x2 x3 x4 x5 := rfl
set_option maxRecDepth 100000 in
set_option maxHeartbeats 4000000 in
theorem X13_rights_b68_body_s (G : Gx) (l : Launch) (rk59 : St → Int → Int → Int → Int → Rs) (rk68 : St → Int → Int → Int → Int → Int → Rs) (hk59 : ∀ (s : St) (x0 x2 x3 x4 : Int), V G l mX13_rights 59 [(0, (2, x0)), (2, (0, x2)), (3, (0, x3)), (4, (0, x4))] [] s (rk59 s x0 x2 x3 x4)) (hk68 : ∀ (s : St) (x0 x2 x3 x4 x5 : Int), V G l mX13_rights 68 [(0, (2, x0)), (2, (0, x2)), (3, (0, x3)), (4, (0, x4)), (5, (0, x5))] [] s (rk68 s x0 x2 x3 x4 x5)) (s : St) (x0 x2 x3 x4 x5 : Int) : V G l mX13_rights 68 [(0, (2, x0)), (2, (0, x2)), (3, (0, x3)), (4, (0, x4)), (5, (0, x5))] [] s (X13_rights_b68_body rk59 rk68 s x0 x2 x3 x4 x5) := by
  unfold X13_rights_b68_body
  refine V_iload dec_X13_rights.2.1.1.2.1.1 4 rfl ?_
  refine V_aload_n dec_X13_rights.2.1.1.2.1.2 0 rfl ?_
  refine V_getR 13 3 nf_13_3 ft_13_3 fl_X13_303 dec_X13_rights.2.1.1.2.2.1 ?_
  refine V_getIN RX13 12 3 nf_12_3 ft_12_3 fl_X13_241 dec_X13_rights.2.1.1.2.2.2 ?_
  refine V_icmp_ge (tgt := 119) dec_X13_rights.2.1.2.1.1.1 (by decide) ?_ ?_
  · refine V_iinc (lv' := [(4, (0, (w32 (x4 + 1)))), (0, (2, x0)), (2, (0, x2)), (3, (0, x3)), (5, (0, x5))]) dec_X13_rights.2.2.2.1.2.2 3 rfl (by decide) rfl ?_
    refine V_goto (tgt := 59) dec_X13_rights.2.2.2.2.1.1 (by decide) ?_
    exact V_pick [1, 2, 3, 0] rfl (hk59 s x0 x2 x3 (w32 (x4 + 1)))
  · refine V_iload_n dec_X13_rights.2.1.2.1.1.2 2 rfl ?_
    refine V_aload_n dec_X13_rights.2.1.2.1.2.1 0 rfl ?_
    refine V_iload dec_X13_rights.2.1.2.1.2.2 4 rfl ?_
    refine V_iload dec_X13_rights.2.1.2.2.1.1 3 rfl ?_
    refine V_aload_n dec_X13_rights.2.1.2.2.1.2 0 rfl ?_
    refine V_callV0 (ci := 13) (a := x0) (As := []) (st := [(0, x4), (0, x5), (2, x0), (0, x3)]) rfl rfl (X13_further_s G l s x0) cal_X13_further rfl ml_X13_466 rfl rfl dec_X13_rights.2.1.2.2.2.1 (k_tag (tag := 0) rfl fun r13 s14 => ?_)
    refine V_callV0 (ci := 13) (a := x0) (As := [(0, x5), (0, x4), (0, r13)]) (st := [(0, x3)]) rfl rfl (X13_hearerBy_s G l s14 x0 x5 x4 r13) cal_X13_hearerBy rfl ml_X13_444 rfl rfl dec_X13_rights.2.1.2.2.2.2.1 (k_tag (tag := 0) rfl fun r15 s16 => ?_)
    refine V_aload_n dec_X13_rights.2.1.2.2.2.2.2 0 rfl ?_
    refine V_getR 13 3 nf_13_3 ft_13_3 fl_X13_303 dec_X13_rights.2.2.1.1.1.1 ?_
    refine V_getRN RX13 12 11 nf_12_11 ft_12_11 fl_X13_263 dec_X13_rights.2.2.1.1.1.2 ?_
    refine V_iload dec_X13_rights.2.2.1.1.2.1 4 rfl ?_
    refine V_iald dec_X13_rights.2.2.1.1.2.2 ?_
    refine V_icmp_ne (tgt := 110) dec_X13_rights.2.2.1.2.1.1 (by decide) ?_ ?_
    · refine V_iconst dec_X13_rights.2.2.1.2.2.2.1 rfl ?_
      exact V_pick [0, 1, 3, 4] rfl (X13_rights_b111_s G l rk59 rk68 hk59 hk68 s16 x0 x2 x4 x5 0 x3)
    · refine V_iconst dec_X13_rights.2.2.1.2.1.2 rfl ?_
      refine V_goto (tgt := 111) dec_X13_rights.2.2.1.2.2.1 (by decide) ?_
      exact V_pick [0, 1, 3, 4] rfl (X13_rights_b111_s G l rk59 rk68 hk59 hk68 s16 x0 x2 x4 x5 1 x3)
theorem X13_rights_b68_s (G : Gx) (l : Launch) (rk59 : St → Int → Int → Int → Int → Rs) (hk59 : ∀ (s : St) (x0 x2 x3 x4 : Int), V G l mX13_rights 59 [(0, (2, x0)), (2, (0, x2)), (3, (0, x3)), (4, (0, x4))] [] s (rk59 s x0 x2 x3 x4)) (n : Nat) (s : St) (x0 x2 x3 x4 x5 : Int) : V G l mX13_rights 68 [(0, (2, x0)), (2, (0, x2)), (3, (0, x3)), (4, (0, x4)), (5, (0, x5))] [] s (X13_rights_b68 rk59 n s x0 x2 x3 x4 x5) :=
  V_iter (LV := fun a : St × Int × Int × Int × Int × Int => [(0, (2, a.2.1)), (2, (0, a.2.2.1)), (3, (0, a.2.2.2.1)), (4, (0, a.2.2.2.2.1)), (5, (0, a.2.2.2.2.2))]) (ST := fun a : St × Int × Int × Int × Int × Int => []) (SS := fun a : St × Int × Int × Int × Int × Int => a.1) (fun rec hrec a => X13_rights_b68_body_s G l rk59 (fun (s : St) (x0 x2 x3 x4 x5 : Int) => rec (s, x0, x2, x3, x4, x5)) hk59 (fun (s : St) (x0 x2 x3 x4 x5 : Int) => hrec (s, x0, x2, x3, x4, x5)) a.1 a.2.1 a.2.2.1 a.2.2.2.1 a.2.2.2.2.1 a.2.2.2.2.2) n (s, x0, x2, x3, x4, x5)
def X13_rights_b59_body (rk59 : St → Int → Int → Int → Int → Rs) (s : St) (x0 x2 x3 x4 : Int) : Rs :=
  if x2 ≤ x4 then (grd (isK s 23 x0) (bnd (X13_good s x0 x3) (fun r11 s12 => some (r11, s12)))) else (X13_rights_b68 rk59 FU s x0 x2 x3 x4 0)
def X13_rights_b59 (n : Nat) (s : St) (x0 x2 x3 x4 : Int) : Rs := iter (fun (rec : St × Int × Int × Int × Int → Rs) (a : St × Int × Int × Int × Int) => X13_rights_b59_body (fun (s : St) (x0 x2 x3 x4 : Int) => rec (s, x0, x2, x3, x4)) a.1 a.2.1 a.2.2.1 a.2.2.2.1 a.2.2.2.2) n (s, x0, x2, x3, x4)
theorem X13_rights_b59_0 (s : St) (x0 x2 x3 x4 : Int) : X13_rights_b59 0 s x0 x2 x3 x4 = none := rfl
theorem X13_rights_b59_1 (n : Nat) (s : St) (x0 x2 x3 x4 : Int) : X13_rights_b59 (n + 1) s x0 x2 x3 x4 = X13_rights_b59_body (X13_rights_b59 n) s x0 x2 x3 x4 := rfl
set_option maxRecDepth 100000 in
set_option maxHeartbeats 4000000 in
theorem X13_rights_b59_body_s (G : Gx) (l : Launch) (rk59 : St → Int → Int → Int → Int → Rs) (hk59 : ∀ (s : St) (x0 x2 x3 x4 : Int), V G l mX13_rights 59 [(0, (2, x0)), (2, (0, x2)), (3, (0, x3)), (4, (0, x4))] [] s (rk59 s x0 x2 x3 x4)) (s : St) (x0 x2 x3 x4 : Int) : V G l mX13_rights 59 [(0, (2, x0)), (2, (0, x2)), (3, (0, x3)), (4, (0, x4))] [] s (X13_rights_b59_body rk59 s x0 x2 x3 x4) := by
  unfold X13_rights_b59_body
  refine V_iload dec_X13_rights.1.2.2.2.2.2.2 3 rfl ?_
  refine V_iload_n dec_X13_rights.2.1.1.1.1.1 1 rfl ?_
  refine V_icmp_ge (tgt := 125) dec_X13_rights.2.1.1.1.1.2 (by decide) ?_ ?_
  · refine V_aload_n dec_X13_rights.2.2.2.2.1.2 0 rfl ?_
    refine V_iload_n dec_X13_rights.2.2.2.2.2.1 2 rfl ?_
    refine V_callV0 (ci := 13) (a := x0) (As := [(0, x3)]) (st := []) rfl rfl (X13_good_s G l s x0 x3) cal_X13_good rfl ml_X13_59 rfl rfl dec_X13_rights.2.2.2.2.2.2.1 (k_tag (tag := 0) rfl fun r11 s12 => ?_)
    exact V_iret rfl dec_X13_rights.2.2.2.2.2.2.2
  · refine V_iconst dec_X13_rights.2.1.1.1.2.1 rfl ?_
    refine V_istore (lv' := [(5, (0, 0)), (0, (2, x0)), (2, (0, x2)), (3, (0, x3)), (4, (0, x4))]) dec_X13_rights.2.1.1.1.2.2 (by decide) rfl ?_
    exact V_pick [1, 2, 3, 4, 0] rfl (X13_rights_b68_s G l rk59 hk59 FU s x0 x2 x3 x4 0)
theorem X13_rights_b59_s (G : Gx) (l : Launch) (n : Nat) (s : St) (x0 x2 x3 x4 : Int) : V G l mX13_rights 59 [(0, (2, x0)), (2, (0, x2)), (3, (0, x3)), (4, (0, x4))] [] s (X13_rights_b59 n s x0 x2 x3 x4) :=
  V_iter (LV := fun a : St × Int × Int × Int × Int => [(0, (2, a.2.1)), (2, (0, a.2.2.1)), (3, (0, a.2.2.2.1)), (4, (0, a.2.2.2.2))]) (ST := fun a : St × Int × Int × Int × Int => []) (SS := fun a : St × Int × Int × Int × Int => a.1) (fun rec hrec a => X13_rights_b59_body_s G l (fun (s : St) (x0 x2 x3 x4 : Int) => rec (s, x0, x2, x3, x4)) (fun (s : St) (x0 x2 x3 x4 : Int) => hrec (s, x0, x2, x3, x4)) a.1 a.2.1 a.2.2.1 a.2.2.2.1 a.2.2.2.2) n (s, x0, x2, x3, x4)
def X13_rights (s : St) (a0 a1 a2 : Int) : Rs :=
  grd (isK s 23 a0) (lets (pI s a0 0 0) (fun s1 => grd (isK s1 23 a0) (if (gR s1 a0 3) < 0 then (grd (isK s1 23 a0) (bnd (X13_refused s1 a0 1) (fun r17 s18 => some (r17, s18)))) else (bnd (X13_in s1 a1 0 65536) (fun r2 s3 => if r2 = 0 then (X13_rights_b39 s3 a0) else (bnd (X13_in s3 a2 0 99) (fun r6 s7 => if ¬ r6 = 0 then (grd (isK s7 23 a0) (bnd (X13_works s7 a0) (fun r8 s9 => grd (isK s9 23 a0) (lets (pI s9 a0 32 a1) (fun s10 => X13_rights_b59 FU s10 a0 a2 0 0))))) else (X13_rights_b39 s7 a0))))))))
set_option maxRecDepth 100000 in
set_option maxHeartbeats 4000000 in
theorem X13_rights_s (G : Gx) (l : Launch) (s : St) (a0 a1 a2 : Int) : Snd G l mX13_rights [(2, a0), (0, a1), (0, a2)] s (X13_rights s a0 a1 a2) := by
  refine Snd.of (by decide +kernel) rfl ?_
  show V G l mX13_rights 0 [(0, (2, a0)), (1, (0, a1)), (2, (0, a2))] [] s _
  unfold X13_rights
  refine V_aload_n dec_X13_rights.1.1.1.1.1.1 0 rfl ?_
  refine V_iconst dec_X13_rights.1.1.1.1.1.2 rfl ?_
  refine V_putI (host := "") 13 0 nf_13_0 ty_13_0 (Or.inl ⟨fl_X13_49, Or.inl rfl⟩) dec_X13_rights.1.1.1.1.2.1 ?_
  refine V_lets fun s1 => ?_
  refine V_aload_n dec_X13_rights.1.1.1.1.2.2 0 rfl ?_
  refine V_getR 13 3 nf_13_3 ft_13_3 fl_X13_303 dec_X13_rights.1.1.1.2.1.1 ?_
  refine V_ifnonnull (tgt := 18) dec_X13_rights.1.1.1.2.1.2 (by decide) ?_ ?_
  · refine V_aload_n dec_X13_rights.1.1.1.2.2.1 0 rfl ?_
    refine V_iconst dec_X13_rights.1.1.1.2.2.2 rfl ?_
    refine V_callV0 (ci := 13) (a := a0) (As := [(0, 1)]) (st := []) rfl rfl (X13_refused_s G l s1 a0 1) cal_X13_refused rfl ml_X13_55 rfl rfl dec_X13_rights.1.1.2.1.1.1 (k_tag (tag := 0) rfl fun r17 s18 => ?_)
    exact V_iret rfl dec_X13_rights.1.1.2.1.1.2
  · refine V_iload_n dec_X13_rights.1.1.2.1.2.1 1 rfl ?_
    refine V_iconst dec_X13_rights.1.1.2.1.2.2 rfl ?_
    refine V_ldcw (n := 65536) cw_X13_465 (by decide) dec_X13_rights.1.1.2.2.1.1 ?_
    refine V_callS0 (As := [(0, a1), (0, 0), (0, 65536)]) (st := []) (host := "") rfl (X13_in_s G l s1 a1 0 65536) cal_X13_in rfl (Or.inl ml_X13_128) rfl rfl dec_X13_rights.1.1.2.2.1.2 (k_tag (tag := 0) rfl fun r2 s3 => ?_)
    refine V_if_eq (tgt := 39) dec_X13_rights.1.1.2.2.2.1 (by decide) ?_ ?_
    · exact V_pick [0] rfl (X13_rights_b39_s G l s3 a0)
    · refine V_iload_n dec_X13_rights.1.1.2.2.2.2.1 2 rfl ?_
      refine V_iconst dec_X13_rights.1.1.2.2.2.2.2 rfl ?_
      refine V_bipush dec_X13_rights.1.2.1.1.1.1 rfl ?_
      refine V_callS0 (As := [(0, a2), (0, 0), (0, 99)]) (st := []) (host := "") rfl (X13_in_s G l s3 a2 0 99) cal_X13_in rfl (Or.inl ml_X13_128) rfl rfl dec_X13_rights.1.2.1.1.1.2 (k_tag (tag := 0) rfl fun r6 s7 => ?_)
      refine V_if_ne (tgt := 45) dec_X13_rights.1.2.1.1.2.1 (by decide) ?_ ?_
      · refine V_aload_n dec_X13_rights.1.2.1.2.2.2 0 rfl ?_
        refine V_callV0 (ci := 13) (a := a0) (As := []) (st := []) rfl rfl (X13_works_s G l s7 a0) cal_X13_works rfl ml_X13_342 rfl rfl dec_X13_rights.1.2.2.1.1.1 (k_void rfl fun r8 s9 => ?_)
        refine V_aload_n dec_X13_rights.1.2.2.1.1.2 0 rfl ?_
        refine V_iload_n dec_X13_rights.1.2.2.1.2.1 1 rfl ?_
        refine V_putI (host := "") 13 32 nf_13_32 ty_13_32 (Or.inl ⟨fl_X13_458, Or.inl rfl⟩) dec_X13_rights.1.2.2.1.2.2 ?_
        refine V_lets fun s10 => ?_
        refine V_iconst dec_X13_rights.1.2.2.2.1.1 rfl ?_
        refine V_istore_n (lv' := [(3, (0, 0)), (0, (2, a0)), (1, (0, a1)), (2, (0, a2))]) dec_X13_rights.1.2.2.2.1.2 (by decide) rfl ?_
        refine V_iconst dec_X13_rights.1.2.2.2.2.1 rfl ?_
        refine V_istore (lv' := [(4, (0, 0)), (3, (0, 0)), (0, (2, a0)), (1, (0, a1)), (2, (0, a2))]) dec_X13_rights.1.2.2.2.2.2.1 (by decide) rfl ?_
        exact V_pick [2, 4, 1, 0] rfl (X13_rights_b59_s G l FU s10 a0 a2 0 0)
      · exact V_pick [0] rfl (X13_rights_b39_s G l s7 a0)
theorem dec_X13_ringOf : ((((decode cX13_ringOf 0 = .ok (.iload_n 1, 1) ∧ (decode cX13_ringOf 1 = .ok (.istore_n 3, 1) ∧ decode cX13_ringOf 2 = .ok (.iconst 1, 1))) ∧ ((decode cX13_ringOf 3 = .ok (.istore 4, 2) ∧ decode cX13_ringOf 5 = .ok (.iload 4, 2)) ∧ (decode cX13_ringOf 7 = .ok (.aload_n 0, 1) ∧ decode cX13_ringOf 8 = .ok (.getfield 303, 3)))) ∧ ((decode cX13_ringOf 11 = .ok (.getfield 193, 3) ∧ (decode cX13_ringOf 14 = .ok (.if_icmp .gt 33, 3) ∧ decode cX13_ringOf 17 = .ok (.aload_n 0, 1))) ∧ ((decode cX13_ringOf 18 = .ok (.iload_n 3, 1) ∧ decode cX13_ringOf 19 = .ok (.iload_n 2, 1)) ∧ (decode cX13_ringOf 20 = .ok (.invokevirtual 404, 3) ∧ decode cX13_ringOf 23 = .ok (.istore_n 3, 1))))) ∧ (((decode cX13_ringOf 24 = .ok (.iload_n 3, 1) ∧ (decode cX13_ringOf 25 = .ok (.bipush (-2), 2) ∧ decode cX13_ringOf 27 = .ok (.if_icmp .ne 6, 3))) ∧ ((decode cX13_ringOf 30 = .ok (.bipush (-2), 2) ∧ decode cX13_ringOf 32 = .ok (.ireturn, 1)) ∧ (decode cX13_ringOf 33 = .ok (.iload_n 3, 1) ∧ decode cX13_ringOf 34 = .ok (.iload_n 1, 1)))) ∧ ((decode cX13_ringOf 35 = .ok (.if_icmp .ne 6, 3) ∧ (decode cX13_ringOf 38 = .ok (.iload 4, 2) ∧ decode cX13_ringOf 40 = .ok (.ireturn, 1))) ∧ ((decode cX13_ringOf 41 = .ok (.iinc 4 1, 3) ∧ decode cX13_ringOf 44 = .ok (.goto (-39), 3)) ∧ (decode cX13_ringOf 47 = .ok (.bipush (-2), 2) ∧ decode cX13_ringOf 49 = .ok (.ireturn, 1)))))) := ⟨⟨by decide +kernel, by decide +kernel⟩, ⟨by decide +kernel, by decide +kernel⟩⟩
def X13_ringOf_b5_body (rk5 : St → Int → Int → Int → Int → Int → Rs) (s : St) (x0 x1 x2 x3 x4 : Int) : Rs :=
  grd (isK s 23 x0) (grd (isK s 22 (gR s x0 3)) (if (gI s (gR s x0 3) 2) < x4 then (some ((-2), s)) else (grd (isK s 23 x0) (bnd (X13_nextOf s x0 x3 x2) (fun r1 s2 => if ¬ r1 = ((-2) : Int) then (if ¬ r1 = x1 then (rk5 s2 x0 x1 x2 r1 (w32 (x4 + 1))) else (some (x4, s2))) else (some ((-2), s2)))))))
def X13_ringOf_b5 (n : Nat) (s : St) (x0 x1 x2 x3 x4 : Int) : Rs := iter (fun (rec : St × Int × Int × Int × Int × Int → Rs) (a : St × Int × Int × Int × Int × Int) => X13_ringOf_b5_body (fun (s : St) (x0 x1 x2 x3 x4 : Int) => rec (s, x0, x1, x2, x3, x4)) a.1 a.2.1 a.2.2.1 a.2.2.2.1 a.2.2.2.2.1 a.2.2.2.2.2) n (s, x0, x1, x2, x3, x4)
theorem X13_ringOf_b5_0 (s : St) (x0 x1 x2 x3 x4 : Int) : X13_ringOf_b5 0 s x0 x1 x2 x3 x4 = none := rfl
theorem X13_ringOf_b5_1 (n : Nat) (s : St) (x0 x1 x2 x3 x4 : Int) : X13_ringOf_b5 (n + 1) s x0 x1 x2 x3 x4 = X13_ringOf_b5_body (X13_ringOf_b5 n) s x0 x1 x2 x3 x4 := rfl
set_option maxRecDepth 100000 in
set_option maxHeartbeats 4000000 in
theorem X13_ringOf_b5_body_s (G : Gx) (l : Launch) (rk5 : St → Int → Int → Int → Int → Int → Rs) (hk5 : ∀ (s : St) (x0 x1 x2 x3 x4 : Int), V G l mX13_ringOf 5 [(0, (2, x0)), (1, (0, x1)), (2, (0, x2)), (3, (0, x3)), (4, (0, x4))] [] s (rk5 s x0 x1 x2 x3 x4)) (s : St) (x0 x1 x2 x3 x4 : Int) : V G l mX13_ringOf 5 [(0, (2, x0)), (1, (0, x1)), (2, (0, x2)), (3, (0, x3)), (4, (0, x4))] [] s (X13_ringOf_b5_body rk5 s x0 x1 x2 x3 x4) := by
  unfold X13_ringOf_b5_body
  refine V_iload dec_X13_ringOf.1.1.2.1.2 4 rfl ?_
  refine V_aload_n dec_X13_ringOf.1.1.2.2.1 0 rfl ?_
  refine V_getR 13 3 nf_13_3 ft_13_3 fl_X13_303 dec_X13_ringOf.1.1.2.2.2 ?_
  refine V_getIN RX13 12 2 nf_12_2 ft_12_2 fl_X13_193 dec_X13_ringOf.1.2.1.1 ?_
  refine V_icmp_gt (tgt := 47) dec_X13_ringOf.1.2.1.2.1 (by decide) ?_ ?_
  · refine V_bipush dec_X13_ringOf.2.2.2.2.1 rfl ?_
    exact V_iret rfl dec_X13_ringOf.2.2.2.2.2
  · refine V_aload_n dec_X13_ringOf.1.2.1.2.2 0 rfl ?_
    refine V_iload_n dec_X13_ringOf.1.2.2.1.1 3 rfl ?_
    refine V_iload_n dec_X13_ringOf.1.2.2.1.2 2 rfl ?_
    refine V_callV0 (ci := 13) (a := x0) (As := [(0, x3), (0, x2)]) (st := []) rfl rfl (X13_nextOf_s G l s x0 x3 x2) cal_X13_nextOf rfl ml_X13_404 rfl rfl dec_X13_ringOf.1.2.2.2.1 (k_tag (tag := 0) rfl fun r1 s2 => ?_)
    refine V_istore_n (lv' := [(3, (0, r1)), (0, (2, x0)), (1, (0, x1)), (2, (0, x2)), (4, (0, x4))]) dec_X13_ringOf.1.2.2.2.2 (by decide) rfl ?_
    refine V_iload_n dec_X13_ringOf.2.1.1.1 0 rfl ?_
    refine V_bipush dec_X13_ringOf.2.1.1.2.1 rfl ?_
    refine V_icmp_ne (tgt := 33) dec_X13_ringOf.2.1.1.2.2 (by decide) ?_ ?_
    · refine V_iload_n dec_X13_ringOf.2.1.2.2.1 0 rfl ?_
      refine V_iload_n dec_X13_ringOf.2.1.2.2.2 2 rfl ?_
      refine V_icmp_ne (tgt := 41) dec_X13_ringOf.2.2.1.1 (by decide) ?_ ?_
      · refine V_iinc (lv' := [(4, (0, (w32 (x4 + 1)))), (3, (0, r1)), (0, (2, x0)), (1, (0, x1)), (2, (0, x2))]) dec_X13_ringOf.2.2.2.1.1 4 rfl (by decide) rfl ?_
        refine V_goto (tgt := 5) dec_X13_ringOf.2.2.2.1.2 (by decide) ?_
        exact V_pick [2, 3, 4, 1, 0] rfl (hk5 s2 x0 x1 x2 r1 (w32 (x4 + 1)))
      · refine V_iload dec_X13_ringOf.2.2.1.2.1 4 rfl ?_
        exact V_iret rfl dec_X13_ringOf.2.2.1.2.2
    · refine V_bipush dec_X13_ringOf.2.1.2.1.1 rfl ?_
      exact V_iret rfl dec_X13_ringOf.2.1.2.1.2
theorem X13_ringOf_b5_s (G : Gx) (l : Launch) (n : Nat) (s : St) (x0 x1 x2 x3 x4 : Int) : V G l mX13_ringOf 5 [(0, (2, x0)), (1, (0, x1)), (2, (0, x2)), (3, (0, x3)), (4, (0, x4))] [] s (X13_ringOf_b5 n s x0 x1 x2 x3 x4) :=
  V_iter (LV := fun a : St × Int × Int × Int × Int × Int => [(0, (2, a.2.1)), (1, (0, a.2.2.1)), (2, (0, a.2.2.2.1)), (3, (0, a.2.2.2.2.1)), (4, (0, a.2.2.2.2.2))]) (ST := fun a : St × Int × Int × Int × Int × Int => []) (SS := fun a : St × Int × Int × Int × Int × Int => a.1) (fun rec hrec a => X13_ringOf_b5_body_s G l (fun (s : St) (x0 x1 x2 x3 x4 : Int) => rec (s, x0, x1, x2, x3, x4)) (fun (s : St) (x0 x1 x2 x3 x4 : Int) => hrec (s, x0, x1, x2, x3, x4)) a.1 a.2.1 a.2.2.1 a.2.2.2.1 a.2.2.2.2.1 a.2.2.2.2.2) n (s, x0, x1, x2, x3, x4)
def X13_ringOf (s : St) (a0 a1 a2 : Int) : Rs :=
  X13_ringOf_b5 FU s a0 a1 a2 a1 1
set_option maxRecDepth 100000 in
set_option maxHeartbeats 4000000 in
theorem X13_ringOf_s (G : Gx) (l : Launch) (s : St) (a0 a1 a2 : Int) : Snd G l mX13_ringOf [(2, a0), (0, a1), (0, a2)] s (X13_ringOf s a0 a1 a2) := by
  refine Snd.of (by decide +kernel) rfl ?_
  show V G l mX13_ringOf 0 [(0, (2, a0)), (1, (0, a1)), (2, (0, a2))] [] s _
  unfold X13_ringOf
  refine V_iload_n dec_X13_ringOf.1.1.1.1 1 rfl ?_
  refine V_istore_n (lv' := [(3, (0, a1)), (0, (2, a0)), (1, (0, a1)), (2, (0, a2))]) dec_X13_ringOf.1.1.1.2.1 (by decide) rfl ?_
  refine V_iconst dec_X13_ringOf.1.1.1.2.2 rfl ?_
  refine V_istore (lv' := [(4, (0, 1)), (3, (0, a1)), (0, (2, a0)), (1, (0, a1)), (2, (0, a2))]) dec_X13_ringOf.1.1.2.1.1 (by decide) rfl ?_
  exact V_pick [2, 3, 4, 1, 0] rfl (X13_ringOf_b5_s G l FU s a0 a1 a2 a1 1)
theorem dec_X13_ring : ((((decode cX13_ring 0 = .ok (.aload_n 0, 1) ∧ (decode cX13_ring 1 = .ok (.iconst 0, 1) ∧ decode cX13_ring 2 = .ok (.putfield 49, 3))) ∧ (decode cX13_ring 5 = .ok (.aload_n 0, 1) ∧ (decode cX13_ring 6 = .ok (.aload_n 0, 1) ∧ decode cX13_ring 7 = .ok (.iload_n 1, 1)))) ∧ ((decode cX13_ring 8 = .ok (.invokevirtual 339, 3) ∧ (decode cX13_ring 11 = .ok (.iload_n 2, 1) ∧ decode cX13_ring 12 = .ok (.invokevirtual 354, 3))) ∧ (decode cX13_ring 15 = .ok (.istore_n 3, 1) ∧ (decode cX13_ring 16 = .ok (.iload_n 3, 1) ∧ decode cX13_ring 17 = .ok (.ifCond .le 9, 3))))) ∧ (((decode cX13_ring 20 = .ok (.aload_n 0, 1) ∧ (decode cX13_ring 21 = .ok (.iload_n 3, 1) ∧ decode cX13_ring 22 = .ok (.invokevirtual 55, 3))) ∧ (decode cX13_ring 25 = .ok (.ireturn, 1) ∧ (decode cX13_ring 26 = .ok (.aload_n 0, 1) ∧ decode cX13_ring 27 = .ok (.invokevirtual 342, 3)))) ∧ ((decode cX13_ring 30 = .ok (.aload_n 0, 1) ∧ (decode cX13_ring 31 = .ok (.aload_n 0, 1) ∧ decode cX13_ring 32 = .ok (.iload_n 1, 1))) ∧ ((decode cX13_ring 33 = .ok (.iload_n 2, 1) ∧ decode cX13_ring 34 = .ok (.invokevirtual 407, 3)) ∧ (decode cX13_ring 37 = .ok (.invokevirtual 59, 3) ∧ decode cX13_ring 40 = .ok (.ireturn, 1)))))) := ⟨by decide +kernel, ⟨by decide +kernel, by decide +kernel⟩⟩
def X13_ring (s : St) (a0 a1 a2 : Int) : Rs :=
  grd (isK s 23 a0) (lets (pI s a0 0 0) (fun s1 => grd (isK s1 23 a0) (bnd (X13_isPerson s1 a0 a1) (fun r2 s3 => grd (isK s3 23 a0) (bnd (X13_refusesNight s3 a0 r2 a2) (fun r4 s5 => if r4 ≤ 0 then (grd (isK s5 23 a0) (bnd (X13_works s5 a0) (fun r6 s7 => grd (isK s7 23 a0) (bnd (X13_ringOf s7 a0 a1 a2) (fun r8 s9 => grd (isK s9 23 a0) (bnd (X13_good s9 a0 r8) (fun r10 s11 => some (r10, s11)))))))) else (grd (isK s5 23 a0) (bnd (X13_refused s5 a0 r4) (fun r12 s13 => some (r12, s13))))))))))
set_option maxRecDepth 100000 in
set_option maxHeartbeats 4000000 in
theorem X13_ring_s (G : Gx) (l : Launch) (s : St) (a0 a1 a2 : Int) : Snd G l mX13_ring [(2, a0), (0, a1), (0, a2)] s (X13_ring s a0 a1 a2) := by
  refine Snd.of (by decide +kernel) rfl ?_
  show V G l mX13_ring 0 [(0, (2, a0)), (1, (0, a1)), (2, (0, a2))] [] s _
  unfold X13_ring
  refine V_aload_n dec_X13_ring.1.1.1.1 0 rfl ?_
  refine V_iconst dec_X13_ring.1.1.1.2.1 rfl ?_
  refine V_putI (host := "") 13 0 nf_13_0 ty_13_0 (Or.inl ⟨fl_X13_49, Or.inl rfl⟩) dec_X13_ring.1.1.1.2.2 ?_
  refine V_lets fun s1 => ?_
  refine V_aload_n dec_X13_ring.1.1.2.1 0 rfl ?_
  refine V_aload_n dec_X13_ring.1.1.2.2.1 0 rfl ?_
  refine V_iload_n dec_X13_ring.1.1.2.2.2 1 rfl ?_
  refine V_callV0 (ci := 13) (a := a0) (As := [(0, a1)]) (st := [(2, a0)]) rfl rfl (X13_isPerson_s G l s1 a0 a1) cal_X13_isPerson rfl ml_X13_339 rfl rfl dec_X13_ring.1.2.1.1 (k_tag (tag := 0) rfl fun r2 s3 => ?_)
  refine V_iload_n dec_X13_ring.1.2.1.2.1 2 rfl ?_
  refine V_callV0 (ci := 13) (a := a0) (As := [(0, r2), (0, a2)]) (st := []) rfl rfl (X13_refusesNight_s G l s3 a0 r2 a2) cal_X13_refusesNight rfl ml_X13_354 rfl rfl dec_X13_ring.1.2.1.2.2 (k_tag (tag := 0) rfl fun r4 s5 => ?_)
  refine V_istore_n (lv' := [(3, (0, r4)), (0, (2, a0)), (1, (0, a1)), (2, (0, a2))]) dec_X13_ring.1.2.2.1 (by decide) rfl ?_
  refine V_iload_n dec_X13_ring.1.2.2.2.1 0 rfl ?_
  refine V_if_le (tgt := 26) dec_X13_ring.1.2.2.2.2 (by decide) ?_ ?_
  · refine V_aload_n dec_X13_ring.2.1.2.2.1 1 rfl ?_
    refine V_callV0 (ci := 13) (a := a0) (As := []) (st := []) rfl rfl (X13_works_s G l s5 a0) cal_X13_works rfl ml_X13_342 rfl rfl dec_X13_ring.2.1.2.2.2 (k_void rfl fun r6 s7 => ?_)
    refine V_aload_n dec_X13_ring.2.2.1.1 1 rfl ?_
    refine V_aload_n dec_X13_ring.2.2.1.2.1 1 rfl ?_
    refine V_iload_n dec_X13_ring.2.2.1.2.2 2 rfl ?_
    refine V_iload_n dec_X13_ring.2.2.2.1.1 3 rfl ?_
    refine V_callV0 (ci := 13) (a := a0) (As := [(0, a1), (0, a2)]) (st := [(2, a0)]) rfl rfl (X13_ringOf_s G l s7 a0 a1 a2) cal_X13_ringOf rfl ml_X13_407 rfl rfl dec_X13_ring.2.2.2.1.2 (k_tag (tag := 0) rfl fun r8 s9 => ?_)
    refine V_callV0 (ci := 13) (a := a0) (As := [(0, r8)]) (st := []) rfl rfl (X13_good_s G l s9 a0 r8) cal_X13_good rfl ml_X13_59 rfl rfl dec_X13_ring.2.2.2.2.1 (k_tag (tag := 0) rfl fun r10 s11 => ?_)
    exact V_iret rfl dec_X13_ring.2.2.2.2.2
  · refine V_aload_n dec_X13_ring.2.1.1.1 1 rfl ?_
    refine V_iload_n dec_X13_ring.2.1.1.2.1 0 rfl ?_
    refine V_callV0 (ci := 13) (a := a0) (As := [(0, r4)]) (st := []) rfl rfl (X13_refused_s G l s5 a0 r4) cal_X13_refused rfl ml_X13_55 rfl rfl dec_X13_ring.2.1.1.2.2 (k_tag (tag := 0) rfl fun r12 s13 => ?_)
    exact V_iret rfl dec_X13_ring.2.1.2.1
theorem dec_X13_ringAt : (((((decode cX13_ringAt 0 = .ok (.aload_n 0, 1) ∧ (decode cX13_ringAt 1 = .ok (.iconst 0, 1) ∧ decode cX13_ringAt 2 = .ok (.putfield 49, 3))) ∧ (decode cX13_ringAt 5 = .ok (.aload_n 0, 1) ∧ (decode cX13_ringAt 6 = .ok (.aload_n 0, 1) ∧ decode cX13_ringAt 7 = .ok (.iload_n 1, 1)))) ∧ ((decode cX13_ringAt 8 = .ok (.invokevirtual 339, 3) ∧ (decode cX13_ringAt 11 = .ok (.iload_n 2, 1) ∧ decode cX13_ringAt 12 = .ok (.invokevirtual 354, 3))) ∧ (decode cX13_ringAt 15 = .ok (.istore 4, 2) ∧ (decode cX13_ringAt 17 = .ok (.iload 4, 2) ∧ decode cX13_ringAt 19 = .ok (.ifCond .le 10, 3))))) ∧ (((decode cX13_ringAt 22 = .ok (.aload_n 0, 1) ∧ (decode cX13_ringAt 23 = .ok (.iload 4, 2) ∧ decode cX13_ringAt 25 = .ok (.invokevirtual 55, 3))) ∧ (decode cX13_ringAt 28 = .ok (.ireturn, 1) ∧ (decode cX13_ringAt 29 = .ok (.aload_n 0, 1) ∧ decode cX13_ringAt 30 = .ok (.invokevirtual 342, 3)))) ∧ ((decode cX13_ringAt 33 = .ok (.iload_n 3, 1) ∧ (decode cX13_ringAt 34 = .ok (.ifCond .lt 13, 3) ∧ decode cX13_ringAt 37 = .ok (.iload_n 3, 1))) ∧ (decode cX13_ringAt 38 = .ok (.aload_n 0, 1) ∧ (decode cX13_ringAt 39 = .ok (.iload_n 1, 1) ∧ decode cX13_ringAt 40 = .ok (.iload_n 2, 1)))))) ∧ ((((decode cX13_ringAt 41 = .ok (.invokevirtual 407, 3) ∧ (decode cX13_ringAt 44 = .ok (.if_icmp .lt 9, 3) ∧ decode cX13_ringAt 47 = .ok (.aload_n 0, 1))) ∧ (decode cX13_ringAt 48 = .ok (.iconst 1, 1) ∧ (decode cX13_ringAt 49 = .ok (.invokevirtual 55, 3) ∧ decode cX13_ringAt 52 = .ok (.ireturn, 1)))) ∧ ((decode cX13_ringAt 53 = .ok (.iload_n 1, 1) ∧ (decode cX13_ringAt 54 = .ok (.istore 5, 2) ∧ decode cX13_ringAt 56 = .ok (.iconst 0, 1))) ∧ (decode cX13_ringAt 57 = .ok (.istore 6, 2) ∧ (decode cX13_ringAt 59 = .ok (.iload 6, 2) ∧ decode cX13_ringAt 61 = .ok (.iload_n 3, 1))))) ∧ (((decode cX13_ringAt 62 = .ok (.if_icmp .ge 18, 3) ∧ (decode cX13_ringAt 65 = .ok (.aload_n 0, 1) ∧ decode cX13_ringAt 66 = .ok (.iload 5, 2))) ∧ (decode cX13_ringAt 68 = .ok (.iload_n 2, 1) ∧ (decode cX13_ringAt 69 = .ok (.invokevirtual 404, 3) ∧ decode cX13_ringAt 72 = .ok (.istore 5, 2)))) ∧ ((decode cX13_ringAt 74 = .ok (.iinc 6 1, 3) ∧ (decode cX13_ringAt 77 = .ok (.goto (-18), 3) ∧ decode cX13_ringAt 80 = .ok (.aload_n 0, 1))) ∧ (decode cX13_ringAt 81 = .ok (.iload 5, 2) ∧ (decode cX13_ringAt 83 = .ok (.invokevirtual 59, 3) ∧ decode cX13_ringAt 86 = .ok (.ireturn, 1))))))) := ⟨⟨by decide +kernel, by decide +kernel⟩, ⟨by decide +kernel, by decide +kernel⟩⟩
def X13_ringAt_b47 (s : St) (x0 : Int) : Rs :=
  grd (isK s 23 x0) (bnd (X13_refused s x0 1) (fun r8 s9 => some (r8, s9)))
set_option maxRecDepth 100000 in
set_option maxHeartbeats 4000000 in
theorem X13_ringAt_b47_s (G : Gx) (l : Launch) (s : St) (x0 : Int) : V G l mX13_ringAt 47 [(0, (2, x0))] [] s (X13_ringAt_b47 s x0) := by
  unfold X13_ringAt_b47
  refine V_aload_n dec_X13_ringAt.2.1.1.1.2.2 0 rfl ?_
  refine V_iconst dec_X13_ringAt.2.1.1.2.1 rfl ?_
  refine V_callV0 (ci := 13) (a := x0) (As := [(0, 1)]) (st := []) rfl rfl (X13_refused_s G l s x0 1) cal_X13_refused rfl ml_X13_55 rfl rfl dec_X13_ringAt.2.1.1.2.2.1 (k_tag (tag := 0) rfl fun r8 s9 => ?_)
  exact V_iret rfl dec_X13_ringAt.2.1.1.2.2.2
def X13_ringAt_b59_body (rk59 : St → Int → Int → Int → Int → Int → Rs) (s : St) (x0 x2 x3 x5 x6 : Int) : Rs :=
  if x3 ≤ x6 then (grd (isK s 23 x0) (bnd (X13_good s x0 x5) (fun r12 s13 => some (r12, s13)))) else (grd (isK s 23 x0) (bnd (X13_nextOf s x0 x5 x2) (fun r14 s15 => rk59 s15 x0 x2 x3 r14 (w32 (x6 + 1)))))
def X13_ringAt_b59 (n : Nat) (s : St) (x0 x2 x3 x5 x6 : Int) : Rs := iter (fun (rec : St × Int × Int × Int × Int × Int → Rs) (a : St × Int × Int × Int × Int × Int) => X13_ringAt_b59_body (fun (s : St) (x0 x2 x3 x5 x6 : Int) => rec (s, x0, x2, x3, x5, x6)) a.1 a.2.1 a.2.2.1 a.2.2.2.1 a.2.2.2.2.1 a.2.2.2.2.2) n (s, x0, x2, x3, x5, x6)
theorem X13_ringAt_b59_0 (s : St) (x0 x2 x3 x5 x6 : Int) : X13_ringAt_b59 0 s x0 x2 x3 x5 x6 = none := rfl
theorem X13_ringAt_b59_1 (n : Nat) (s : St) (x0 x2 x3 x5 x6 : Int) : X13_ringAt_b59 (n + 1) s x0 x2 x3 x5 x6 = X13_ringAt_b59_body (X13_ringAt_b59 n) s x0 x2 x3 x5 x6 := rfl
set_option maxRecDepth 100000 in
set_option maxHeartbeats 4000000 in
theorem X13_ringAt_b59_body_s (G : Gx) (l : Launch) (rk59 : St → Int → Int → Int → Int → Int → Rs) (hk59 : ∀ (s : St) (x0 x2 x3 x5 x6 : Int), V G l mX13_ringAt 59 [(0, (2, x0)), (2, (0, x2)), (3, (0, x3)), (5, (0, x5)), (6, (0, x6))] [] s (rk59 s x0 x2 x3 x5 x6)) (s : St) (x0 x2 x3 x5 x6 : Int) : V G l mX13_ringAt 59 [(0, (2, x0)), (2, (0, x2)), (3, (0, x3)), (5, (0, x5)), (6, (0, x6))] [] s (X13_ringAt_b59_body rk59 s x0 x2 x3 x5 x6) := by
  unfold X13_ringAt_b59_body
  refine V_iload dec_X13_ringAt.2.1.2.2.2.1 4 rfl ?_
  refine V_iload_n dec_X13_ringAt.2.1.2.2.2.2 2 rfl ?_
  refine V_icmp_ge (tgt := 80) dec_X13_ringAt.2.2.1.1.1 (by decide) ?_ ?_
  · refine V_aload_n dec_X13_ringAt.2.2.2.1.2.2 0 rfl ?_
    refine V_iload dec_X13_ringAt.2.2.2.2.1 3 rfl ?_
    refine V_callV0 (ci := 13) (a := x0) (As := [(0, x5)]) (st := []) rfl rfl (X13_good_s G l s x0 x5) cal_X13_good rfl ml_X13_59 rfl rfl dec_X13_ringAt.2.2.2.2.2.1 (k_tag (tag := 0) rfl fun r12 s13 => ?_)
    exact V_iret rfl dec_X13_ringAt.2.2.2.2.2.2
  · refine V_aload_n dec_X13_ringAt.2.2.1.1.2.1 0 rfl ?_
    refine V_iload dec_X13_ringAt.2.2.1.1.2.2 3 rfl ?_
    refine V_iload_n dec_X13_ringAt.2.2.1.2.1 1 rfl ?_
    refine V_callV0 (ci := 13) (a := x0) (As := [(0, x5), (0, x2)]) (st := []) rfl rfl (X13_nextOf_s G l s x0 x5 x2) cal_X13_nextOf rfl ml_X13_404 rfl rfl dec_X13_ringAt.2.2.1.2.2.1 (k_tag (tag := 0) rfl fun r14 s15 => ?_)
    refine V_istore (lv' := [(5, (0, r14)), (0, (2, x0)), (2, (0, x2)), (3, (0, x3)), (6, (0, x6))]) dec_X13_ringAt.2.2.1.2.2.2 (by decide) rfl ?_
    refine V_iinc (lv' := [(6, (0, (w32 (x6 + 1)))), (5, (0, r14)), (0, (2, x0)), (2, (0, x2)), (3, (0, x3))]) dec_X13_ringAt.2.2.2.1.1 4 rfl (by decide) rfl ?_
    refine V_goto (tgt := 59) dec_X13_ringAt.2.2.2.1.2.1 (by decide) ?_
    exact V_pick [2, 3, 4, 1, 0] rfl (hk59 s15 x0 x2 x3 r14 (w32 (x6 + 1)))
theorem X13_ringAt_b59_s (G : Gx) (l : Launch) (n : Nat) (s : St) (x0 x2 x3 x5 x6 : Int) : V G l mX13_ringAt 59 [(0, (2, x0)), (2, (0, x2)), (3, (0, x3)), (5, (0, x5)), (6, (0, x6))] [] s (X13_ringAt_b59 n s x0 x2 x3 x5 x6) :=
  V_iter (LV := fun a : St × Int × Int × Int × Int × Int => [(0, (2, a.2.1)), (2, (0, a.2.2.1)), (3, (0, a.2.2.2.1)), (5, (0, a.2.2.2.2.1)), (6, (0, a.2.2.2.2.2))]) (ST := fun a : St × Int × Int × Int × Int × Int => []) (SS := fun a : St × Int × Int × Int × Int × Int => a.1) (fun rec hrec a => X13_ringAt_b59_body_s G l (fun (s : St) (x0 x2 x3 x5 x6 : Int) => rec (s, x0, x2, x3, x5, x6)) (fun (s : St) (x0 x2 x3 x5 x6 : Int) => hrec (s, x0, x2, x3, x5, x6)) a.1 a.2.1 a.2.2.1 a.2.2.2.1 a.2.2.2.2.1 a.2.2.2.2.2) n (s, x0, x2, x3, x5, x6)
def X13_ringAt (s : St) (a0 a1 a2 a3 : Int) : Rs :=
  grd (isK s 23 a0) (lets (pI s a0 0 0) (fun s1 => grd (isK s1 23 a0) (bnd (X13_isPerson s1 a0 a1) (fun r2 s3 => grd (isK s3 23 a0) (bnd (X13_refusesNight s3 a0 r2 a2) (fun r4 s5 => if r4 ≤ 0 then (grd (isK s5 23 a0) (bnd (X13_works s5 a0) (fun r6 s7 => if a3 < 0 then (X13_ringAt_b47 s7 a0) else (grd (isK s7 23 a0) (bnd (X13_ringOf s7 a0 a1 a2) (fun r10 s11 => if a3 < r10 then (X13_ringAt_b59 FU s11 a0 a2 a3 a1 0) else (X13_ringAt_b47 s11 a0))))))) else (grd (isK s5 23 a0) (bnd (X13_refused s5 a0 r4) (fun r16 s17 => some (r16, s17))))))))))
set_option maxRecDepth 100000 in
set_option maxHeartbeats 4000000 in
theorem X13_ringAt_s (G : Gx) (l : Launch) (s : St) (a0 a1 a2 a3 : Int) : Snd G l mX13_ringAt [(2, a0), (0, a1), (0, a2), (0, a3)] s (X13_ringAt s a0 a1 a2 a3) := by
  refine Snd.of (by decide +kernel) rfl ?_
  show V G l mX13_ringAt 0 [(0, (2, a0)), (1, (0, a1)), (2, (0, a2)), (3, (0, a3))] [] s _
  unfold X13_ringAt
  refine V_aload_n dec_X13_ringAt.1.1.1.1.1 0 rfl ?_
  refine V_iconst dec_X13_ringAt.1.1.1.1.2.1 rfl ?_
  refine V_putI (host := "") 13 0 nf_13_0 ty_13_0 (Or.inl ⟨fl_X13_49, Or.inl rfl⟩) dec_X13_ringAt.1.1.1.1.2.2 ?_
  refine V_lets fun s1 => ?_
  refine V_aload_n dec_X13_ringAt.1.1.1.2.1 0 rfl ?_
  refine V_aload_n dec_X13_ringAt.1.1.1.2.2.1 0 rfl ?_
  refine V_iload_n dec_X13_ringAt.1.1.1.2.2.2 1 rfl ?_
  refine V_callV0 (ci := 13) (a := a0) (As := [(0, a1)]) (st := [(2, a0)]) rfl rfl (X13_isPerson_s G l s1 a0 a1) cal_X13_isPerson rfl ml_X13_339 rfl rfl dec_X13_ringAt.1.1.2.1.1 (k_tag (tag := 0) rfl fun r2 s3 => ?_)
  refine V_iload_n dec_X13_ringAt.1.1.2.1.2.1 2 rfl ?_
  refine V_callV0 (ci := 13) (a := a0) (As := [(0, r2), (0, a2)]) (st := []) rfl rfl (X13_refusesNight_s G l s3 a0 r2 a2) cal_X13_refusesNight rfl ml_X13_354 rfl rfl dec_X13_ringAt.1.1.2.1.2.2 (k_tag (tag := 0) rfl fun r4 s5 => ?_)
  refine V_istore (lv' := [(4, (0, r4)), (0, (2, a0)), (1, (0, a1)), (2, (0, a2)), (3, (0, a3))]) dec_X13_ringAt.1.1.2.2.1 (by decide) rfl ?_
  refine V_iload dec_X13_ringAt.1.1.2.2.2.1 0 rfl ?_
  refine V_if_le (tgt := 29) dec_X13_ringAt.1.1.2.2.2.2 (by decide) ?_ ?_
  · refine V_aload_n dec_X13_ringAt.1.2.1.2.2.1 1 rfl ?_
    refine V_callV0 (ci := 13) (a := a0) (As := []) (st := []) rfl rfl (X13_works_s G l s5 a0) cal_X13_works rfl ml_X13_342 rfl rfl dec_X13_ringAt.1.2.1.2.2.2 (k_void rfl fun r6 s7 => ?_)
    refine V_iload_n dec_X13_ringAt.1.2.2.1.1 4 rfl ?_
    refine V_if_lt (tgt := 47) dec_X13_ringAt.1.2.2.1.2.1 (by decide) ?_ ?_
    · exact V_pick [1] rfl (X13_ringAt_b47_s G l s7 a0)
    · refine V_iload_n dec_X13_ringAt.1.2.2.1.2.2 4 rfl ?_
      refine V_aload_n dec_X13_ringAt.1.2.2.2.1 1 rfl ?_
      refine V_iload_n dec_X13_ringAt.1.2.2.2.2.1 2 rfl ?_
      refine V_iload_n dec_X13_ringAt.1.2.2.2.2.2 3 rfl ?_
      refine V_callV0 (ci := 13) (a := a0) (As := [(0, a1), (0, a2)]) (st := [(0, a3)]) rfl rfl (X13_ringOf_s G l s7 a0 a1 a2) cal_X13_ringOf rfl ml_X13_407 rfl rfl dec_X13_ringAt.2.1.1.1.1 (k_tag (tag := 0) rfl fun r10 s11 => ?_)
      refine V_icmp_lt (tgt := 53) dec_X13_ringAt.2.1.1.1.2.1 (by decide) ?_ ?_
      · refine V_iload_n dec_X13_ringAt.2.1.2.1.1 2 rfl ?_
        refine V_istore (lv' := [(5, (0, a1)), (4, (0, r4)), (0, (2, a0)), (1, (0, a1)), (2, (0, a2)), (3, (0, a3))]) dec_X13_ringAt.2.1.2.1.2.1 (by decide) rfl ?_
        refine V_iconst dec_X13_ringAt.2.1.2.1.2.2 rfl ?_
        refine V_istore (lv' := [(6, (0, 0)), (5, (0, a1)), (4, (0, r4)), (0, (2, a0)), (1, (0, a1)), (2, (0, a2)), (3, (0, a3))]) dec_X13_ringAt.2.1.2.2.1 (by decide) rfl ?_
        exact V_pick [3, 5, 6, 1, 0] rfl (X13_ringAt_b59_s G l FU s11 a0 a2 a3 a1 0)
      · exact V_pick [1] rfl (X13_ringAt_b47_s G l s11 a0)
  · refine V_aload_n dec_X13_ringAt.1.2.1.1.1 1 rfl ?_
    refine V_iload dec_X13_ringAt.1.2.1.1.2.1 0 rfl ?_
    refine V_callV0 (ci := 13) (a := a0) (As := [(0, r4)]) (st := []) rfl rfl (X13_refused_s G l s5 a0 r4) cal_X13_refused rfl ml_X13_55 rfl rfl dec_X13_ringAt.1.2.1.1.2.2 (k_tag (tag := 0) rfl fun r16 s17 => ?_)
    exact V_iret rfl dec_X13_ringAt.1.2.1.2.1
theorem dec_X13_round : ((((decode cX13_round 0 = .ok (.aload_n 0, 1) ∧ (decode cX13_round 1 = .ok (.iconst 0, 1) ∧ decode cX13_round 2 = .ok (.putfield 49, 3))) ∧ (decode cX13_round 5 = .ok (.aload_n 0, 1) ∧ (decode cX13_round 6 = .ok (.iload_n 1, 1) ∧ decode cX13_round 7 = .ok (.invokevirtual 348, 3)))) ∧ ((decode cX13_round 10 = .ok (.ifCond .ne 9, 3) ∧ (decode cX13_round 13 = .ok (.aload_n 0, 1) ∧ decode cX13_round 14 = .ok (.iconst 1, 1))) ∧ ((decode cX13_round 15 = .ok (.invokevirtual 55, 3) ∧ decode cX13_round 18 = .ok (.ireturn, 1)) ∧ (decode cX13_round 19 = .ok (.aload_n 0, 1) ∧ decode cX13_round 20 = .ok (.invokevirtual 342, 3))))) ∧ (((decode cX13_round 23 = .ok (.iconst 1, 1) ∧ (decode cX13_round 24 = .ok (.istore_n 2, 1) ∧ decode cX13_round 25 = .ok (.aload_n 0, 1))) ∧ (decode cX13_round 26 = .ok (.iload_n 1, 1) ∧ (decode cX13_round 27 = .ok (.iload_n 2, 1) ∧ decode cX13_round 28 = .ok (.invokevirtual 364, 3)))) ∧ ((decode cX13_round 31 = .ok (.ifCond .ne 9, 3) ∧ (decode cX13_round 34 = .ok (.iinc 2 1, 3) ∧ decode cX13_round 37 = .ok (.goto (-12), 3))) ∧ ((decode cX13_round 40 = .ok (.aload_n 0, 1) ∧ decode cX13_round 41 = .ok (.iload_n 2, 1)) ∧ (decode cX13_round 42 = .ok (.invokevirtual 59, 3) ∧ decode cX13_round 45 = .ok (.ireturn, 1)))))) := ⟨⟨by decide +kernel, by decide +kernel⟩, ⟨by decide +kernel, by decide +kernel⟩⟩
def X13_round_b25_body (rk25 : St → Int → Int → Int → Rs) (s : St) (x0 x1 x2 : Int) : Rs :=
  grd (isK s 23 x0) (bnd (X13_comesRound s x0 x1 x2) (fun r6 s7 => if ¬ r6 = 0 then (grd (isK s7 23 x0) (bnd (X13_good s7 x0 x2) (fun r8 s9 => some (r8, s9)))) else (rk25 s7 x0 x1 (w32 (x2 + 1)))))
def X13_round_b25 (n : Nat) (s : St) (x0 x1 x2 : Int) : Rs := iter (fun (rec : St × Int × Int × Int → Rs) (a : St × Int × Int × Int) => X13_round_b25_body (fun (s : St) (x0 x1 x2 : Int) => rec (s, x0, x1, x2)) a.1 a.2.1 a.2.2.1 a.2.2.2) n (s, x0, x1, x2)
theorem X13_round_b25_0 (s : St) (x0 x1 x2 : Int) : X13_round_b25 0 s x0 x1 x2 = none := rfl
theorem X13_round_b25_1 (n : Nat) (s : St) (x0 x1 x2 : Int) : X13_round_b25 (n + 1) s x0 x1 x2 = X13_round_b25_body (X13_round_b25 n) s x0 x1 x2 := rfl
set_option maxRecDepth 100000 in
set_option maxHeartbeats 4000000 in
theorem X13_round_b25_body_s (G : Gx) (l : Launch) (rk25 : St → Int → Int → Int → Rs) (hk25 : ∀ (s : St) (x0 x1 x2 : Int), V G l mX13_round 25 [(0, (2, x0)), (1, (0, x1)), (2, (0, x2))] [] s (rk25 s x0 x1 x2)) (s : St) (x0 x1 x2 : Int) : V G l mX13_round 25 [(0, (2, x0)), (1, (0, x1)), (2, (0, x2))] [] s (X13_round_b25_body rk25 s x0 x1 x2) := by
  unfold X13_round_b25_body
  refine V_aload_n dec_X13_round.2.1.1.2.2 0 rfl ?_
  refine V_iload_n dec_X13_round.2.1.2.1 1 rfl ?_
  refine V_iload_n dec_X13_round.2.1.2.2.1 2 rfl ?_
  refine V_callV0 (ci := 13) (a := x0) (As := [(0, x1), (0, x2)]) (st := []) rfl rfl (X13_comesRound_s G l s x0 x1 x2) cal_X13_comesRound rfl ml_X13_364 rfl rfl dec_X13_round.2.1.2.2.2 (k_tag (tag := 0) rfl fun r6 s7 => ?_)
  refine V_if_ne (tgt := 40) dec_X13_round.2.2.1.1 (by decide) ?_ ?_
  · refine V_aload_n dec_X13_round.2.2.2.1.1 0 rfl ?_
    refine V_iload_n dec_X13_round.2.2.2.1.2 2 rfl ?_
    refine V_callV0 (ci := 13) (a := x0) (As := [(0, x2)]) (st := []) rfl rfl (X13_good_s G l s7 x0 x2) cal_X13_good rfl ml_X13_59 rfl rfl dec_X13_round.2.2.2.2.1 (k_tag (tag := 0) rfl fun r8 s9 => ?_)
    exact V_iret rfl dec_X13_round.2.2.2.2.2
  · refine V_iinc (lv' := [(2, (0, (w32 (x2 + 1)))), (0, (2, x0)), (1, (0, x1))]) dec_X13_round.2.2.1.2.1 2 rfl (by decide) rfl ?_
    refine V_goto (tgt := 25) dec_X13_round.2.2.1.2.2 (by decide) ?_
    exact V_pick [1, 2, 0] rfl (hk25 s7 x0 x1 (w32 (x2 + 1)))
theorem X13_round_b25_s (G : Gx) (l : Launch) (n : Nat) (s : St) (x0 x1 x2 : Int) : V G l mX13_round 25 [(0, (2, x0)), (1, (0, x1)), (2, (0, x2))] [] s (X13_round_b25 n s x0 x1 x2) :=
  V_iter (LV := fun a : St × Int × Int × Int => [(0, (2, a.2.1)), (1, (0, a.2.2.1)), (2, (0, a.2.2.2))]) (ST := fun a : St × Int × Int × Int => []) (SS := fun a : St × Int × Int × Int => a.1) (fun rec hrec a => X13_round_b25_body_s G l (fun (s : St) (x0 x1 x2 : Int) => rec (s, x0, x1, x2)) (fun (s : St) (x0 x1 x2 : Int) => hrec (s, x0, x1, x2)) a.1 a.2.1 a.2.2.1 a.2.2.2) n (s, x0, x1, x2)
def X13_round (s : St) (a0 a1 : Int) : Rs :=
  grd (isK s 23 a0) (lets (pI s a0 0 0) (fun s1 => grd (isK s1 23 a0) (bnd (X13_isDead s1 a0 a1) (fun r2 s3 => if ¬ r2 = 0 then (grd (isK s3 23 a0) (bnd (X13_works s3 a0) (fun r4 s5 => X13_round_b25 FU s5 a0 a1 1))) else (grd (isK s3 23 a0) (bnd (X13_refused s3 a0 1) (fun r10 s11 => some (r10, s11))))))))
set_option maxRecDepth 100000 in
set_option maxHeartbeats 4000000 in
theorem X13_round_s (G : Gx) (l : Launch) (s : St) (a0 a1 : Int) : Snd G l mX13_round [(2, a0), (0, a1)] s (X13_round s a0 a1) := by
  refine Snd.of (by decide +kernel) rfl ?_
  show V G l mX13_round 0 [(0, (2, a0)), (1, (0, a1))] [] s _
  unfold X13_round
  refine V_aload_n dec_X13_round.1.1.1.1 0 rfl ?_
  refine V_iconst dec_X13_round.1.1.1.2.1 rfl ?_
  refine V_putI (host := "") 13 0 nf_13_0 ty_13_0 (Or.inl ⟨fl_X13_49, Or.inl rfl⟩) dec_X13_round.1.1.1.2.2 ?_
  refine V_lets fun s1 => ?_
  refine V_aload_n dec_X13_round.1.1.2.1 0 rfl ?_
  refine V_iload_n dec_X13_round.1.1.2.2.1 1 rfl ?_
  refine V_callV0 (ci := 13) (a := a0) (As := [(0, a1)]) (st := []) rfl rfl (X13_isDead_s G l s1 a0 a1) cal_X13_isDead rfl ml_X13_348 rfl rfl dec_X13_round.1.1.2.2.2 (k_tag (tag := 0) rfl fun r2 s3 => ?_)
  refine V_if_ne (tgt := 19) dec_X13_round.1.2.1.1 (by decide) ?_ ?_
  · refine V_aload_n dec_X13_round.1.2.2.2.1 0 rfl ?_
    refine V_callV0 (ci := 13) (a := a0) (As := []) (st := []) rfl rfl (X13_works_s G l s3 a0) cal_X13_works rfl ml_X13_342 rfl rfl dec_X13_round.1.2.2.2.2 (k_void rfl fun r4 s5 => ?_)
    refine V_iconst dec_X13_round.2.1.1.1 rfl ?_
    refine V_istore_n (lv' := [(2, (0, 1)), (0, (2, a0)), (1, (0, a1))]) dec_X13_round.2.1.1.2.1 (by decide) rfl ?_
    exact V_pick [1, 2, 0] rfl (X13_round_b25_s G l FU s5 a0 a1 1)
  · refine V_aload_n dec_X13_round.1.2.1.2.1 0 rfl ?_
    refine V_iconst dec_X13_round.1.2.1.2.2 rfl ?_
    refine V_callV0 (ci := 13) (a := a0) (As := [(0, 1)]) (st := []) rfl rfl (X13_refused_s G l s3 a0 1) cal_X13_refused rfl ml_X13_55 rfl rfl dec_X13_round.1.2.2.1.1 (k_tag (tag := 0) rfl fun r10 s11 => ?_)
    exact V_iret rfl dec_X13_round.1.2.2.1.2
theorem dec_X13_seats : ((((((decode cX13_seats 0 = .ok (.iload_n 1, 1) ∧ decode cX13_seats 1 = .ok (.istore_n 2, 1)) ∧ (decode cX13_seats 2 = .ok (.iconst 0, 1) ∧ (decode cX13_seats 3 = .ok (.istore_n 3, 1) ∧ decode cX13_seats 4 = .ok (.iconst 1, 1)))) ∧ ((decode cX13_seats 5 = .ok (.istore 4, 2) ∧ (decode cX13_seats 7 = .ok (.iconst 2, 1) ∧ decode cX13_seats 8 = .ok (.istore 5, 2))) ∧ (decode cX13_seats 10 = .ok (.iload 5, 2) ∧ (decode cX13_seats 12 = .ok (.aload_n 0, 1) ∧ decode cX13_seats 13 = .ok (.getfield 303, 3))))) ∧ (((decode cX13_seats 16 = .ok (.getfield 193, 3) ∧ decode cX13_seats 19 = .ok (.if_icmp .ge 16, 3)) ∧ (decode cX13_seats 22 = .ok (.iload 4, 2) ∧ (decode cX13_seats 24 = .ok (.iload 5, 2) ∧ decode cX13_seats 26 = .ok (.imul, 1)))) ∧ ((decode cX13_seats 27 = .ok (.istore 4, 2) ∧ (decode cX13_seats 29 = .ok (.iinc 5 1, 3) ∧ decode cX13_seats 32 = .ok (.goto (-22), 3))) ∧ (decode cX13_seats 35 = .ok (.iconst 0, 1) ∧ (decode cX13_seats 36 = .ok (.istore 5, 2) ∧ decode cX13_seats 38 = .ok (.iload 5, 2)))))) ∧ ((((decode cX13_seats 40 = .ok (.aload_n 0, 1) ∧ decode cX13_seats 41 = .ok (.getfield 303, 3)) ∧ (decode cX13_seats 44 = .ok (.getfield 193, 3) ∧ (decode cX13_seats 47 = .ok (.if_icmp .ge 114, 3) ∧ decode cX13_seats 50 = .ok (.iload_n 2, 1)))) ∧ ((decode cX13_seats 51 = .ok (.iload 4, 2) ∧ (decode cX13_seats 53 = .ok (.idiv, 1) ∧ decode cX13_seats 54 = .ok (.istore 6, 2))) ∧ (decode cX13_seats 56 = .ok (.iload_n 2, 1) ∧ (decode cX13_seats 57 = .ok (.iload 4, 2) ∧ decode cX13_seats 59 = .ok (.irem, 1))))) ∧ (((decode cX13_seats 60 = .ok (.istore_n 2, 1) ∧ decode cX13_seats 61 = .ok (.iload 5, 2)) ∧ (decode cX13_seats 63 = .ok (.iconst 1, 1) ∧ (decode cX13_seats 64 = .ok (.iadd, 1) ∧ decode cX13_seats 65 = .ok (.aload_n 0, 1)))) ∧ ((decode cX13_seats 66 = .ok (.getfield 303, 3) ∧ (decode cX13_seats 69 = .ok (.getfield 193, 3) ∧ decode cX13_seats 72 = .ok (.if_icmp .ge 20, 3))) ∧ (decode cX13_seats 75 = .ok (.iload 4, 2) ∧ (decode cX13_seats 77 = .ok (.aload_n 0, 1) ∧ decode cX13_seats 78 = .ok (.getfield 303, 3))))))) ∧ (((((decode cX13_seats 81 = .ok (.getfield 193, 3) ∧ decode cX13_seats 84 = .ok (.iconst 1, 1)) ∧ (decode cX13_seats 85 = .ok (.isub, 1) ∧ (decode cX13_seats 86 = .ok (.iload 5, 2) ∧ decode cX13_seats 88 = .ok (.isub, 1)))) ∧ ((decode cX13_seats 89 = .ok (.idiv, 1) ∧ (decode cX13_seats 90 = .ok (.istore 4, 2) ∧ decode cX13_seats 92 = .ok (.iconst 0, 1))) ∧ (decode cX13_seats 93 = .ok (.istore 7, 2) ∧ (decode cX13_seats 95 = .ok (.iload_n 3, 1) ∧ decode cX13_seats 96 = .ok (.iload 7, 2))))) ∧ (((decode cX13_seats 98 = .ok (.invokestatic 314, 3) ∧ decode cX13_seats 101 = .ok (.ifCond .ne 8, 3)) ∧ (decode cX13_seats 104 = .ok (.iload 6, 2) ∧ (decode cX13_seats 106 = .ok (.ifCond .le 28, 3) ∧ decode cX13_seats 109 = .ok (.iload 6, 2)))) ∧ ((decode cX13_seats 111 = .ok (.iload_n 3, 1) ∧ (decode cX13_seats 112 = .ok (.iload 7, 2) ∧ decode cX13_seats 114 = .ok (.invokestatic 314, 3))) ∧ (decode cX13_seats 117 = .ok (.ifCond .eq 7, 3) ∧ (decode cX13_seats 120 = .ok (.iconst 0, 1) ∧ decode cX13_seats 121 = .ok (.goto 4, 3)))))) ∧ ((((decode cX13_seats 124 = .ok (.iconst 1, 1) ∧ decode cX13_seats 125 = .ok (.isub, 1)) ∧ (decode cX13_seats 126 = .ok (.istore 6, 2) ∧ (decode cX13_seats 128 = .ok (.iinc 7 1, 3) ∧ decode cX13_seats 131 = .ok (.goto (-36), 3)))) ∧ ((decode cX13_seats 134 = .ok (.iload_n 3, 1) ∧ (decode cX13_seats 135 = .ok (.iconst 1, 1) ∧ decode cX13_seats 136 = .ok (.iload 7, 2))) ∧ (decode cX13_seats 138 = .ok (.ishl, 1) ∧ (decode cX13_seats 139 = .ok (.ior, 1) ∧ decode cX13_seats 140 = .ok (.istore_n 3, 1))))) ∧ (((decode cX13_seats 141 = .ok (.aload_n 0, 1) ∧ decode cX13_seats 142 = .ok (.getfield 21, 3)) ∧ (decode cX13_seats 145 = .ok (.iload 5, 2) ∧ (decode cX13_seats 147 = .ok (.aload_n 0, 1) ∧ decode cX13_seats 148 = .ok (.getfield 30, 3)))) ∧ ((decode cX13_seats 151 = .ok (.iload 7, 2) ∧ (decode cX13_seats 153 = .ok (.iaload, 1) ∧ decode cX13_seats 154 = .ok (.iastore, 1))) ∧ (decode cX13_seats 155 = .ok (.iinc 5 1, 3) ∧ (decode cX13_seats 158 = .ok (.goto (-120), 3) ∧ decode cX13_seats 161 = .ok (.return_, 1)))))))) := ⟨⟨⟨by decide +kernel, by decide +kernel⟩, ⟨by decide +kernel, by decide +kernel⟩⟩, ⟨⟨by decide +kernel, by decide +kernel⟩, ⟨by decide +kernel, by decide +kernel⟩⟩⟩
def X13_seats_b125 (rk38 : St → Int → Int → Int → Int → Int → Rs) (rk95 : St → Int → Int → Int → Int → Int → Int → Int → Rs) (s : St) (x0 x2 x3 x4 x5 x7 k0 k1 : Int) : Rs :=
  rk95 s x0 x2 x3 x4 x5 (w32 (k1 - k0)) (w32 (x7 + 1))
set_option maxRecDepth 100000 in
set_option maxHeartbeats 4000000 in
theorem X13_seats_b125_s (G : Gx) (l : Launch) (rk38 : St → Int → Int → Int → Int → Int → Rs) (rk95 : St → Int → Int → Int → Int → Int → Int → Int → Rs) (hk38 : ∀ (s : St) (x0 x2 x3 x4 x5 : Int), V G l mX13_seats 38 [(0, (2, x0)), (2, (0, x2)), (3, (0, x3)), (4, (0, x4)), (5, (0, x5))] [] s (rk38 s x0 x2 x3 x4 x5)) (hk95 : ∀ (s : St) (x0 x2 x3 x4 x5 x6 x7 : Int), V G l mX13_seats 95 [(0, (2, x0)), (2, (0, x2)), (3, (0, x3)), (4, (0, x4)), (5, (0, x5)), (6, (0, x6)), (7, (0, x7))] [] s (rk95 s x0 x2 x3 x4 x5 x6 x7)) (s : St) (x0 x2 x3 x4 x5 x7 k0 k1 : Int) : V G l mX13_seats 125 [(0, (2, x0)), (2, (0, x2)), (3, (0, x3)), (4, (0, x4)), (5, (0, x5)), (7, (0, x7))] [(0, k0), (0, k1)] s (X13_seats_b125 rk38 rk95 s x0 x2 x3 x4 x5 x7 k0 k1) := by
  unfold X13_seats_b125
  refine V_isub dec_X13_seats.2.2.1.1.1.2 ?_
  refine V_istore (lv' := [(6, (0, (w32 (k1 - k0)))), (0, (2, x0)), (2, (0, x2)), (3, (0, x3)), (4, (0, x4)), (5, (0, x5)), (7, (0, x7))]) dec_X13_seats.2.2.1.1.2.1 (by decide) rfl ?_
  refine V_iinc (lv' := [(7, (0, (w32 (x7 + 1)))), (6, (0, (w32 (k1 - k0)))), (0, (2, x0)), (2, (0, x2)), (3, (0, x3)), (4, (0, x4)), (5, (0, x5))]) dec_X13_seats.2.2.1.1.2.2.1 6 rfl (by decide) rfl ?_
  refine V_goto (tgt := 95) dec_X13_seats.2.2.1.1.2.2.2 (by decide) ?_
  exact V_pick [2, 3, 4, 5, 6, 1, 0] rfl (hk95 s x0 x2 x3 x4 x5 (w32 (k1 - k0)) (w32 (x7 + 1)))
def X13_seats_b109 (rk38 : St → Int → Int → Int → Int → Int → Rs) (rk95 : St → Int → Int → Int → Int → Int → Int → Int → Rs) (s : St) (x0 x2 x3 x4 x5 x6 x7 : Int) : Rs :=
  bnd (X13_bit s x3 x7) (fun r3 s4 => if r3 = 0 then (X13_seats_b125 rk38 rk95 s4 x0 x2 x3 x4 x5 x7 1 x6) else (X13_seats_b125 rk38 rk95 s4 x0 x2 x3 x4 x5 x7 0 x6))
set_option maxRecDepth 100000 in
set_option maxHeartbeats 4000000 in
theorem X13_seats_b109_s (G : Gx) (l : Launch) (rk38 : St → Int → Int → Int → Int → Int → Rs) (rk95 : St → Int → Int → Int → Int → Int → Int → Int → Rs) (hk38 : ∀ (s : St) (x0 x2 x3 x4 x5 : Int), V G l mX13_seats 38 [(0, (2, x0)), (2, (0, x2)), (3, (0, x3)), (4, (0, x4)), (5, (0, x5))] [] s (rk38 s x0 x2 x3 x4 x5)) (hk95 : ∀ (s : St) (x0 x2 x3 x4 x5 x6 x7 : Int), V G l mX13_seats 95 [(0, (2, x0)), (2, (0, x2)), (3, (0, x3)), (4, (0, x4)), (5, (0, x5)), (6, (0, x6)), (7, (0, x7))] [] s (rk95 s x0 x2 x3 x4 x5 x6 x7)) (s : St) (x0 x2 x3 x4 x5 x6 x7 : Int) : V G l mX13_seats 109 [(0, (2, x0)), (2, (0, x2)), (3, (0, x3)), (4, (0, x4)), (5, (0, x5)), (6, (0, x6)), (7, (0, x7))] [] s (X13_seats_b109 rk38 rk95 s x0 x2 x3 x4 x5 x6 x7) := by
  unfold X13_seats_b109
  refine V_iload dec_X13_seats.2.1.2.1.2.2.2 5 rfl ?_
  refine V_iload_n dec_X13_seats.2.1.2.2.1.1 2 rfl ?_
  refine V_iload dec_X13_seats.2.1.2.2.1.2.1 6 rfl ?_
  refine V_callS0 (As := [(0, x3), (0, x7)]) (st := [(0, x6)]) (host := "") rfl (X13_bit_s G l s x3 x7) cal_X13_bit rfl (Or.inl ml_X13_314) rfl rfl dec_X13_seats.2.1.2.2.1.2.2 (k_tag (tag := 0) rfl fun r3 s4 => ?_)
  refine V_if_eq (tgt := 124) dec_X13_seats.2.1.2.2.2.1 (by decide) ?_ ?_
  · refine V_iconst dec_X13_seats.2.2.1.1.1.1 rfl ?_
    exact V_pick [0, 1, 2, 3, 4, 6] rfl (X13_seats_b125_s G l rk38 rk95 hk38 hk95 s4 x0 x2 x3 x4 x5 x7 1 x6)
  · refine V_iconst dec_X13_seats.2.1.2.2.2.2.1 rfl ?_
    refine V_goto (tgt := 125) dec_X13_seats.2.1.2.2.2.2.2 (by decide) ?_
    exact V_pick [0, 1, 2, 3, 4, 6] rfl (X13_seats_b125_s G l rk38 rk95 hk38 hk95 s4 x0 x2 x3 x4 x5 x7 0 x6)
def X13_seats_b95_body (rk38 : St → Int → Int → Int → Int → Int → Rs) (rk95 : St → Int → Int → Int → Int → Int → Int → Int → Rs) (s : St) (x0 x2 x3 x4 x5 x6 x7 : Int) : Rs :=
  bnd (X13_bit s x3 x7) (fun r1 s2 => if ¬ r1 = 0 then (X13_seats_b109 rk38 rk95 s2 x0 x2 x3 x4 x5 x6 x7) else (if x6 ≤ 0 then (grd (isK s2 23 x0) (grd (isK s2 23 x0) (grd (isK s2 1 (gR s2 x0 21) ∧ 0 ≤ x7 ∧ x7 < ln s2 (gR s2 x0 21)) (grd (isK s2 1 (gR s2 x0 16) ∧ 0 ≤ x5 ∧ x5 < ln s2 (gR s2 x0 16)) (lets (pI s2 (gR s2 x0 16) x5.toNat (gI s2 (gR s2 x0 21) x7.toNat)) (fun s5 => rk38 s5 x0 x2 (or32 x3 (shl32 1 x7)) x4 (w32 (x5 + 1)))))))) else (X13_seats_b109 rk38 rk95 s2 x0 x2 x3 x4 x5 x6 x7)))
def X13_seats_b95 (rk38 : St → Int → Int → Int → Int → Int → Rs) (n : Nat) (s : St) (x0 x2 x3 x4 x5 x6 x7 : Int) : Rs := iter (fun (rec : St × Int × Int × Int × Int × Int × Int × Int → Rs) (a : St × Int × Int × Int × Int × Int × Int × Int) => X13_seats_b95_body rk38 (fun (s : St) (x0 x2 x3 x4 x5 x6 x7 : Int) => rec (s, x0, x2, x3, x4, x5, x6, x7)) a.1 a.2.1 a.2.2.1 a.2.2.2.1 a.2.2.2.2.1 a.2.2.2.2.2.1 a.2.2.2.2.2.2.1 a.2.2.2.2.2.2.2) n (s, x0, x2, x3, x4, x5, x6, x7)
theorem X13_seats_b95_0 (rk38 : St → Int → Int → Int → Int → Int → Rs) (s : St) (x0 x2 x3 x4 x5 x6 x7 : Int) : X13_seats_b95 rk38 0 s x0 x2 x3 x4 x5 x6 x7 = none := rfl
theorem X13_seats_b95_1 (rk38 : St → Int → Int → Int → Int → Int → Rs) (n : Nat) (s : St) (x0 x2 x3 x4 x5 x6 x7 : Int) : X13_seats_b95 rk38 (n + 1) s x0 x2 x3 x4 x5 x6 x7 = X13_seats_b95_body rk38 (X13_seats_b95 rk38 n) s x0 x2 x3 x4 x5 x6 x7 := rfl
set_option maxRecDepth 100000 in
set_option maxHeartbeats 4000000 in
theorem X13_seats_b95_body_s (G : Gx) (l : Launch) (rk38 : St → Int → Int → Int → Int → Int → Rs) (rk95 : St → Int → Int → Int → Int → Int → Int → Int → Rs) (hk38 : ∀ (s : St) (x0 x2 x3 x4 x5 : Int), V G l mX13_seats 38 [(0, (2, x0)), (2, (0, x2)), (3, (0, x3)), (4, (0, x4)), (5, (0, x5))] [] s (rk38 s x0 x2 x3 x4 x5)) (hk95 : ∀ (s : St) (x0 x2 x3 x4 x5 x6 x7 : Int), V G l mX13_seats 95 [(0, (2, x0)), (2, (0, x2)), (3, (0, x3)), (4, (0, x4)), (5, (0, x5)), (6, (0, x6)), (7, (0, x7))] [] s (rk95 s x0 x2 x3 x4 x5 x6 x7)) (s : St) (x0 x2 x3 x4 x5 x6 x7 : Int) : V G l mX13_seats 95 [(0, (2, x0)), (2, (0, x2)), (3, (0, x3)), (4, (0, x4)), (5, (0, x5)), (6, (0, x6)), (7, (0, x7))] [] s (X13_seats_b95_body rk38 rk95 s x0 x2 x3 x4 x5 x6 x7) := by
  unfold X13_seats_b95_body
  refine V_iload_n dec_X13_seats.2.1.1.2.2.2.1 2 rfl ?_
  refine V_iload dec_X13_seats.2.1.1.2.2.2.2 6 rfl ?_
  refine V_callS0 (As := [(0, x3), (0, x7)]) (st := []) (host := "") rfl (X13_bit_s G l s x3 x7) cal_X13_bit rfl (Or.inl ml_X13_314) rfl rfl dec_X13_seats.2.1.2.1.1.1 (k_tag (tag := 0) rfl fun r1 s2 => ?_)
  refine V_if_ne (tgt := 109) dec_X13_seats.2.1.2.1.1.2 (by decide) ?_ ?_
  · exact V_pick [0, 1, 2, 3, 4, 5, 6] rfl (X13_seats_b109_s G l rk38 rk95 hk38 hk95 s2 x0 x2 x3 x4 x5 x6 x7)
  · refine V_iload dec_X13_seats.2.1.2.1.2.1 5 rfl ?_
    refine V_if_le (tgt := 134) dec_X13_seats.2.1.2.1.2.2.1 (by decide) ?_ ?_
    · refine V_iload_n dec_X13_seats.2.2.1.2.1.1 2 rfl ?_
      refine V_iconst dec_X13_seats.2.2.1.2.1.2.1 rfl ?_
      refine V_iload dec_X13_seats.2.2.1.2.1.2.2 6 rfl ?_
      refine V_ishl dec_X13_seats.2.2.1.2.2.1 ?_
      refine V_ior dec_X13_seats.2.2.1.2.2.2.1 ?_
      refine V_istore_n (lv' := [(3, (0, (or32 x3 (shl32 1 x7)))), (0, (2, x0)), (2, (0, x2)), (4, (0, x4)), (5, (0, x5)), (6, (0, x6)), (7, (0, x7))]) dec_X13_seats.2.2.1.2.2.2.2 (by decide) rfl ?_
      refine V_aload_n dec_X13_seats.2.2.2.1.1.1 1 rfl ?_
      refine V_getR 13 16 nf_13_16 ft_13_16 fl_X13_21 dec_X13_seats.2.2.2.1.1.2 ?_
      refine V_iload dec_X13_seats.2.2.2.1.2.1 4 rfl ?_
      refine V_aload_n dec_X13_seats.2.2.2.1.2.2.1 1 rfl ?_
      refine V_getR 13 21 nf_13_21 ft_13_21 fl_X13_30 dec_X13_seats.2.2.2.1.2.2.2 ?_
      refine V_iload dec_X13_seats.2.2.2.2.1.1 6 rfl ?_
      refine V_iald dec_X13_seats.2.2.2.2.1.2.1 ?_
      refine V_iast dec_X13_seats.2.2.2.2.1.2.2 ?_
      refine V_lets fun s5 => ?_
      refine V_iinc (lv' := [(5, (0, (w32 (x5 + 1)))), (3, (0, (or32 x3 (shl32 1 x7)))), (0, (2, x0)), (2, (0, x2)), (4, (0, x4)), (6, (0, x6)), (7, (0, x7))]) dec_X13_seats.2.2.2.2.2.1 4 rfl (by decide) rfl ?_
      refine V_goto (tgt := 38) dec_X13_seats.2.2.2.2.2.2.1 (by decide) ?_
      exact V_pick [2, 3, 1, 4, 0] rfl (hk38 s5 x0 x2 (or32 x3 (shl32 1 x7)) x4 (w32 (x5 + 1)))
    · exact V_pick [0, 1, 2, 3, 4, 5, 6] rfl (X13_seats_b109_s G l rk38 rk95 hk38 hk95 s2 x0 x2 x3 x4 x5 x6 x7)
theorem X13_seats_b95_s (G : Gx) (l : Launch) (rk38 : St → Int → Int → Int → Int → Int → Rs) (hk38 : ∀ (s : St) (x0 x2 x3 x4 x5 : Int), V G l mX13_seats 38 [(0, (2, x0)), (2, (0, x2)), (3, (0, x3)), (4, (0, x4)), (5, (0, x5))] [] s (rk38 s x0 x2 x3 x4 x5)) (n : Nat) (s : St) (x0 x2 x3 x4 x5 x6 x7 : Int) : V G l mX13_seats 95 [(0, (2, x0)), (2, (0, x2)), (3, (0, x3)), (4, (0, x4)), (5, (0, x5)), (6, (0, x6)), (7, (0, x7))] [] s (X13_seats_b95 rk38 n s x0 x2 x3 x4 x5 x6 x7) :=
  V_iter (LV := fun a : St × Int × Int × Int × Int × Int × Int × Int => [(0, (2, a.2.1)), (2, (0, a.2.2.1)), (3, (0, a.2.2.2.1)), (4, (0, a.2.2.2.2.1)), (5, (0, a.2.2.2.2.2.1)), (6, (0, a.2.2.2.2.2.2.1)), (7, (0, a.2.2.2.2.2.2.2))]) (ST := fun a : St × Int × Int × Int × Int × Int × Int × Int => []) (SS := fun a : St × Int × Int × Int × Int × Int × Int × Int => a.1) (fun rec hrec a => X13_seats_b95_body_s G l rk38 (fun (s : St) (x0 x2 x3 x4 x5 x6 x7 : Int) => rec (s, x0, x2, x3, x4, x5, x6, x7)) hk38 (fun (s : St) (x0 x2 x3 x4 x5 x6 x7 : Int) => hrec (s, x0, x2, x3, x4, x5, x6, x7)) a.1 a.2.1 a.2.2.1 a.2.2.2.1 a.2.2.2.2.1 a.2.2.2.2.2.1 a.2.2.2.2.2.2.1 a.2.2.2.2.2.2.2) n (s, x0, x2, x3, x4, x5, x6, x7)
def X13_seats_b92 (rk38 : St → Int → Int → Int → Int → Int → Rs) (s : St) (x0 x2 x3 x4 x5 x6 : Int) : Rs :=
  X13_seats_b95 rk38 FU s x0 x2 x3 x4 x5 x6 0
set_option maxRecDepth 100000 in
set_option maxHeartbeats 4000000 in
theorem X13_seats_b92_s (G : Gx) (l : Launch) (rk38 : St → Int → Int → Int → Int → Int → Rs) (hk38 : ∀ (s : St) (x0 x2 x3 x4 x5 : Int), V G l mX13_seats 38 [(0, (2, x0)), (2, (0, x2)), (3, (0, x3)), (4, (0, x4)), (5, (0, x5))] [] s (rk38 s x0 x2 x3 x4 x5)) (s : St) (x0 x2 x3 x4 x5 x6 : Int) : V G l mX13_seats 92 [(0, (2, x0)), (2, (0, x2)), (3, (0, x3)), (4, (0, x4)), (5, (0, x5)), (6, (0, x6))] [] s (X13_seats_b92 rk38 s x0 x2 x3 x4 x5 x6) := by
  unfold X13_seats_b92
  refine V_iconst dec_X13_seats.2.1.1.2.1.2.2 rfl ?_
  refine V_istore (lv' := [(7, (0, 0)), (0, (2, x0)), (2, (0, x2)), (3, (0, x3)), (4, (0, x4)), (5, (0, x5)), (6, (0, x6))]) dec_X13_seats.2.1.1.2.2.1 (by decide) rfl ?_
  exact V_pick [1, 2, 3, 4, 5, 6, 0] rfl (X13_seats_b95_s G l rk38 hk38 FU s x0 x2 x3 x4 x5 x6 0)
def X13_seats_b38_body (rk38 : St → Int → Int → Int → Int → Int → Rs) (s : St) (x0 x2 x3 x4 x5 : Int) : Rs :=
  grd (isK s 23 x0) (grd (isK s 22 (gR s x0 3)) (if (gI s (gR s x0 3) 2) ≤ x5 then (some (0, s)) else (grd (x4 ≠ 0) (grd (x4 ≠ 0) (grd (isK s 23 x0) (grd (isK s 22 (gR s x0 3)) (if (gI s (gR s x0 3) 2) ≤ (w32 (x5 + 1)) then (X13_seats_b92 rk38 s x0 (Int.tmod x2 x4) x3 x4 x5 (w32 (Int.tdiv x2 x4))) else (grd (isK s 23 x0) (grd (isK s 22 (gR s x0 3)) (grd ((w32 ((w32 ((gI s (gR s x0 3) 2) - 1)) - x5)) ≠ 0) (letv (w32 (Int.tdiv x4 (w32 ((w32 ((gI s (gR s x0 3) 2) - 1)) - x5)))) (fun y6 => X13_seats_b92 rk38 s x0 (Int.tmod x2 x4) x3 y6 x5 (w32 (Int.tdiv x2 x4))))))))))))))
def X13_seats_b38 (n : Nat) (s : St) (x0 x2 x3 x4 x5 : Int) : Rs := iter (fun (rec : St × Int × Int × Int × Int × Int → Rs) (a : St × Int × Int × Int × Int × Int) => X13_seats_b38_body (fun (s : St) (x0 x2 x3 x4 x5 : Int) => rec (s, x0, x2, x3, x4, x5)) a.1 a.2.1 a.2.2.1 a.2.2.2.1 a.2.2.2.2.1 a.2.2.2.2.2) n (s, x0, x2, x3, x4, x5)
theorem X13_seats_b38_0 (s : St) (x0 x2 x3 x4 x5 : Int) : X13_seats_b38 0 s x0 x2 x3 x4 x5 = none := rfl
theorem X13_seats_b38_1 (n : Nat) (s : St) (x0 x2 x3 x4 x5 : Int) : X13_seats_b38 (n + 1) s x0 x2 x3 x4 x5 = X13_seats_b38_body (X13_seats_b38 n) s x0 x2 x3 x4 x5 := rfl
set_option maxRecDepth 100000 in
set_option maxHeartbeats 4000000 in
theorem X13_seats_b38_body_s (G : Gx) (l : Launch) (rk38 : St → Int → Int → Int → Int → Int → Rs) (hk38 : ∀ (s : St) (x0 x2 x3 x4 x5 : Int), V G l mX13_seats 38 [(0, (2, x0)), (2, (0, x2)), (3, (0, x3)), (4, (0, x4)), (5, (0, x5))] [] s (rk38 s x0 x2 x3 x4 x5)) (s : St) (x0 x2 x3 x4 x5 : Int) : V G l mX13_seats 38 [(0, (2, x0)), (2, (0, x2)), (3, (0, x3)), (4, (0, x4)), (5, (0, x5))] [] s (X13_seats_b38_body rk38 s x0 x2 x3 x4 x5) := by
  unfold X13_seats_b38_body
  refine V_iload dec_X13_seats.1.1.2.2.2.2.2 4 rfl ?_
  refine V_aload_n dec_X13_seats.1.2.1.1.1.1 0 rfl ?_
  refine V_getR 13 3 nf_13_3 ft_13_3 fl_X13_303 dec_X13_seats.1.2.1.1.1.2 ?_
  refine V_getIN RX13 12 2 nf_12_2 ft_12_2 fl_X13_193 dec_X13_seats.1.2.1.1.2.1 ?_
  refine V_icmp_ge (tgt := 161) dec_X13_seats.1.2.1.1.2.2.1 (by decide) ?_ ?_
  · exact V_vret rfl dec_X13_seats.2.2.2.2.2.2.2
  · refine V_iload_n dec_X13_seats.1.2.1.1.2.2.2 1 rfl ?_
    refine V_iload dec_X13_seats.1.2.1.2.1.1 3 rfl ?_
    refine V_idiv dec_X13_seats.1.2.1.2.1.2.1 ?_
    refine V_istore (lv' := [(6, (0, (w32 (Int.tdiv x2 x4)))), (0, (2, x0)), (2, (0, x2)), (3, (0, x3)), (4, (0, x4)), (5, (0, x5))]) dec_X13_seats.1.2.1.2.1.2.2 (by decide) rfl ?_
    refine V_iload_n dec_X13_seats.1.2.1.2.2.1 2 rfl ?_
    refine V_iload dec_X13_seats.1.2.1.2.2.2.1 4 rfl ?_
    refine V_irem dec_X13_seats.1.2.1.2.2.2.2 ?_
    refine V_istore_n (lv' := [(2, (0, (Int.tmod x2 x4))), (6, (0, (w32 (Int.tdiv x2 x4)))), (0, (2, x0)), (3, (0, x3)), (4, (0, x4)), (5, (0, x5))]) dec_X13_seats.1.2.2.1.1.1 (by decide) rfl ?_
    refine V_iload dec_X13_seats.1.2.2.1.1.2 5 rfl ?_
    refine V_iconst dec_X13_seats.1.2.2.1.2.1 rfl ?_
    refine V_iadd dec_X13_seats.1.2.2.1.2.2.1 ?_
    refine V_aload_n dec_X13_seats.1.2.2.1.2.2.2 2 rfl ?_
    refine V_getR 13 3 nf_13_3 ft_13_3 fl_X13_303 dec_X13_seats.1.2.2.2.1.1 ?_
    refine V_getIN RX13 12 2 nf_12_2 ft_12_2 fl_X13_193 dec_X13_seats.1.2.2.2.1.2.1 ?_
    refine V_icmp_ge (tgt := 92) dec_X13_seats.1.2.2.2.1.2.2 (by decide) ?_ ?_
    · exact V_pick [2, 0, 3, 4, 5, 1] rfl (X13_seats_b92_s G l rk38 hk38 s x0 (Int.tmod x2 x4) x3 x4 x5 (w32 (Int.tdiv x2 x4)))
    · refine V_iload dec_X13_seats.1.2.2.2.2.1 4 rfl ?_
      refine V_aload_n dec_X13_seats.1.2.2.2.2.2.1 2 rfl ?_
      refine V_getR 13 3 nf_13_3 ft_13_3 fl_X13_303 dec_X13_seats.1.2.2.2.2.2.2 ?_
      refine V_getIN RX13 12 2 nf_12_2 ft_12_2 fl_X13_193 dec_X13_seats.2.1.1.1.1.1 ?_
      refine V_iconst dec_X13_seats.2.1.1.1.1.2 rfl ?_
      refine V_isub dec_X13_seats.2.1.1.1.2.1 ?_
      refine V_iload dec_X13_seats.2.1.1.1.2.2.1 5 rfl ?_
      refine V_isub dec_X13_seats.2.1.1.1.2.2.2 ?_
      refine V_idiv dec_X13_seats.2.1.1.2.1.1 ?_
      refine V_letv fun y6 => ?_
      refine V_istore (lv' := [(4, (0, y6)), (2, (0, (Int.tmod x2 x4))), (6, (0, (w32 (Int.tdiv x2 x4)))), (0, (2, x0)), (3, (0, x3)), (5, (0, x5))]) dec_X13_seats.2.1.1.2.1.2.1 (by decide) rfl ?_
      exact V_pick [3, 1, 4, 0, 5, 2] rfl (X13_seats_b92_s G l rk38 hk38 s x0 (Int.tmod x2 x4) x3 y6 x5 (w32 (Int.tdiv x2 x4)))
theorem X13_seats_b38_s (G : Gx) (l : Launch) (n : Nat) (s : St) (x0 x2 x3 x4 x5 : Int) : V G l mX13_seats 38 [(0, (2, x0)), (2, (0, x2)), (3, (0, x3)), (4, (0, x4)), (5, (0, x5))] [] s (X13_seats_b38 n s x0 x2 x3 x4 x5) :=
  V_iter (LV := fun a : St × Int × Int × Int × Int × Int => [(0, (2, a.2.1)), (2, (0, a.2.2.1)), (3, (0, a.2.2.2.1)), (4, (0, a.2.2.2.2.1)), (5, (0, a.2.2.2.2.2))]) (ST := fun a : St × Int × Int × Int × Int × Int => []) (SS := fun a : St × Int × Int × Int × Int × Int => a.1) (fun rec hrec a => X13_seats_b38_body_s G l (fun (s : St) (x0 x2 x3 x4 x5 : Int) => rec (s, x0, x2, x3, x4, x5)) (fun (s : St) (x0 x2 x3 x4 x5 : Int) => hrec (s, x0, x2, x3, x4, x5)) a.1 a.2.1 a.2.2.1 a.2.2.2.1 a.2.2.2.2.1 a.2.2.2.2.2) n (s, x0, x2, x3, x4, x5)
def X13_seats_b10_body (rk10 : St → Int → Int → Int → Int → Int → Rs) (s : St) (x0 x2 x3 x4 x5 : Int) : Rs :=
  grd (isK s 23 x0) (grd (isK s 22 (gR s x0 3)) (if (gI s (gR s x0 3) 2) ≤ x5 then (X13_seats_b38 FU s x0 x2 x3 x4 0) else (rk10 s x0 x2 x3 (w32 (x4 * x5)) (w32 (x5 + 1)))))
def X13_seats_b10 (n : Nat) (s : St) (x0 x2 x3 x4 x5 : Int) : Rs := iter (fun (rec : St × Int × Int × Int × Int × Int → Rs) (a : St × Int × Int × Int × Int × Int) => X13_seats_b10_body (fun (s : St) (x0 x2 x3 x4 x5 : Int) => rec (s, x0, x2, x3, x4, x5)) a.1 a.2.1 a.2.2.1 a.2.2.2.1 a.2.2.2.2.1 a.2.2.2.2.2) n (s, x0, x2, x3, x4, x5)
theorem X13_seats_b10_0 (s : St) (x0 x2 x3 x4 x5 : Int) : X13_seats_b10 0 s x0 x2 x3 x4 x5 = none := rfl
theorem X13_seats_b10_1 (n : Nat) (s : St) (x0 x2 x3 x4 x5 : Int) : X13_seats_b10 (n + 1) s x0 x2 x3 x4 x5 = X13_seats_b10_body (X13_seats_b10 n) s x0 x2 x3 x4 x5 := rfl
set_option maxRecDepth 100000 in
set_option maxHeartbeats 4000000 in
theorem X13_seats_b10_body_s (G : Gx) (l : Launch) (rk10 : St → Int → Int → Int → Int → Int → Rs) (hk10 : ∀ (s : St) (x0 x2 x3 x4 x5 : Int), V G l mX13_seats 10 [(0, (2, x0)), (2, (0, x2)), (3, (0, x3)), (4, (0, x4)), (5, (0, x5))] [] s (rk10 s x0 x2 x3 x4 x5)) (s : St) (x0 x2 x3 x4 x5 : Int) : V G l mX13_seats 10 [(0, (2, x0)), (2, (0, x2)), (3, (0, x3)), (4, (0, x4)), (5, (0, x5))] [] s (X13_seats_b10_body rk10 s x0 x2 x3 x4 x5) := by
  unfold X13_seats_b10_body
  refine V_iload dec_X13_seats.1.1.1.2.2.1 4 rfl ?_
  refine V_aload_n dec_X13_seats.1.1.1.2.2.2.1 0 rfl ?_
  refine V_getR 13 3 nf_13_3 ft_13_3 fl_X13_303 dec_X13_seats.1.1.1.2.2.2.2 ?_
  refine V_getIN RX13 12 2 nf_12_2 ft_12_2 fl_X13_193 dec_X13_seats.1.1.2.1.1.1 ?_
  refine V_icmp_ge (tgt := 35) dec_X13_seats.1.1.2.1.1.2 (by decide) ?_ ?_
  · refine V_iconst dec_X13_seats.1.1.2.2.2.1 rfl ?_
    refine V_istore (lv' := [(5, (0, 0)), (0, (2, x0)), (2, (0, x2)), (3, (0, x3)), (4, (0, x4))]) dec_X13_seats.1.1.2.2.2.2.1 (by decide) rfl ?_
    exact V_pick [1, 2, 3, 4, 0] rfl (X13_seats_b38_s G l FU s x0 x2 x3 x4 0)
  · refine V_iload dec_X13_seats.1.1.2.1.2.1 3 rfl ?_
    refine V_iload dec_X13_seats.1.1.2.1.2.2.1 4 rfl ?_
    refine V_imul dec_X13_seats.1.1.2.1.2.2.2 ?_
    refine V_istore (lv' := [(4, (0, (w32 (x4 * x5)))), (0, (2, x0)), (2, (0, x2)), (3, (0, x3)), (5, (0, x5))]) dec_X13_seats.1.1.2.2.1.1 (by decide) rfl ?_
    refine V_iinc (lv' := [(5, (0, (w32 (x5 + 1)))), (4, (0, (w32 (x4 * x5)))), (0, (2, x0)), (2, (0, x2)), (3, (0, x3))]) dec_X13_seats.1.1.2.2.1.2.1 4 rfl (by decide) rfl ?_
    refine V_goto (tgt := 10) dec_X13_seats.1.1.2.2.1.2.2 (by decide) ?_
    exact V_pick [2, 3, 4, 1, 0] rfl (hk10 s x0 x2 x3 (w32 (x4 * x5)) (w32 (x5 + 1)))
theorem X13_seats_b10_s (G : Gx) (l : Launch) (n : Nat) (s : St) (x0 x2 x3 x4 x5 : Int) : V G l mX13_seats 10 [(0, (2, x0)), (2, (0, x2)), (3, (0, x3)), (4, (0, x4)), (5, (0, x5))] [] s (X13_seats_b10 n s x0 x2 x3 x4 x5) :=
  V_iter (LV := fun a : St × Int × Int × Int × Int × Int => [(0, (2, a.2.1)), (2, (0, a.2.2.1)), (3, (0, a.2.2.2.1)), (4, (0, a.2.2.2.2.1)), (5, (0, a.2.2.2.2.2))]) (ST := fun a : St × Int × Int × Int × Int × Int => []) (SS := fun a : St × Int × Int × Int × Int × Int => a.1) (fun rec hrec a => X13_seats_b10_body_s G l (fun (s : St) (x0 x2 x3 x4 x5 : Int) => rec (s, x0, x2, x3, x4, x5)) (fun (s : St) (x0 x2 x3 x4 x5 : Int) => hrec (s, x0, x2, x3, x4, x5)) a.1 a.2.1 a.2.2.1 a.2.2.2.1 a.2.2.2.2.1 a.2.2.2.2.2) n (s, x0, x2, x3, x4, x5)
def X13_seats (s : St) (a0 a1 : Int) : Rs :=
  X13_seats_b10 FU s a0 a1 0 1 2
set_option maxRecDepth 100000 in
set_option maxHeartbeats 4000000 in
theorem X13_seats_s (G : Gx) (l : Launch) (s : St) (a0 a1 : Int) : Snd G l mX13_seats [(2, a0), (0, a1)] s (X13_seats s a0 a1) := by
  refine Snd.of (by decide +kernel) rfl ?_
  show V G l mX13_seats 0 [(0, (2, a0)), (1, (0, a1))] [] s _
  unfold X13_seats
  refine V_iload_n dec_X13_seats.1.1.1.1.1.1 1 rfl ?_
  refine V_istore_n (lv' := [(2, (0, a1)), (0, (2, a0)), (1, (0, a1))]) dec_X13_seats.1.1.1.1.1.2 (by decide) rfl ?_
  refine V_iconst dec_X13_seats.1.1.1.1.2.1 rfl ?_
  refine V_istore_n (lv' := [(3, (0, 0)), (2, (0, a1)), (0, (2, a0)), (1, (0, a1))]) dec_X13_seats.1.1.1.1.2.2.1 (by decide) rfl ?_
  refine V_iconst dec_X13_seats.1.1.1.1.2.2.2 rfl ?_
  refine V_istore (lv' := [(4, (0, 1)), (3, (0, 0)), (2, (0, a1)), (0, (2, a0)), (1, (0, a1))]) dec_X13_seats.1.1.1.2.1.1 (by decide) rfl ?_
  refine V_iconst dec_X13_seats.1.1.1.2.1.2.1 rfl ?_
  refine V_istore (lv' := [(5, (0, 2)), (4, (0, 1)), (3, (0, 0)), (2, (0, a1)), (0, (2, a0)), (1, (0, a1))]) dec_X13_seats.1.1.1.2.1.2.2 (by decide) rfl ?_
  exact V_pick [4, 3, 2, 1, 0] rfl (X13_seats_b10_s G l FU s a0 a1 0 1 2)
theorem dec_X13_seating : (((((decode cX13_seating 0 = .ok (.aload_n 0, 1) ∧ (decode cX13_seating 1 = .ok (.invokevirtual 342, 3) ∧ decode cX13_seating 4 = .ok (.aload_n 0, 1))) ∧ ((decode cX13_seating 5 = .ok (.invokevirtual 367, 3) ∧ decode cX13_seating 8 = .ok (.iconst 1, 1)) ∧ (decode cX13_seating 9 = .ok (.istore_n 2, 1) ∧ decode cX13_seating 10 = .ok (.aload_n 0, 1)))) ∧ (((decode cX13_seating 11 = .ok (.iconst (-1), 1) ∧ decode cX13_seating 12 = .ok (.putfield 370, 3)) ∧ (decode cX13_seating 15 = .ok (.iconst 2, 1) ∧ decode cX13_seating 16 = .ok (.istore_n 3, 1))) ∧ ((decode cX13_seating 17 = .ok (.iload_n 3, 1) ∧ decode cX13_seating 18 = .ok (.aload_n 0, 1)) ∧ (decode cX13_seating 19 = .ok (.getfield 303, 3) ∧ decode cX13_seating 22 = .ok (.getfield 193, 3))))) ∧ ((((decode cX13_seating 25 = .ok (.if_icmp .gt 13, 3) ∧ decode cX13_seating 28 = .ok (.iload_n 2, 1)) ∧ (decode cX13_seating 29 = .ok (.iload_n 3, 1) ∧ decode cX13_seating 30 = .ok (.imul, 1))) ∧ ((decode cX13_seating 31 = .ok (.istore_n 2, 1) ∧ decode cX13_seating 32 = .ok (.iinc 3 1, 3)) ∧ (decode cX13_seating 35 = .ok (.goto (-18), 3) ∧ decode cX13_seating 38 = .ok (.iconst 0, 1)))) ∧ (((decode cX13_seating 39 = .ok (.istore_n 3, 1) ∧ decode cX13_seating 40 = .ok (.iload_n 3, 1)) ∧ (decode cX13_seating 41 = .ok (.iload_n 2, 1) ∧ decode cX13_seating 42 = .ok (.if_icmp .ge 77, 3))) ∧ ((decode cX13_seating 45 = .ok (.aload_n 0, 1) ∧ decode cX13_seating 46 = .ok (.iload_n 3, 1)) ∧ (decode cX13_seating 47 = .ok (.invokevirtual 373, 3) ∧ decode cX13_seating 50 = .ok (.aload_n 0, 1)))))) ∧ (((((decode cX13_seating 51 = .ok (.iload_n 1, 1) ∧ decode cX13_seating 52 = .ok (.invokevirtual 358, 3)) ∧ (decode cX13_seating 55 = .ok (.invokestatic 361, 3) ∧ decode cX13_seating 58 = .ok (.istore 4, 2))) ∧ ((decode cX13_seating 60 = .ok (.iload 4, 2) ∧ decode cX13_seating 62 = .ok (.aload_n 0, 1)) ∧ (decode cX13_seating 63 = .ok (.getfield 370, 3) ∧ decode cX13_seating 66 = .ok (.if_icmp .gt 6, 3)))) ∧ (((decode cX13_seating 69 = .ok (.goto 44, 3) ∧ decode cX13_seating 72 = .ok (.aload_n 0, 1)) ∧ (decode cX13_seating 73 = .ok (.iload 4, 2) ∧ decode cX13_seating 75 = .ok (.putfield 370, 3))) ∧ ((decode cX13_seating 78 = .ok (.iconst 0, 1) ∧ decode cX13_seating 79 = .ok (.istore 5, 2)) ∧ (decode cX13_seating 81 = .ok (.iload 5, 2) ∧ decode cX13_seating 83 = .ok (.aload_n 0, 1))))) ∧ ((((decode cX13_seating 84 = .ok (.getfield 303, 3) ∧ decode cX13_seating 87 = .ok (.getfield 193, 3)) ∧ (decode cX13_seating 90 = .ok (.if_icmp .ge 23, 3) ∧ decode cX13_seating 93 = .ok (.aload_n 0, 1))) ∧ ((decode cX13_seating 94 = .ok (.getfield 33, 3) ∧ decode cX13_seating 97 = .ok (.iload 5, 2)) ∧ (decode cX13_seating 99 = .ok (.aload_n 0, 1) ∧ decode cX13_seating 100 = .ok (.getfield 21, 3)))) ∧ (((decode cX13_seating 103 = .ok (.iload 5, 2) ∧ decode cX13_seating 105 = .ok (.iaload, 1)) ∧ (decode cX13_seating 106 = .ok (.iastore, 1) ∧ decode cX13_seating 107 = .ok (.iinc 5 1, 3))) ∧ ((decode cX13_seating 110 = .ok (.goto (-29), 3) ∧ decode cX13_seating 113 = .ok (.iinc 3 1, 3)) ∧ (decode cX13_seating 116 = .ok (.goto (-76), 3) ∧ decode cX13_seating 119 = .ok (.return_, 1))))))) := ⟨⟨⟨by decide +kernel, by decide +kernel⟩, ⟨by decide +kernel, by decide +kernel⟩⟩, ⟨⟨by decide +kernel, by decide +kernel⟩, ⟨by decide +kernel, by decide +kernel⟩⟩⟩
def X13_seating_b113 (rk40 : St → Int → Int → Int → Int → Rs) (s : St) (x0 x1 x2 x3 : Int) : Rs :=
  rk40 s x0 x1 x2 (w32 (x3 + 1))
set_option maxRecDepth 100000 in
set_option maxHeartbeats 4000000 in
theorem X13_seating_b113_s (G : Gx) (l : Launch) (rk40 : St → Int → Int → Int → Int → Rs) (hk40 : ∀ (s : St) (x0 x1 x2 x3 : Int), V G l mX13_seating 40 [(0, (2, x0)), (1, (0, x1)), (2, (0, x2)), (3, (0, x3))] [] s (rk40 s x0 x1 x2 x3)) (s : St) (x0 x1 x2 x3 : Int) : V G l mX13_seating 113 [(0, (2, x0)), (1, (0, x1)), (2, (0, x2)), (3, (0, x3))] [] s (X13_seating_b113 rk40 s x0 x1 x2 x3) := by
  unfold X13_seating_b113
  refine V_iinc (lv' := [(3, (0, (w32 (x3 + 1)))), (0, (2, x0)), (1, (0, x1)), (2, (0, x2))]) dec_X13_seating.2.2.2.2.1.2 3 rfl (by decide) rfl ?_
  refine V_goto (tgt := 40) dec_X13_seating.2.2.2.2.2.1 (by decide) ?_
  exact V_pick [1, 2, 3, 0] rfl (hk40 s x0 x1 x2 (w32 (x3 + 1)))
def X13_seating_b81_body (rk40 : St → Int → Int → Int → Int → Rs) (rk81 : St → Int → Int → Int → Int → Int → Rs) (s : St) (x0 x1 x2 x3 x5 : Int) : Rs :=
  grd (isK s 23 x0) (grd (isK s 22 (gR s x0 3)) (if (gI s (gR s x0 3) 2) ≤ x5 then (X13_seating_b113 rk40 s x0 x1 x2 x3) else (grd (isK s 23 x0) (grd (isK s 23 x0) (grd (isK s 1 (gR s x0 16) ∧ 0 ≤ x5 ∧ x5 < ln s (gR s x0 16)) (grd (isK s 1 (gR s x0 22) ∧ 0 ≤ x5 ∧ x5 < ln s (gR s x0 22)) (lets (pI s (gR s x0 22) x5.toNat (gI s (gR s x0 16) x5.toNat)) (fun s13 => rk81 s13 x0 x1 x2 x3 (w32 (x5 + 1))))))))))
def X13_seating_b81 (rk40 : St → Int → Int → Int → Int → Rs) (n : Nat) (s : St) (x0 x1 x2 x3 x5 : Int) : Rs := iter (fun (rec : St × Int × Int × Int × Int × Int → Rs) (a : St × Int × Int × Int × Int × Int) => X13_seating_b81_body rk40 (fun (s : St) (x0 x1 x2 x3 x5 : Int) => rec (s, x0, x1, x2, x3, x5)) a.1 a.2.1 a.2.2.1 a.2.2.2.1 a.2.2.2.2.1 a.2.2.2.2.2) n (s, x0, x1, x2, x3, x5)
theorem X13_seating_b81_0 (rk40 : St → Int → Int → Int → Int → Rs) (s : St) (x0 x1 x2 x3 x5 : Int) : X13_seating_b81 rk40 0 s x0 x1 x2 x3 x5 = none := rfl
theorem X13_seating_b81_1 (rk40 : St → Int → Int → Int → Int → Rs) (n : Nat) (s : St) (x0 x1 x2 x3 x5 : Int) : X13_seating_b81 rk40 (n + 1) s x0 x1 x2 x3 x5 = X13_seating_b81_body rk40 (X13_seating_b81 rk40 n) s x0 x1 x2 x3 x5 := rfl
set_option maxRecDepth 100000 in
set_option maxHeartbeats 4000000 in
theorem X13_seating_b81_body_s (G : Gx) (l : Launch) (rk40 : St → Int → Int → Int → Int → Rs) (rk81 : St → Int → Int → Int → Int → Int → Rs) (hk40 : ∀ (s : St) (x0 x1 x2 x3 : Int), V G l mX13_seating 40 [(0, (2, x0)), (1, (0, x1)), (2, (0, x2)), (3, (0, x3))] [] s (rk40 s x0 x1 x2 x3)) (hk81 : ∀ (s : St) (x0 x1 x2 x3 x5 : Int), V G l mX13_seating 81 [(0, (2, x0)), (1, (0, x1)), (2, (0, x2)), (3, (0, x3)), (5, (0, x5))] [] s (rk81 s x0 x1 x2 x3 x5)) (s : St) (x0 x1 x2 x3 x5 : Int) : V G l mX13_seating 81 [(0, (2, x0)), (1, (0, x1)), (2, (0, x2)), (3, (0, x3)), (5, (0, x5))] [] s (X13_seating_b81_body rk40 rk81 s x0 x1 x2 x3 x5) := by
  unfold X13_seating_b81_body
  refine V_iload dec_X13_seating.2.1.2.2.2.1 4 rfl ?_
  refine V_aload_n dec_X13_seating.2.1.2.2.2.2 0 rfl ?_
  refine V_getR 13 3 nf_13_3 ft_13_3 fl_X13_303 dec_X13_seating.2.2.1.1.1.1 ?_
  refine V_getIN RX13 12 2 nf_12_2 ft_12_2 fl_X13_193 dec_X13_seating.2.2.1.1.1.2 ?_
  refine V_icmp_ge (tgt := 113) dec_X13_seating.2.2.1.1.2.1 (by decide) ?_ ?_
  · exact V_pick [0, 1, 2, 3] rfl (X13_seating_b113_s G l rk40 hk40 s x0 x1 x2 x3)
  · refine V_aload_n dec_X13_seating.2.2.1.1.2.2 0 rfl ?_
    refine V_getR 13 22 nf_13_22 ft_13_22 fl_X13_33 dec_X13_seating.2.2.1.2.1.1 ?_
    refine V_iload dec_X13_seating.2.2.1.2.1.2 4 rfl ?_
    refine V_aload_n dec_X13_seating.2.2.1.2.2.1 0 rfl ?_
    refine V_getR 13 16 nf_13_16 ft_13_16 fl_X13_21 dec_X13_seating.2.2.1.2.2.2 ?_
    refine V_iload dec_X13_seating.2.2.2.1.1.1 4 rfl ?_
    refine V_iald dec_X13_seating.2.2.2.1.1.2 ?_
    refine V_iast dec_X13_seating.2.2.2.1.2.1 ?_
    refine V_lets fun s13 => ?_
    refine V_iinc (lv' := [(5, (0, (w32 (x5 + 1)))), (0, (2, x0)), (1, (0, x1)), (2, (0, x2)), (3, (0, x3))]) dec_X13_seating.2.2.2.1.2.2 4 rfl (by decide) rfl ?_
    refine V_goto (tgt := 81) dec_X13_seating.2.2.2.2.1.1 (by decide) ?_
    exact V_pick [1, 2, 3, 4, 0] rfl (hk81 s13 x0 x1 x2 x3 (w32 (x5 + 1)))
theorem X13_seating_b81_s (G : Gx) (l : Launch) (rk40 : St → Int → Int → Int → Int → Rs) (hk40 : ∀ (s : St) (x0 x1 x2 x3 : Int), V G l mX13_seating 40 [(0, (2, x0)), (1, (0, x1)), (2, (0, x2)), (3, (0, x3))] [] s (rk40 s x0 x1 x2 x3)) (n : Nat) (s : St) (x0 x1 x2 x3 x5 : Int) : V G l mX13_seating 81 [(0, (2, x0)), (1, (0, x1)), (2, (0, x2)), (3, (0, x3)), (5, (0, x5))] [] s (X13_seating_b81 rk40 n s x0 x1 x2 x3 x5) :=
  V_iter (LV := fun a : St × Int × Int × Int × Int × Int => [(0, (2, a.2.1)), (1, (0, a.2.2.1)), (2, (0, a.2.2.2.1)), (3, (0, a.2.2.2.2.1)), (5, (0, a.2.2.2.2.2))]) (ST := fun a : St × Int × Int × Int × Int × Int => []) (SS := fun a : St × Int × Int × Int × Int × Int => a.1) (fun rec hrec a => X13_seating_b81_body_s G l rk40 (fun (s : St) (x0 x1 x2 x3 x5 : Int) => rec (s, x0, x1, x2, x3, x5)) hk40 (fun (s : St) (x0 x1 x2 x3 x5 : Int) => hrec (s, x0, x1, x2, x3, x5)) a.1 a.2.1 a.2.2.1 a.2.2.2.1 a.2.2.2.2.1 a.2.2.2.2.2) n (s, x0, x1, x2, x3, x5)
def X13_seating_b40_body (rk40 : St → Int → Int → Int → Int → Rs) (s : St) (x0 x1 x2 x3 : Int) : Rs :=
  if x2 ≤ x3 then (some (0, s)) else (grd (isK s 23 x0) (bnd (X13_seats s x0 x3) (fun r6 s7 => grd (isK s7 23 x0) (bnd (X13_rightOn s7 x0 x1) (fun r8 s9 => bnd (X13_bits s9 r8) (fun r10 s11 => grd (isK s11 23 x0) (if (gI s11 x0 23) < r10 then (grd (isK s11 23 x0) (lets (pI s11 x0 23 r10) (fun s12 => X13_seating_b81 rk40 FU s12 x0 x1 x2 x3 0))) else (X13_seating_b113 rk40 s11 x0 x1 x2 x3))))))))
def X13_seating_b40 (n : Nat) (s : St) (x0 x1 x2 x3 : Int) : Rs := iter (fun (rec : St × Int × Int × Int × Int → Rs) (a : St × Int × Int × Int × Int) => X13_seating_b40_body (fun (s : St) (x0 x1 x2 x3 : Int) => rec (s, x0, x1, x2, x3)) a.1 a.2.1 a.2.2.1 a.2.2.2.1 a.2.2.2.2) n (s, x0, x1, x2, x3)
theorem X13_seating_b40_0 (s : St) (x0 x1 x2 x3 : Int) : X13_seating_b40 0 s x0 x1 x2 x3 = none := rfl
theorem X13_seating_b40_1 (n : Nat) (s : St) (x0 x1 x2 x3 : Int) : X13_seating_b40 (n + 1) s x0 x1 x2 x3 = X13_seating_b40_body (X13_seating_b40 n) s x0 x1 x2 x3 := rfl
set_option maxRecDepth 100000 in
set_option maxHeartbeats 4000000 in
theorem X13_seating_b40_body_s (G : Gx) (l : Launch) (rk40 : St → Int → Int → Int → Int → Rs) (hk40 : ∀ (s : St) (x0 x1 x2 x3 : Int), V G l mX13_seating 40 [(0, (2, x0)), (1, (0, x1)), (2, (0, x2)), (3, (0, x3))] [] s (rk40 s x0 x1 x2 x3)) (s : St) (x0 x1 x2 x3 : Int) : V G l mX13_seating 40 [(0, (2, x0)), (1, (0, x1)), (2, (0, x2)), (3, (0, x3))] [] s (X13_seating_b40_body rk40 s x0 x1 x2 x3) := by
  unfold X13_seating_b40_body
  refine V_iload_n dec_X13_seating.1.2.2.1.1.2 3 rfl ?_
  refine V_iload_n dec_X13_seating.1.2.2.1.2.1 2 rfl ?_
  refine V_icmp_ge (tgt := 119) dec_X13_seating.1.2.2.1.2.2 (by decide) ?_ ?_
  · exact V_vret rfl dec_X13_seating.2.2.2.2.2.2
  · refine V_aload_n dec_X13_seating.1.2.2.2.1.1 0 rfl ?_
    refine V_iload_n dec_X13_seating.1.2.2.2.1.2 3 rfl ?_
    refine V_callV0 (ci := 13) (a := x0) (As := [(0, x3)]) (st := []) rfl rfl (X13_seats_s G l s x0 x3) cal_X13_seats rfl ml_X13_373 rfl rfl dec_X13_seating.1.2.2.2.2.1 (k_void rfl fun r6 s7 => ?_)
    refine V_aload_n dec_X13_seating.1.2.2.2.2.2 0 rfl ?_
    refine V_iload_n dec_X13_seating.2.1.1.1.1.1 1 rfl ?_
    refine V_callV0 (ci := 13) (a := x0) (As := [(0, x1)]) (st := []) rfl rfl (X13_rightOn_s G l s7 x0 x1) cal_X13_rightOn rfl ml_X13_358 rfl rfl dec_X13_seating.2.1.1.1.1.2 (k_tag (tag := 0) rfl fun r8 s9 => ?_)
    refine V_callS0 (As := [(0, r8)]) (st := []) (host := "") rfl (X13_bits_s G l s9 r8) cal_X13_bits rfl (Or.inl ml_X13_361) rfl rfl dec_X13_seating.2.1.1.1.2.1 (k_tag (tag := 0) rfl fun r10 s11 => ?_)
    refine V_istore (lv' := [(4, (0, r10)), (0, (2, x0)), (1, (0, x1)), (2, (0, x2)), (3, (0, x3))]) dec_X13_seating.2.1.1.1.2.2 (by decide) rfl ?_
    refine V_iload dec_X13_seating.2.1.1.2.1.1 0 rfl ?_
    refine V_aload_n dec_X13_seating.2.1.1.2.1.2 1 rfl ?_
    refine V_getI 13 23 nf_13_23 ft_13_23 fl_X13_370 dec_X13_seating.2.1.1.2.2.1 ?_
    refine V_icmp_gt (tgt := 72) dec_X13_seating.2.1.1.2.2.2 (by decide) ?_ ?_
    · refine V_aload_n dec_X13_seating.2.1.2.1.1.2 1 rfl ?_
      refine V_iload dec_X13_seating.2.1.2.1.2.1 0 rfl ?_
      refine V_putI (host := "") 13 23 nf_13_23 ty_13_23 (Or.inl ⟨fl_X13_370, Or.inl rfl⟩) dec_X13_seating.2.1.2.1.2.2 ?_
      refine V_lets fun s12 => ?_
      refine V_iconst dec_X13_seating.2.1.2.2.1.1 rfl ?_
      refine V_istore (lv' := [(5, (0, 0)), (4, (0, r10)), (0, (2, x0)), (1, (0, x1)), (2, (0, x2)), (3, (0, x3))]) dec_X13_seating.2.1.2.2.1.2 (by decide) rfl ?_
      exact V_pick [2, 3, 4, 5, 0] rfl (X13_seating_b81_s G l rk40 hk40 FU s12 x0 x1 x2 x3 0)
    · refine V_goto (tgt := 113) dec_X13_seating.2.1.2.1.1.1 (by decide) ?_
      exact V_pick [1, 2, 3, 4] rfl (X13_seating_b113_s G l rk40 hk40 s11 x0 x1 x2 x3)
theorem X13_seating_b40_s (G : Gx) (l : Launch) (n : Nat) (s : St) (x0 x1 x2 x3 : Int) : V G l mX13_seating 40 [(0, (2, x0)), (1, (0, x1)), (2, (0, x2)), (3, (0, x3))] [] s (X13_seating_b40 n s x0 x1 x2 x3) :=
  V_iter (LV := fun a : St × Int × Int × Int × Int => [(0, (2, a.2.1)), (1, (0, a.2.2.1)), (2, (0, a.2.2.2.1)), (3, (0, a.2.2.2.2))]) (ST := fun a : St × Int × Int × Int × Int => []) (SS := fun a : St × Int × Int × Int × Int => a.1) (fun rec hrec a => X13_seating_b40_body_s G l (fun (s : St) (x0 x1 x2 x3 : Int) => rec (s, x0, x1, x2, x3)) (fun (s : St) (x0 x1 x2 x3 : Int) => hrec (s, x0, x1, x2, x3)) a.1 a.2.1 a.2.2.1 a.2.2.2.1 a.2.2.2.2) n (s, x0, x1, x2, x3)
def X13_seating_b17_body (rk17 : St → Int → Int → Int → Int → Rs) (s : St) (x0 x1 x2 x3 : Int) : Rs :=
  grd (isK s 23 x0) (grd (isK s 22 (gR s x0 3)) (if (gI s (gR s x0 3) 2) < x3 then (X13_seating_b40 FU s x0 x1 x2 0) else (rk17 s x0 x1 (w32 (x2 * x3)) (w32 (x3 + 1)))))
def X13_seating_b17 (n : Nat) (s : St) (x0 x1 x2 x3 : Int) : Rs := iter (fun (rec : St × Int × Int × Int × Int → Rs) (a : St × Int × Int × Int × Int) => X13_seating_b17_body (fun (s : St) (x0 x1 x2 x3 : Int) => rec (s, x0, x1, x2, x3)) a.1 a.2.1 a.2.2.1 a.2.2.2.1 a.2.2.2.2) n (s, x0, x1, x2, x3)
theorem X13_seating_b17_0 (s : St) (x0 x1 x2 x3 : Int) : X13_seating_b17 0 s x0 x1 x2 x3 = none := rfl
theorem X13_seating_b17_1 (n : Nat) (s : St) (x0 x1 x2 x3 : Int) : X13_seating_b17 (n + 1) s x0 x1 x2 x3 = X13_seating_b17_body (X13_seating_b17 n) s x0 x1 x2 x3 := rfl
set_option maxRecDepth 100000 in
set_option maxHeartbeats 4000000 in
theorem X13_seating_b17_body_s (G : Gx) (l : Launch) (rk17 : St → Int → Int → Int → Int → Rs) (hk17 : ∀ (s : St) (x0 x1 x2 x3 : Int), V G l mX13_seating 17 [(0, (2, x0)), (1, (0, x1)), (2, (0, x2)), (3, (0, x3))] [] s (rk17 s x0 x1 x2 x3)) (s : St) (x0 x1 x2 x3 : Int) : V G l mX13_seating 17 [(0, (2, x0)), (1, (0, x1)), (2, (0, x2)), (3, (0, x3))] [] s (X13_seating_b17_body rk17 s x0 x1 x2 x3) := by
  unfold X13_seating_b17_body
  refine V_iload_n dec_X13_seating.1.1.2.2.1.1 3 rfl ?_
  refine V_aload_n dec_X13_seating.1.1.2.2.1.2 0 rfl ?_
  refine V_getR 13 3 nf_13_3 ft_13_3 fl_X13_303 dec_X13_seating.1.1.2.2.2.1 ?_
  refine V_getIN RX13 12 2 nf_12_2 ft_12_2 fl_X13_193 dec_X13_seating.1.1.2.2.2.2 ?_
  refine V_icmp_gt (tgt := 38) dec_X13_seating.1.2.1.1.1.1 (by decide) ?_ ?_
  · refine V_iconst dec_X13_seating.1.2.1.2.2.2 rfl ?_
    refine V_istore_n (lv' := [(3, (0, 0)), (0, (2, x0)), (1, (0, x1)), (2, (0, x2))]) dec_X13_seating.1.2.2.1.1.1 (by decide) rfl ?_
    exact V_pick [1, 2, 3, 0] rfl (X13_seating_b40_s G l FU s x0 x1 x2 0)
  · refine V_iload_n dec_X13_seating.1.2.1.1.1.2 2 rfl ?_
    refine V_iload_n dec_X13_seating.1.2.1.1.2.1 3 rfl ?_
    refine V_imul dec_X13_seating.1.2.1.1.2.2 ?_
    refine V_istore_n (lv' := [(2, (0, (w32 (x2 * x3)))), (0, (2, x0)), (1, (0, x1)), (3, (0, x3))]) dec_X13_seating.1.2.1.2.1.1 (by decide) rfl ?_
    refine V_iinc (lv' := [(3, (0, (w32 (x3 + 1)))), (2, (0, (w32 (x2 * x3)))), (0, (2, x0)), (1, (0, x1))]) dec_X13_seating.1.2.1.2.1.2 3 rfl (by decide) rfl ?_
    refine V_goto (tgt := 17) dec_X13_seating.1.2.1.2.2.1 (by decide) ?_
    exact V_pick [2, 3, 1, 0] rfl (hk17 s x0 x1 (w32 (x2 * x3)) (w32 (x3 + 1)))
theorem X13_seating_b17_s (G : Gx) (l : Launch) (n : Nat) (s : St) (x0 x1 x2 x3 : Int) : V G l mX13_seating 17 [(0, (2, x0)), (1, (0, x1)), (2, (0, x2)), (3, (0, x3))] [] s (X13_seating_b17 n s x0 x1 x2 x3) :=
  V_iter (LV := fun a : St × Int × Int × Int × Int => [(0, (2, a.2.1)), (1, (0, a.2.2.1)), (2, (0, a.2.2.2.1)), (3, (0, a.2.2.2.2))]) (ST := fun a : St × Int × Int × Int × Int => []) (SS := fun a : St × Int × Int × Int × Int => a.1) (fun rec hrec a => X13_seating_b17_body_s G l (fun (s : St) (x0 x1 x2 x3 : Int) => rec (s, x0, x1, x2, x3)) (fun (s : St) (x0 x1 x2 x3 : Int) => hrec (s, x0, x1, x2, x3)) a.1 a.2.1 a.2.2.1 a.2.2.2.1 a.2.2.2.2) n (s, x0, x1, x2, x3)
def X13_seating (s : St) (a0 a1 : Int) : Rs :=
  grd (isK s 23 a0) (bnd (X13_works s a0) (fun r1 s2 => grd (isK s2 23 a0) (bnd (X13_frees s2 a0) (fun r3 s4 => grd (isK s4 23 a0) (lets (pI s4 a0 23 (-1)) (fun s5 => X13_seating_b17 FU s5 a0 a1 1 2))))))
set_option maxRecDepth 100000 in
set_option maxHeartbeats 4000000 in
theorem X13_seating_s (G : Gx) (l : Launch) (s : St) (a0 a1 : Int) : Snd G l mX13_seating [(2, a0), (0, a1)] s (X13_seating s a0 a1) := by
  refine Snd.of (by decide +kernel) rfl ?_
  show V G l mX13_seating 0 [(0, (2, a0)), (1, (0, a1))] [] s _
  unfold X13_seating
  refine V_aload_n dec_X13_seating.1.1.1.1.1 0 rfl ?_
  refine V_callV0 (ci := 13) (a := a0) (As := []) (st := []) rfl rfl (X13_works_s G l s a0) cal_X13_works rfl ml_X13_342 rfl rfl dec_X13_seating.1.1.1.1.2.1 (k_void rfl fun r1 s2 => ?_)
  refine V_aload_n dec_X13_seating.1.1.1.1.2.2 0 rfl ?_
  refine V_callV0 (ci := 13) (a := a0) (As := []) (st := []) rfl rfl (X13_frees_s G l s2 a0) cal_X13_frees rfl ml_X13_367 rfl rfl dec_X13_seating.1.1.1.2.1.1 (k_void rfl fun r3 s4 => ?_)
  refine V_iconst dec_X13_seating.1.1.1.2.1.2 rfl ?_
  refine V_istore_n (lv' := [(2, (0, 1)), (0, (2, a0)), (1, (0, a1))]) dec_X13_seating.1.1.1.2.2.1 (by decide) rfl ?_
  refine V_aload_n dec_X13_seating.1.1.1.2.2.2 1 rfl ?_
  refine V_iconst dec_X13_seating.1.1.2.1.1.1 rfl ?_
  refine V_putI (host := "") 13 23 nf_13_23 ty_13_23 (Or.inl ⟨fl_X13_370, Or.inl rfl⟩) dec_X13_seating.1.1.2.1.1.2 ?_
  refine V_lets fun s5 => ?_
  refine V_iconst dec_X13_seating.1.1.2.1.2.1 rfl ?_
  refine V_istore_n (lv' := [(3, (0, 2)), (2, (0, 1)), (0, (2, a0)), (1, (0, a1))]) dec_X13_seating.1.1.2.1.2.2 (by decide) rfl ?_
  exact V_pick [2, 3, 1, 0] rfl (X13_seating_b17_s G l FU s5 a0 a1 1 2)
theorem dec_X13_seat : ((((decode cX13_seat 0 = .ok (.aload_n 0, 1) ∧ (decode cX13_seat 1 = .ok (.iconst 0, 1) ∧ decode cX13_seat 2 = .ok (.putfield 49, 3))) ∧ (decode cX13_seat 5 = .ok (.aload_n 0, 1) ∧ (decode cX13_seat 6 = .ok (.aload_n 0, 1) ∧ decode cX13_seat 7 = .ok (.getfield 303, 3)))) ∧ ((decode cX13_seat 10 = .ok (.ifnull 7, 3) ∧ (decode cX13_seat 13 = .ok (.iconst 1, 1) ∧ decode cX13_seat 14 = .ok (.goto 4, 3))) ∧ ((decode cX13_seat 17 = .ok (.iconst 0, 1) ∧ decode cX13_seat 18 = .ok (.iload_n 1, 1)) ∧ (decode cX13_seat 19 = .ok (.invokevirtual 354, 3) ∧ decode cX13_seat 22 = .ok (.istore_n 2, 1))))) ∧ (((decode cX13_seat 23 = .ok (.iload_n 2, 1) ∧ (decode cX13_seat 24 = .ok (.ifCond .le 9, 3) ∧ decode cX13_seat 27 = .ok (.aload_n 0, 1))) ∧ ((decode cX13_seat 28 = .ok (.iload_n 2, 1) ∧ decode cX13_seat 29 = .ok (.invokevirtual 55, 3)) ∧ (decode cX13_seat 32 = .ok (.ireturn, 1) ∧ decode cX13_seat 33 = .ok (.aload_n 0, 1)))) ∧ ((decode cX13_seat 34 = .ok (.iload_n 1, 1) ∧ (decode cX13_seat 35 = .ok (.invokevirtual 376, 3) ∧ decode cX13_seat 38 = .ok (.aload_n 0, 1))) ∧ ((decode cX13_seat 39 = .ok (.aload_n 0, 1) ∧ decode cX13_seat 40 = .ok (.getfield 370, 3)) ∧ (decode cX13_seat 43 = .ok (.invokevirtual 59, 3) ∧ decode cX13_seat 46 = .ok (.ireturn, 1)))))) := ⟨⟨by decide +kernel, by decide +kernel⟩, ⟨by decide +kernel, by decide +kernel⟩⟩
def X13_seat_b18 (s : St) (x0 x1 k0 k1 : Int) : Rs :=
  grd (isK s 23 k1) (bnd (X13_refusesNight s k1 k0 x1) (fun r2 s3 => if r2 ≤ 0 then (grd (isK s3 23 x0) (bnd (X13_seating s3 x0 x1) (fun r4 s5 => grd (isK s5 23 x0) (grd (isK s5 23 x0) (bnd (X13_good s5 x0 (gI s5 x0 23)) (fun r6 s7 => some (r6, s7))))))) else (grd (isK s3 23 x0) (bnd (X13_refused s3 x0 r2) (fun r8 s9 => some (r8, s9))))))
set_option maxRecDepth 100000 in
set_option maxHeartbeats 4000000 in
theorem X13_seat_b18_s (G : Gx) (l : Launch) (s : St) (x0 x1 k0 k1 : Int) : V G l mX13_seat 18 [(0, (2, x0)), (1, (0, x1))] [(0, k0), (2, k1)] s (X13_seat_b18 s x0 x1 k0 k1) := by
  unfold X13_seat_b18
  refine V_iload_n dec_X13_seat.1.2.2.1.2 1 rfl ?_
  refine V_callV0 (ci := 13) (a := k1) (As := [(0, k0), (0, x1)]) (st := []) rfl rfl (X13_refusesNight_s G l s k1 k0 x1) cal_X13_refusesNight rfl ml_X13_354 rfl rfl dec_X13_seat.1.2.2.2.1 (k_tag (tag := 0) rfl fun r2 s3 => ?_)
  refine V_istore_n (lv' := [(2, (0, r2)), (0, (2, x0)), (1, (0, x1))]) dec_X13_seat.1.2.2.2.2 (by decide) rfl ?_
  refine V_iload_n dec_X13_seat.2.1.1.1 0 rfl ?_
  refine V_if_le (tgt := 33) dec_X13_seat.2.1.1.2.1 (by decide) ?_ ?_
  · refine V_aload_n dec_X13_seat.2.1.2.2.2 1 rfl ?_
    refine V_iload_n dec_X13_seat.2.2.1.1 2 rfl ?_
    refine V_callV0 (ci := 13) (a := x0) (As := [(0, x1)]) (st := []) rfl rfl (X13_seating_s G l s3 x0 x1) cal_X13_seating rfl ml_X13_376 rfl rfl dec_X13_seat.2.2.1.2.1 (k_void rfl fun r4 s5 => ?_)
    refine V_aload_n dec_X13_seat.2.2.1.2.2 1 rfl ?_
    refine V_aload_n dec_X13_seat.2.2.2.1.1 1 rfl ?_
    refine V_getI 13 23 nf_13_23 ft_13_23 fl_X13_370 dec_X13_seat.2.2.2.1.2 ?_
    refine V_callV0 (ci := 13) (a := x0) (As := [(0, (gI s5 x0 23))]) (st := []) rfl rfl (X13_good_s G l s5 x0 (gI s5 x0 23)) cal_X13_good rfl ml_X13_59 rfl rfl dec_X13_seat.2.2.2.2.1 (k_tag (tag := 0) rfl fun r6 s7 => ?_)
    exact V_iret rfl dec_X13_seat.2.2.2.2.2
  · refine V_aload_n dec_X13_seat.2.1.1.2.2 1 rfl ?_
    refine V_iload_n dec_X13_seat.2.1.2.1.1 0 rfl ?_
    refine V_callV0 (ci := 13) (a := x0) (As := [(0, r2)]) (st := []) rfl rfl (X13_refused_s G l s3 x0 r2) cal_X13_refused rfl ml_X13_55 rfl rfl dec_X13_seat.2.1.2.1.2 (k_tag (tag := 0) rfl fun r8 s9 => ?_)
    exact V_iret rfl dec_X13_seat.2.1.2.2.1
def X13_seat (s : St) (a0 a1 : Int) : Rs :=
  grd (isK s 23 a0) (lets (pI s a0 0 0) (fun s1 => grd (isK s1 23 a0) (if (gR s1 a0 3) < 0 then (X13_seat_b18 s1 a0 a1 0 a0) else (X13_seat_b18 s1 a0 a1 1 a0))))
set_option maxRecDepth 100000 in
set_option maxHeartbeats 4000000 in
theorem X13_seat_s (G : Gx) (l : Launch) (s : St) (a0 a1 : Int) : Snd G l mX13_seat [(2, a0), (0, a1)] s (X13_seat s a0 a1) := by
  refine Snd.of (by decide +kernel) rfl ?_
  show V G l mX13_seat 0 [(0, (2, a0)), (1, (0, a1))] [] s _
  unfold X13_seat
  refine V_aload_n dec_X13_seat.1.1.1.1 0 rfl ?_
  refine V_iconst dec_X13_seat.1.1.1.2.1 rfl ?_
  refine V_putI (host := "") 13 0 nf_13_0 ty_13_0 (Or.inl ⟨fl_X13_49, Or.inl rfl⟩) dec_X13_seat.1.1.1.2.2 ?_
  refine V_lets fun s1 => ?_
  refine V_aload_n dec_X13_seat.1.1.2.1 0 rfl ?_
  refine V_aload_n dec_X13_seat.1.1.2.2.1 0 rfl ?_
  refine V_getR 13 3 nf_13_3 ft_13_3 fl_X13_303 dec_X13_seat.1.1.2.2.2 ?_
  refine V_ifnull (tgt := 17) dec_X13_seat.1.2.1.1 (by decide) ?_ ?_
  · refine V_iconst dec_X13_seat.1.2.2.1.1 rfl ?_
    exact V_pick [0, 1] rfl (X13_seat_b18_s G l s1 a0 a1 0 a0)
  · refine V_iconst dec_X13_seat.1.2.1.2.1 rfl ?_
    refine V_goto (tgt := 18) dec_X13_seat.1.2.1.2.2 (by decide) ?_
    exact V_pick [0, 1] rfl (X13_seat_b18_s G l s1 a0 a1 1 a0)
theorem dec_X13_seatAt : ((((decode cX13_seatAt 0 = .ok (.aload_n 0, 1) ∧ (decode cX13_seatAt 1 = .ok (.iconst 0, 1) ∧ decode cX13_seatAt 2 = .ok (.putfield 49, 3))) ∧ (decode cX13_seatAt 5 = .ok (.aload_n 0, 1) ∧ (decode cX13_seatAt 6 = .ok (.aload_n 0, 1) ∧ decode cX13_seatAt 7 = .ok (.iload_n 1, 1)))) ∧ ((decode cX13_seatAt 8 = .ok (.invokevirtual 339, 3) ∧ (decode cX13_seatAt 11 = .ok (.iload_n 2, 1) ∧ decode cX13_seatAt 12 = .ok (.invokevirtual 354, 3))) ∧ ((decode cX13_seatAt 15 = .ok (.istore_n 3, 1) ∧ decode cX13_seatAt 16 = .ok (.iload_n 3, 1)) ∧ (decode cX13_seatAt 17 = .ok (.ifCond .le 9, 3) ∧ decode cX13_seatAt 20 = .ok (.aload_n 0, 1))))) ∧ (((decode cX13_seatAt 21 = .ok (.iload_n 3, 1) ∧ (decode cX13_seatAt 22 = .ok (.invokevirtual 55, 3) ∧ decode cX13_seatAt 25 = .ok (.ireturn, 1))) ∧ (decode cX13_seatAt 26 = .ok (.aload_n 0, 1) ∧ (decode cX13_seatAt 27 = .ok (.iload_n 2, 1) ∧ decode cX13_seatAt 28 = .ok (.invokevirtual 376, 3)))) ∧ ((decode cX13_seatAt 31 = .ok (.aload_n 0, 1) ∧ (decode cX13_seatAt 32 = .ok (.aload_n 0, 1) ∧ decode cX13_seatAt 33 = .ok (.getfield 33, 3))) ∧ ((decode cX13_seatAt 36 = .ok (.iload_n 1, 1) ∧ decode cX13_seatAt 37 = .ok (.iaload, 1)) ∧ (decode cX13_seatAt 38 = .ok (.invokevirtual 59, 3) ∧ decode cX13_seatAt 41 = .ok (.ireturn, 1)))))) := ⟨⟨by decide +kernel, by decide +kernel⟩, ⟨by decide +kernel, by decide +kernel⟩⟩
def X13_seatAt (s : St) (a0 a1 a2 : Int) : Rs :=
  grd (isK s 23 a0) (lets (pI s a0 0 0) (fun s1 => grd (isK s1 23 a0) (bnd (X13_isPerson s1 a0 a1) (fun r2 s3 => grd (isK s3 23 a0) (bnd (X13_refusesNight s3 a0 r2 a2) (fun r4 s5 => if r4 ≤ 0 then (grd (isK s5 23 a0) (bnd (X13_seating s5 a0 a2) (fun r6 s7 => grd (isK s7 23 a0) (grd (isK s7 1 (gR s7 a0 22) ∧ 0 ≤ a1 ∧ a1 < ln s7 (gR s7 a0 22)) (grd (isK s7 23 a0) (bnd (X13_good s7 a0 (gI s7 (gR s7 a0 22) a1.toNat)) (fun r8 s9 => some (r8, s9)))))))) else (grd (isK s5 23 a0) (bnd (X13_refused s5 a0 r4) (fun r10 s11 => some (r10, s11))))))))))
set_option maxRecDepth 100000 in
set_option maxHeartbeats 4000000 in
theorem X13_seatAt_s (G : Gx) (l : Launch) (s : St) (a0 a1 a2 : Int) : Snd G l mX13_seatAt [(2, a0), (0, a1), (0, a2)] s (X13_seatAt s a0 a1 a2) := by
  refine Snd.of (by decide +kernel) rfl ?_
  show V G l mX13_seatAt 0 [(0, (2, a0)), (1, (0, a1)), (2, (0, a2))] [] s _
  unfold X13_seatAt
  refine V_aload_n dec_X13_seatAt.1.1.1.1 0 rfl ?_
  refine V_iconst dec_X13_seatAt.1.1.1.2.1 rfl ?_
  refine V_putI (host := "") 13 0 nf_13_0 ty_13_0 (Or.inl ⟨fl_X13_49, Or.inl rfl⟩) dec_X13_seatAt.1.1.1.2.2 ?_
  refine V_lets fun s1 => ?_
  refine V_aload_n dec_X13_seatAt.1.1.2.1 0 rfl ?_
  refine V_aload_n dec_X13_seatAt.1.1.2.2.1 0 rfl ?_
  refine V_iload_n dec_X13_seatAt.1.1.2.2.2 1 rfl ?_
  refine V_callV0 (ci := 13) (a := a0) (As := [(0, a1)]) (st := [(2, a0)]) rfl rfl (X13_isPerson_s G l s1 a0 a1) cal_X13_isPerson rfl ml_X13_339 rfl rfl dec_X13_seatAt.1.2.1.1 (k_tag (tag := 0) rfl fun r2 s3 => ?_)
  refine V_iload_n dec_X13_seatAt.1.2.1.2.1 2 rfl ?_
  refine V_callV0 (ci := 13) (a := a0) (As := [(0, r2), (0, a2)]) (st := []) rfl rfl (X13_refusesNight_s G l s3 a0 r2 a2) cal_X13_refusesNight rfl ml_X13_354 rfl rfl dec_X13_seatAt.1.2.1.2.2 (k_tag (tag := 0) rfl fun r4 s5 => ?_)
  refine V_istore_n (lv' := [(3, (0, r4)), (0, (2, a0)), (1, (0, a1)), (2, (0, a2))]) dec_X13_seatAt.1.2.2.1.1 (by decide) rfl ?_
  refine V_iload_n dec_X13_seatAt.1.2.2.1.2 0 rfl ?_
  refine V_if_le (tgt := 26) dec_X13_seatAt.1.2.2.2.1 (by decide) ?_ ?_
  · refine V_aload_n dec_X13_seatAt.2.1.2.1 1 rfl ?_
    refine V_iload_n dec_X13_seatAt.2.1.2.2.1 3 rfl ?_
    refine V_callV0 (ci := 13) (a := a0) (As := [(0, a2)]) (st := []) rfl rfl (X13_seating_s G l s5 a0 a2) cal_X13_seating rfl ml_X13_376 rfl rfl dec_X13_seatAt.2.1.2.2.2 (k_void rfl fun r6 s7 => ?_)
    refine V_aload_n dec_X13_seatAt.2.2.1.1 1 rfl ?_
    refine V_aload_n dec_X13_seatAt.2.2.1.2.1 1 rfl ?_
    refine V_getR 13 22 nf_13_22 ft_13_22 fl_X13_33 dec_X13_seatAt.2.2.1.2.2 ?_
    refine V_iload_n dec_X13_seatAt.2.2.2.1.1 2 rfl ?_
    refine V_iald dec_X13_seatAt.2.2.2.1.2 ?_
    refine V_callV0 (ci := 13) (a := a0) (As := [(0, (gI s7 (gR s7 a0 22) a1.toNat))]) (st := []) rfl rfl (X13_good_s G l s7 a0 (gI s7 (gR s7 a0 22) a1.toNat)) cal_X13_good rfl ml_X13_59 rfl rfl dec_X13_seatAt.2.2.2.2.1 (k_tag (tag := 0) rfl fun r8 s9 => ?_)
    exact V_iret rfl dec_X13_seatAt.2.2.2.2.2
  · refine V_aload_n dec_X13_seatAt.1.2.2.2.2 1 rfl ?_
    refine V_iload_n dec_X13_seatAt.2.1.1.1 0 rfl ?_
    refine V_callV0 (ci := 13) (a := a0) (As := [(0, r4)]) (st := []) rfl rfl (X13_refused_s G l s5 a0 r4) cal_X13_refused rfl ml_X13_55 rfl rfl dec_X13_seatAt.2.1.1.2.1 (k_tag (tag := 0) rfl fun r10 s11 => ?_)
    exact V_iret rfl dec_X13_seatAt.2.1.1.2.2
theorem dec_X13_silent : (((((decode cX13_silent 0 = .ok (.aload_n 0, 1) ∧ (decode cX13_silent 1 = .ok (.iconst 0, 1) ∧ decode cX13_silent 2 = .ok (.putfield 49, 3))) ∧ (decode cX13_silent 5 = .ok (.aload_n 0, 1) ∧ (decode cX13_silent 6 = .ok (.aload_n 0, 1) ∧ decode cX13_silent 7 = .ok (.getfield 303, 3)))) ∧ ((decode cX13_silent 10 = .ok (.ifnull 7, 3) ∧ (decode cX13_silent 13 = .ok (.iconst 1, 1) ∧ decode cX13_silent 14 = .ok (.goto 4, 3))) ∧ (decode cX13_silent 17 = .ok (.iconst 0, 1) ∧ (decode cX13_silent 18 = .ok (.iload_n 1, 1) ∧ decode cX13_silent 19 = .ok (.invokevirtual 354, 3))))) ∧ (((decode cX13_silent 22 = .ok (.istore_n 2, 1) ∧ (decode cX13_silent 23 = .ok (.iload_n 2, 1) ∧ decode cX13_silent 24 = .ok (.ifCond .le 9, 3))) ∧ (decode cX13_silent 27 = .ok (.aload_n 0, 1) ∧ (decode cX13_silent 28 = .ok (.iload_n 2, 1) ∧ decode cX13_silent 29 = .ok (.invokevirtual 55, 3)))) ∧ ((decode cX13_silent 32 = .ok (.ireturn, 1) ∧ (decode cX13_silent 33 = .ok (.aload_n 0, 1) ∧ decode cX13_silent 34 = .ok (.invokevirtual 342, 3))) ∧ (decode cX13_silent 37 = .ok (.iconst 0, 1) ∧ (decode cX13_silent 38 = .ok (.istore_n 3, 1) ∧ decode cX13_silent 39 = .ok (.iconst 0, 1)))))) ∧ ((((decode cX13_silent 40 = .ok (.istore 4, 2) ∧ (decode cX13_silent 42 = .ok (.iload 4, 2) ∧ decode cX13_silent 44 = .ok (.aload_n 0, 1))) ∧ (decode cX13_silent 45 = .ok (.getfield 303, 3) ∧ (decode cX13_silent 48 = .ok (.getfield 193, 3) ∧ decode cX13_silent 51 = .ok (.if_icmp .ge 30, 3)))) ∧ ((decode cX13_silent 54 = .ok (.iload_n 3, 1) ∧ (decode cX13_silent 55 = .ok (.aload_n 0, 1) ∧ decode cX13_silent 56 = .ok (.iload 4, 2))) ∧ (decode cX13_silent 58 = .ok (.iload_n 1, 1) ∧ (decode cX13_silent 59 = .ok (.invokevirtual 345, 3) ∧ decode cX13_silent 62 = .ok (.ifCond .ne 10, 3))))) ∧ (((decode cX13_silent 65 = .ok (.iconst 1, 1) ∧ (decode cX13_silent 66 = .ok (.iload 4, 2) ∧ decode cX13_silent 68 = .ok (.ishl, 1))) ∧ (decode cX13_silent 69 = .ok (.goto 4, 3) ∧ (decode cX13_silent 72 = .ok (.iconst 0, 1) ∧ decode cX13_silent 73 = .ok (.ior, 1)))) ∧ ((decode cX13_silent 74 = .ok (.istore_n 3, 1) ∧ (decode cX13_silent 75 = .ok (.iinc 4 1, 3) ∧ decode cX13_silent 78 = .ok (.goto (-36), 3))) ∧ ((decode cX13_silent 81 = .ok (.aload_n 0, 1) ∧ decode cX13_silent 82 = .ok (.iload_n 3, 1)) ∧ (decode cX13_silent 83 = .ok (.invokevirtual 59, 3) ∧ decode cX13_silent 86 = .ok (.ireturn, 1))))))) := ⟨⟨by decide +kernel, by decide +kernel⟩, ⟨by decide +kernel, ⟨by decide +kernel, by decide +kernel⟩⟩⟩
def X13_silent_b73 (rk42 : St → Int → Int → Int → Int → Rs) (s : St) (x0 x1 x4 k0 k1 : Int) : Rs :=
  rk42 s x0 x1 (or32 k1 k0) (w32 (x4 + 1))
set_option maxRecDepth 100000 in
set_option maxHeartbeats 4000000 in
theorem X13_silent_b73_s (G : Gx) (l : Launch) (rk42 : St → Int → Int → Int → Int → Rs) (hk42 : ∀ (s : St) (x0 x1 x3 x4 : Int), V G l mX13_silent 42 [(0, (2, x0)), (1, (0, x1)), (3, (0, x3)), (4, (0, x4))] [] s (rk42 s x0 x1 x3 x4)) (s : St) (x0 x1 x4 k0 k1 : Int) : V G l mX13_silent 73 [(0, (2, x0)), (1, (0, x1)), (4, (0, x4))] [(0, k0), (0, k1)] s (X13_silent_b73 rk42 s x0 x1 x4 k0 k1) := by
  unfold X13_silent_b73
  refine V_ior dec_X13_silent.2.2.1.2.2.2 ?_
  refine V_istore_n (lv' := [(3, (0, (or32 k1 k0))), (0, (2, x0)), (1, (0, x1)), (4, (0, x4))]) dec_X13_silent.2.2.2.1.1 (by decide) rfl ?_
  refine V_iinc (lv' := [(4, (0, (w32 (x4 + 1)))), (3, (0, (or32 k1 k0))), (0, (2, x0)), (1, (0, x1))]) dec_X13_silent.2.2.2.1.2.1 3 rfl (by decide) rfl ?_
  refine V_goto (tgt := 42) dec_X13_silent.2.2.2.1.2.2 (by decide) ?_
  exact V_pick [2, 3, 1, 0] rfl (hk42 s x0 x1 (or32 k1 k0) (w32 (x4 + 1)))
def X13_silent_b42_body (rk42 : St → Int → Int → Int → Int → Rs) (s : St) (x0 x1 x3 x4 : Int) : Rs :=
  grd (isK s 23 x0) (grd (isK s 22 (gR s x0 3)) (if (gI s (gR s x0 3) 2) ≤ x4 then (grd (isK s 23 x0) (bnd (X13_good s x0 x3) (fun r6 s7 => some (r6, s7)))) else (grd (isK s 23 x0) (bnd (X13_heardOf s x0 x4 x1) (fun r8 s9 => if ¬ r8 = 0 then (X13_silent_b73 rk42 s9 x0 x1 x4 0 x3) else (X13_silent_b73 rk42 s9 x0 x1 x4 (shl32 1 x4) x3))))))
def X13_silent_b42 (n : Nat) (s : St) (x0 x1 x3 x4 : Int) : Rs := iter (fun (rec : St × Int × Int × Int × Int → Rs) (a : St × Int × Int × Int × Int) => X13_silent_b42_body (fun (s : St) (x0 x1 x3 x4 : Int) => rec (s, x0, x1, x3, x4)) a.1 a.2.1 a.2.2.1 a.2.2.2.1 a.2.2.2.2) n (s, x0, x1, x3, x4)
theorem X13_silent_b42_0 (s : St) (x0 x1 x3 x4 : Int) : X13_silent_b42 0 s x0 x1 x3 x4 = none := rfl
theorem X13_silent_b42_1 (n : Nat) (s : St) (x0 x1 x3 x4 : Int) : X13_silent_b42 (n + 1) s x0 x1 x3 x4 = X13_silent_b42_body (X13_silent_b42 n) s x0 x1 x3 x4 := rfl
set_option maxRecDepth 100000 in
set_option maxHeartbeats 4000000 in
theorem X13_silent_b42_body_s (G : Gx) (l : Launch) (rk42 : St → Int → Int → Int → Int → Rs) (hk42 : ∀ (s : St) (x0 x1 x3 x4 : Int), V G l mX13_silent 42 [(0, (2, x0)), (1, (0, x1)), (3, (0, x3)), (4, (0, x4))] [] s (rk42 s x0 x1 x3 x4)) (s : St) (x0 x1 x3 x4 : Int) : V G l mX13_silent 42 [(0, (2, x0)), (1, (0, x1)), (3, (0, x3)), (4, (0, x4))] [] s (X13_silent_b42_body rk42 s x0 x1 x3 x4) := by
  unfold X13_silent_b42_body
  refine V_iload dec_X13_silent.2.1.1.1.2.1 3 rfl ?_
  refine V_aload_n dec_X13_silent.2.1.1.1.2.2 0 rfl ?_
  refine V_getR 13 3 nf_13_3 ft_13_3 fl_X13_303 dec_X13_silent.2.1.1.2.1 ?_
  refine V_getIN RX13 12 2 nf_12_2 ft_12_2 fl_X13_193 dec_X13_silent.2.1.1.2.2.1 ?_
  refine V_icmp_ge (tgt := 81) dec_X13_silent.2.1.1.2.2.2 (by decide) ?_ ?_
  · refine V_aload_n dec_X13_silent.2.2.2.2.1.1 0 rfl ?_
    refine V_iload_n dec_X13_silent.2.2.2.2.1.2 2 rfl ?_
    refine V_callV0 (ci := 13) (a := x0) (As := [(0, x3)]) (st := []) rfl rfl (X13_good_s G l s x0 x3) cal_X13_good rfl ml_X13_59 rfl rfl dec_X13_silent.2.2.2.2.2.1 (k_tag (tag := 0) rfl fun r6 s7 => ?_)
    exact V_iret rfl dec_X13_silent.2.2.2.2.2.2
  · refine V_iload_n dec_X13_silent.2.1.2.1.1 2 rfl ?_
    refine V_aload_n dec_X13_silent.2.1.2.1.2.1 0 rfl ?_
    refine V_iload dec_X13_silent.2.1.2.1.2.2 3 rfl ?_
    refine V_iload_n dec_X13_silent.2.1.2.2.1 1 rfl ?_
    refine V_callV0 (ci := 13) (a := x0) (As := [(0, x4), (0, x1)]) (st := [(0, x3)]) rfl rfl (X13_heardOf_s G l s x0 x4 x1) cal_X13_heardOf rfl ml_X13_345 rfl rfl dec_X13_silent.2.1.2.2.2.1 (k_tag (tag := 0) rfl fun r8 s9 => ?_)
    refine V_if_ne (tgt := 72) dec_X13_silent.2.1.2.2.2.2 (by decide) ?_ ?_
    · refine V_iconst dec_X13_silent.2.2.1.2.2.1 rfl ?_
      exact V_pick [0, 1, 3] rfl (X13_silent_b73_s G l rk42 hk42 s9 x0 x1 x4 0 x3)
    · refine V_iconst dec_X13_silent.2.2.1.1.1 rfl ?_
      refine V_iload dec_X13_silent.2.2.1.1.2.1 3 rfl ?_
      refine V_ishl dec_X13_silent.2.2.1.1.2.2 ?_
      refine V_goto (tgt := 73) dec_X13_silent.2.2.1.2.1 (by decide) ?_
      exact V_pick [0, 1, 3] rfl (X13_silent_b73_s G l rk42 hk42 s9 x0 x1 x4 (shl32 1 x4) x3)
theorem X13_silent_b42_s (G : Gx) (l : Launch) (n : Nat) (s : St) (x0 x1 x3 x4 : Int) : V G l mX13_silent 42 [(0, (2, x0)), (1, (0, x1)), (3, (0, x3)), (4, (0, x4))] [] s (X13_silent_b42 n s x0 x1 x3 x4) :=
  V_iter (LV := fun a : St × Int × Int × Int × Int => [(0, (2, a.2.1)), (1, (0, a.2.2.1)), (3, (0, a.2.2.2.1)), (4, (0, a.2.2.2.2))]) (ST := fun a : St × Int × Int × Int × Int => []) (SS := fun a : St × Int × Int × Int × Int => a.1) (fun rec hrec a => X13_silent_b42_body_s G l (fun (s : St) (x0 x1 x3 x4 : Int) => rec (s, x0, x1, x3, x4)) (fun (s : St) (x0 x1 x3 x4 : Int) => hrec (s, x0, x1, x3, x4)) a.1 a.2.1 a.2.2.1 a.2.2.2.1 a.2.2.2.2) n (s, x0, x1, x3, x4)
def X13_silent_b18 (s : St) (x0 x1 k0 k1 : Int) : Rs :=
  grd (isK s 23 k1) (bnd (X13_refusesNight s k1 k0 x1) (fun r2 s3 => if r2 ≤ 0 then (grd (isK s3 23 x0) (bnd (X13_works s3 x0) (fun r4 s5 => X13_silent_b42 FU s5 x0 x1 0 0))) else (grd (isK s3 23 x0) (bnd (X13_refused s3 x0 r2) (fun r10 s11 => some (r10, s11))))))
set_option maxRecDepth 100000 in
set_option maxHeartbeats 4000000 in
theorem X13_silent_b18_s (G : Gx) (l : Launch) (s : St) (x0 x1 k0 k1 : Int) : V G l mX13_silent 18 [(0, (2, x0)), (1, (0, x1))] [(0, k0), (2, k1)] s (X13_silent_b18 s x0 x1 k0 k1) := by
  unfold X13_silent_b18
  refine V_iload_n dec_X13_silent.1.1.2.2.2.1 1 rfl ?_
  refine V_callV0 (ci := 13) (a := k1) (As := [(0, k0), (0, x1)]) (st := []) rfl rfl (X13_refusesNight_s G l s k1 k0 x1) cal_X13_refusesNight rfl ml_X13_354 rfl rfl dec_X13_silent.1.1.2.2.2.2 (k_tag (tag := 0) rfl fun r2 s3 => ?_)
  refine V_istore_n (lv' := [(2, (0, r2)), (0, (2, x0)), (1, (0, x1))]) dec_X13_silent.1.2.1.1.1 (by decide) rfl ?_
  refine V_iload_n dec_X13_silent.1.2.1.1.2.1 0 rfl ?_
  refine V_if_le (tgt := 33) dec_X13_silent.1.2.1.1.2.2 (by decide) ?_ ?_
  · refine V_aload_n dec_X13_silent.1.2.2.1.2.1 1 rfl ?_
    refine V_callV0 (ci := 13) (a := x0) (As := []) (st := []) rfl rfl (X13_works_s G l s3 x0) cal_X13_works rfl ml_X13_342 rfl rfl dec_X13_silent.1.2.2.1.2.2 (k_void rfl fun r4 s5 => ?_)
    refine V_iconst dec_X13_silent.1.2.2.2.1 rfl ?_
    refine V_istore_n (lv' := [(3, (0, 0)), (2, (0, r2)), (0, (2, x0)), (1, (0, x1))]) dec_X13_silent.1.2.2.2.2.1 (by decide) rfl ?_
    refine V_iconst dec_X13_silent.1.2.2.2.2.2 rfl ?_
    refine V_istore (lv' := [(4, (0, 0)), (3, (0, 0)), (2, (0, r2)), (0, (2, x0)), (1, (0, x1))]) dec_X13_silent.2.1.1.1.1 (by decide) rfl ?_
    exact V_pick [3, 4, 1, 0] rfl (X13_silent_b42_s G l FU s5 x0 x1 0 0)
  · refine V_aload_n dec_X13_silent.1.2.1.2.1 1 rfl ?_
    refine V_iload_n dec_X13_silent.1.2.1.2.2.1 0 rfl ?_
    refine V_callV0 (ci := 13) (a := x0) (As := [(0, r2)]) (st := []) rfl rfl (X13_refused_s G l s3 x0 r2) cal_X13_refused rfl ml_X13_55 rfl rfl dec_X13_silent.1.2.1.2.2.2 (k_tag (tag := 0) rfl fun r10 s11 => ?_)
    exact V_iret rfl dec_X13_silent.1.2.2.1.1
def X13_silent (s : St) (a0 a1 : Int) : Rs :=
  grd (isK s 23 a0) (lets (pI s a0 0 0) (fun s1 => grd (isK s1 23 a0) (if (gR s1 a0 3) < 0 then (X13_silent_b18 s1 a0 a1 0 a0) else (X13_silent_b18 s1 a0 a1 1 a0))))
set_option maxRecDepth 100000 in
set_option maxHeartbeats 4000000 in
theorem X13_silent_s (G : Gx) (l : Launch) (s : St) (a0 a1 : Int) : Snd G l mX13_silent [(2, a0), (0, a1)] s (X13_silent s a0 a1) := by
  refine Snd.of (by decide +kernel) rfl ?_
  show V G l mX13_silent 0 [(0, (2, a0)), (1, (0, a1))] [] s _
  unfold X13_silent
  refine V_aload_n dec_X13_silent.1.1.1.1.1 0 rfl ?_
  refine V_iconst dec_X13_silent.1.1.1.1.2.1 rfl ?_
  refine V_putI (host := "") 13 0 nf_13_0 ty_13_0 (Or.inl ⟨fl_X13_49, Or.inl rfl⟩) dec_X13_silent.1.1.1.1.2.2 ?_
  refine V_lets fun s1 => ?_
  refine V_aload_n dec_X13_silent.1.1.1.2.1 0 rfl ?_
  refine V_aload_n dec_X13_silent.1.1.1.2.2.1 0 rfl ?_
  refine V_getR 13 3 nf_13_3 ft_13_3 fl_X13_303 dec_X13_silent.1.1.1.2.2.2 ?_
  refine V_ifnull (tgt := 17) dec_X13_silent.1.1.2.1.1 (by decide) ?_ ?_
  · refine V_iconst dec_X13_silent.1.1.2.2.1 rfl ?_
    exact V_pick [0, 1] rfl (X13_silent_b18_s G l s1 a0 a1 0 a0)
  · refine V_iconst dec_X13_silent.1.1.2.1.2.1 rfl ?_
    refine V_goto (tgt := 18) dec_X13_silent.1.1.2.1.2.2 (by decide) ?_
    exact V_pick [0, 1] rfl (X13_silent_b18_s G l s1 a0 a1 1 a0)
theorem dec_X13_size : (((((decode cX13_size 0 = .ok (.aload_n 0, 1) ∧ (decode cX13_size 1 = .ok (.iconst 0, 1) ∧ decode cX13_size 2 = .ok (.putfield 49, 3))) ∧ ((decode cX13_size 5 = .ok (.iload_n 1, 1) ∧ decode cX13_size 6 = .ok (.bipush 10, 2)) ∧ (decode cX13_size 8 = .ok (.if_icmp .ne 8, 3) ∧ decode cX13_size 11 = .ok (.aload_n 0, 1)))) ∧ (((decode cX13_size 12 = .ok (.getfield 296, 3) ∧ decode cX13_size 15 = .ok (.ireturn, 1)) ∧ (decode cX13_size 16 = .ok (.iload_n 1, 1) ∧ decode cX13_size 17 = .ok (.iconst 0, 1))) ∧ ((decode cX13_size 18 = .ok (.bipush 9, 2) ∧ decode cX13_size 20 = .ok (.invokestatic 128, 3)) ∧ (decode cX13_size 23 = .ok (.ifCond .ne 5, 3) ∧ decode cX13_size 26 = .ok (.iconst (-1), 1))))) ∧ (((decode cX13_size 27 = .ok (.ireturn, 1) ∧ (decode cX13_size 28 = .ok (.aload_n 0, 1) ∧ decode cX13_size 29 = .ok (.getfield 303, 3))) ∧ ((decode cX13_size 32 = .ok (.ifnonnull 5, 3) ∧ decode cX13_size 35 = .ok (.iconst 0, 1)) ∧ (decode cX13_size 36 = .ok (.ireturn, 1) ∧ decode cX13_size 37 = .ok (.iload_n 1, 1)))) ∧ (((decode cX13_size 38 = .ok (.tableswitch 116 0 8 #[50, 58, 66, 74, 82, 87, 95, 103, 111], 50) ∧ decode cX13_size 88 = .ok (.aload_n 0, 1)) ∧ (decode cX13_size 89 = .ok (.getfield 303, 3) ∧ decode cX13_size 92 = .ok (.getfield 159, 3))) ∧ ((decode cX13_size 95 = .ok (.ireturn, 1) ∧ decode cX13_size 96 = .ok (.aload_n 0, 1)) ∧ (decode cX13_size 97 = .ok (.getfield 303, 3) ∧ decode cX13_size 100 = .ok (.getfield 221, 3)))))) ∧ ((((decode cX13_size 103 = .ok (.ireturn, 1) ∧ (decode cX13_size 104 = .ok (.aload_n 0, 1) ∧ decode cX13_size 105 = .ok (.getfield 303, 3))) ∧ ((decode cX13_size 108 = .ok (.getfield 193, 3) ∧ decode cX13_size 111 = .ok (.ireturn, 1)) ∧ (decode cX13_size 112 = .ok (.aload_n 0, 1) ∧ decode cX13_size 113 = .ok (.getfield 303, 3)))) ∧ (((decode cX13_size 116 = .ok (.getfield 241, 3) ∧ decode cX13_size 119 = .ok (.ireturn, 1)) ∧ (decode cX13_size 120 = .ok (.aload_n 0, 1) ∧ decode cX13_size 121 = .ok (.invokevirtual 481, 3))) ∧ ((decode cX13_size 124 = .ok (.ireturn, 1) ∧ decode cX13_size 125 = .ok (.aload_n 0, 1)) ∧ (decode cX13_size 126 = .ok (.getfield 303, 3) ∧ decode cX13_size 129 = .ok (.getfield 268, 3))))) ∧ ((((decode cX13_size 132 = .ok (.ireturn, 1) ∧ decode cX13_size 133 = .ok (.aload_n 0, 1)) ∧ (decode cX13_size 134 = .ok (.getfield 303, 3) ∧ decode cX13_size 137 = .ok (.getfield 279, 3))) ∧ ((decode cX13_size 140 = .ok (.ireturn, 1) ∧ decode cX13_size 141 = .ok (.aload_n 0, 1)) ∧ (decode cX13_size 142 = .ok (.getfield 17, 3) ∧ decode cX13_size 145 = .ok (.bipush 18, 2)))) ∧ (((decode cX13_size 147 = .ok (.iaload, 1) ∧ decode cX13_size 148 = .ok (.ireturn, 1)) ∧ (decode cX13_size 149 = .ok (.aload_n 0, 1) ∧ decode cX13_size 150 = .ok (.getfield 308, 3))) ∧ ((decode cX13_size 153 = .ok (.ireturn, 1) ∧ decode cX13_size 154 = .ok (.aload_n 0, 1)) ∧ (decode cX13_size 155 = .ok (.getfield 311, 3) ∧ decode cX13_size 158 = .ok (.ireturn, 1))))))) := ⟨⟨⟨by decide +kernel, by decide +kernel⟩, ⟨by decide +kernel, by decide +kernel⟩⟩, ⟨⟨by decide +kernel, by decide +kernel⟩, ⟨by decide +kernel, by decide +kernel⟩⟩⟩
def X13_size (s : St) (a0 a1 : Int) : Rs :=
  grd (isK s 23 a0) (lets (pI s a0 0 0) (fun s1 => if ¬ a1 = (10 : Int) then (bnd (X13_in s1 a1 0 9) (fun r2 s3 => if ¬ r2 = 0 then (grd (isK s3 23 a0) (if (gR s3 a0 3) < 0 then (some (0, s3)) else (swt a1 0 [grd (isK s3 23 a0) (grd (isK s3 22 (gR s3 a0 3)) (some ((gI s3 (gR s3 a0 3) 0), s3))), grd (isK s3 23 a0) (grd (isK s3 22 (gR s3 a0 3)) (some ((gI s3 (gR s3 a0 3) 1), s3))), grd (isK s3 23 a0) (grd (isK s3 22 (gR s3 a0 3)) (some ((gI s3 (gR s3 a0 3) 2), s3))), grd (isK s3 23 a0) (grd (isK s3 22 (gR s3 a0 3)) (some ((gI s3 (gR s3 a0 3) 3), s3))), grd (isK s3 23 a0) (bnd (X13_mirrorsNow s3 a0) (fun r4 s5 => some (r4, s5))), grd (isK s3 23 a0) (grd (isK s3 22 (gR s3 a0 3)) (some ((gI s3 (gR s3 a0 3) 5), s3))), grd (isK s3 23 a0) (grd (isK s3 22 (gR s3 a0 3)) (some ((gI s3 (gR s3 a0 3) 6), s3))), grd (isK s3 23 a0) (grd (isK s3 1 (gR s3 a0 15) ∧ 0 ≤ (18 : Int) ∧ (18 : Int) < ln s3 (gR s3 a0 15)) (some ((gI s3 (gR s3 a0 15) (18 : Int).toNat), s3))), grd (isK s3 23 a0) (some ((gI s3 a0 19), s3))] (grd (isK s3 23 a0) (some ((gI s3 a0 20), s3)))))) else (some ((-1), s3)))) else (grd (isK s1 23 a0) (some ((gI s1 a0 6), s1)))))
set_option maxRecDepth 100000 in
set_option maxHeartbeats 4000000 in
theorem X13_size_s (G : Gx) (l : Launch) (s : St) (a0 a1 : Int) : Snd G l mX13_size [(2, a0), (0, a1)] s (X13_size s a0 a1) := by
  refine Snd.of (by decide +kernel) rfl ?_
  show V G l mX13_size 0 [(0, (2, a0)), (1, (0, a1))] [] s _
  unfold X13_size
  refine V_aload_n dec_X13_size.1.1.1.1.1 0 rfl ?_
  refine V_iconst dec_X13_size.1.1.1.1.2.1 rfl ?_
  refine V_putI (host := "") 13 0 nf_13_0 ty_13_0 (Or.inl ⟨fl_X13_49, Or.inl rfl⟩) dec_X13_size.1.1.1.1.2.2 ?_
  refine V_lets fun s1 => ?_
  refine V_iload_n dec_X13_size.1.1.1.2.1.1 1 rfl ?_
  refine V_bipush dec_X13_size.1.1.1.2.1.2 rfl ?_
  refine V_icmp_ne (tgt := 16) dec_X13_size.1.1.1.2.2.1 (by decide) ?_ ?_
  · refine V_iload_n dec_X13_size.1.1.2.1.2.1 1 rfl ?_
    refine V_iconst dec_X13_size.1.1.2.1.2.2 rfl ?_
    refine V_bipush dec_X13_size.1.1.2.2.1.1 rfl ?_
    refine V_callS0 (As := [(0, a1), (0, 0), (0, 9)]) (st := []) (host := "") rfl (X13_in_s G l s1 a1 0 9) cal_X13_in rfl (Or.inl ml_X13_128) rfl rfl dec_X13_size.1.1.2.2.1.2 (k_tag (tag := 0) rfl fun r2 s3 => ?_)
    refine V_if_ne (tgt := 28) dec_X13_size.1.1.2.2.2.1 (by decide) ?_ ?_
    · refine V_aload_n dec_X13_size.1.2.1.1.2.1 0 rfl ?_
      refine V_getR 13 3 nf_13_3 ft_13_3 fl_X13_303 dec_X13_size.1.2.1.1.2.2 ?_
      refine V_ifnonnull (tgt := 37) dec_X13_size.1.2.1.2.1.1 (by decide) ?_ ?_
      · refine V_iconst dec_X13_size.1.2.1.2.1.2 rfl ?_
        exact V_iret rfl dec_X13_size.1.2.1.2.2.1
      · refine V_iload_n dec_X13_size.1.2.1.2.2.2 1 rfl ?_
        refine V_tsw (ts := [88, 96, 104, 112, 120, 125, 133, 141, 149]) (td := 154) dec_X13_size.1.2.2.1.1.1 (by decide) (by decide) (by decide) ⟨?_, ?_, ?_, ?_, ?_, ?_, ?_, ?_, ?_, trivial⟩ ?_
        · refine V_aload_n dec_X13_size.1.2.2.1.1.2 0 rfl ?_
          refine V_getR 13 3 nf_13_3 ft_13_3 fl_X13_303 dec_X13_size.1.2.2.1.2.1 ?_
          refine V_getIN RX13 12 0 nf_12_0 ft_12_0 fl_X13_159 dec_X13_size.1.2.2.1.2.2 ?_
          exact V_iret rfl dec_X13_size.1.2.2.2.1.1
        · refine V_aload_n dec_X13_size.1.2.2.2.1.2 0 rfl ?_
          refine V_getR 13 3 nf_13_3 ft_13_3 fl_X13_303 dec_X13_size.1.2.2.2.2.1 ?_
          refine V_getIN RX13 12 1 nf_12_1 ft_12_1 fl_X13_221 dec_X13_size.1.2.2.2.2.2 ?_
          exact V_iret rfl dec_X13_size.2.1.1.1.1
        · refine V_aload_n dec_X13_size.2.1.1.1.2.1 0 rfl ?_
          refine V_getR 13 3 nf_13_3 ft_13_3 fl_X13_303 dec_X13_size.2.1.1.1.2.2 ?_
          refine V_getIN RX13 12 2 nf_12_2 ft_12_2 fl_X13_193 dec_X13_size.2.1.1.2.1.1 ?_
          exact V_iret rfl dec_X13_size.2.1.1.2.1.2
        · refine V_aload_n dec_X13_size.2.1.1.2.2.1 0 rfl ?_
          refine V_getR 13 3 nf_13_3 ft_13_3 fl_X13_303 dec_X13_size.2.1.1.2.2.2 ?_
          refine V_getIN RX13 12 3 nf_12_3 ft_12_3 fl_X13_241 dec_X13_size.2.1.2.1.1.1 ?_
          exact V_iret rfl dec_X13_size.2.1.2.1.1.2
        · refine V_aload_n dec_X13_size.2.1.2.1.2.1 0 rfl ?_
          refine V_callV0 (ci := 13) (a := a0) (As := []) (st := []) rfl rfl (X13_mirrorsNow_s G l s3 a0) cal_X13_mirrorsNow rfl ml_X13_481 rfl rfl dec_X13_size.2.1.2.1.2.2 (k_tag (tag := 0) rfl fun r4 s5 => ?_)
          exact V_iret rfl dec_X13_size.2.1.2.2.1.1
        · refine V_aload_n dec_X13_size.2.1.2.2.1.2 0 rfl ?_
          refine V_getR 13 3 nf_13_3 ft_13_3 fl_X13_303 dec_X13_size.2.1.2.2.2.1 ?_
          refine V_getIN RX13 12 5 nf_12_5 ft_12_5 fl_X13_268 dec_X13_size.2.1.2.2.2.2 ?_
          exact V_iret rfl dec_X13_size.2.2.1.1.1.1
        · refine V_aload_n dec_X13_size.2.2.1.1.1.2 0 rfl ?_
          refine V_getR 13 3 nf_13_3 ft_13_3 fl_X13_303 dec_X13_size.2.2.1.1.2.1 ?_
          refine V_getIN RX13 12 6 nf_12_6 ft_12_6 fl_X13_279 dec_X13_size.2.2.1.1.2.2 ?_
          exact V_iret rfl dec_X13_size.2.2.1.2.1.1
        · refine V_aload_n dec_X13_size.2.2.1.2.1.2 0 rfl ?_
          refine V_getR 13 15 nf_13_15 ft_13_15 fl_X13_17 dec_X13_size.2.2.1.2.2.1 ?_
          refine V_bipush dec_X13_size.2.2.1.2.2.2 rfl ?_
          refine V_iald dec_X13_size.2.2.2.1.1.1 ?_
          exact V_iret rfl dec_X13_size.2.2.2.1.1.2
        · refine V_aload_n dec_X13_size.2.2.2.1.2.1 0 rfl ?_
          refine V_getI 13 19 nf_13_19 ft_13_19 fl_X13_308 dec_X13_size.2.2.2.1.2.2 ?_
          exact V_iret rfl dec_X13_size.2.2.2.2.1.1
        · refine V_aload_n dec_X13_size.2.2.2.2.1.2 0 rfl ?_
          refine V_getI 13 20 nf_13_20 ft_13_20 fl_X13_311 dec_X13_size.2.2.2.2.2.1 ?_
          exact V_iret rfl dec_X13_size.2.2.2.2.2.2
    · refine V_iconst dec_X13_size.1.1.2.2.2.2 rfl ?_
      exact V_iret rfl dec_X13_size.1.2.1.1.1
  · refine V_aload_n dec_X13_size.1.1.1.2.2.2 0 rfl ?_
    refine V_getI 13 6 nf_13_6 ft_13_6 fl_X13_296 dec_X13_size.1.1.2.1.1.1 ?_
    exact V_iret rfl dec_X13_size.1.1.2.1.1.2
