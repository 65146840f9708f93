theorem dec_X11_refuse : ((decode cX11_refuse 0 = .ok (.aload_n 0, 1) ∧ decode cX11_refuse 1 = .ok (.iload_n 1, 1)) ∧ (decode cX11_refuse 2 = .ok (.putfield 136, 3) ∧ (decode cX11_refuse 5 = .ok (.iconst (-1), 1) ∧ decode cX11_refuse 6 = .ok (.ireturn, 1)))) := by decide +kernel
def X11_refuse (s : St) (a0 a1 : Int) : Rs :=
  grd (isK s 21 a0) (lets (pI s a0 2 a1) (fun s1 => some ((-1), s1)))
set_option maxRecDepth 100000 in
set_option maxHeartbeats 4000000 in
theorem X11_refuse_s (G : Gx) (l : Launch) (s : St) (a0 a1 : Int) : Snd G l mX11_refuse [(2, a0), (0, a1)] s (X11_refuse s a0 a1) := by
  refine Snd.of (by decide +kernel) rfl ?_
  show V G l mX11_refuse 0 [(0, (2, a0)), (1, (0, a1))] [] s _
  unfold X11_refuse
  refine V_aload_n dec_X11_refuse.1.1 0 rfl ?_
  refine V_iload_n dec_X11_refuse.1.2 1 rfl ?_
  refine V_putI (host := "") 11 2 nf_11_2 ty_11_2 (Or.inl ⟨fl_X11_136, Or.inl rfl⟩) dec_X11_refuse.2.1 ?_
  refine V_lets fun s1 => ?_
  refine V_iconst dec_X11_refuse.2.2.1 rfl ?_
  exact V_iret rfl dec_X11_refuse.2.2.2
theorem dec_X11_image : (((((decode cX11_image 0 = .ok (.aload_n 0, 1) ∧ decode cX11_image 1 = .ok (.aload_n 0, 1)) ∧ (decode cX11_image 2 = .ok (.invokevirtual 203, 3) ∧ decode cX11_image 5 = .ok (.iconst 0, 1))) ∧ ((decode cX11_image 6 = .ok (.invokevirtual 92, 3) ∧ decode cX11_image 9 = .ok (.ifCond .eq 5, 3)) ∧ (decode cX11_image 12 = .ok (.iconst (-1), 1) ∧ (decode cX11_image 13 = .ok (.ireturn, 1) ∧ decode cX11_image 14 = .ok (.aload_n 0, 1))))) ∧ (((decode cX11_image 15 = .ok (.getfield 130, 3) ∧ decode cX11_image 18 = .ok (.iconst 3, 1)) ∧ (decode cX11_image 19 = .ok (.if_icmp .lt 9, 3) ∧ decode cX11_image 22 = .ok (.aload_n 0, 1))) ∧ ((decode cX11_image 23 = .ok (.iconst 3, 1) ∧ decode cX11_image 24 = .ok (.invokevirtual 105, 3)) ∧ (decode cX11_image 27 = .ok (.ireturn, 1) ∧ (decode cX11_image 28 = .ok (.aload_n 0, 1) ∧ decode cX11_image 29 = .ok (.getfield 80, 3)))))) ∧ ((((decode cX11_image 32 = .ok (.aload_n 0, 1) ∧ decode cX11_image 33 = .ok (.getfield 130, 3)) ∧ (decode cX11_image 36 = .ok (.aaload, 1) ∧ decode cX11_image 37 = .ok (.aload_n 0, 1))) ∧ ((decode cX11_image 38 = .ok (.getfield 36, 3) ∧ decode cX11_image 41 = .ok (.getfield 143, 3)) ∧ (decode cX11_image 44 = .ok (.invokevirtual 358, 3) ∧ (decode cX11_image 47 = .ok (.aload_n 0, 1) ∧ decode cX11_image 48 = .ok (.dup, 1))))) ∧ (((decode cX11_image 49 = .ok (.getfield 130, 3) ∧ decode cX11_image 52 = .ok (.iconst 1, 1)) ∧ (decode cX11_image 53 = .ok (.iadd, 1) ∧ decode cX11_image 54 = .ok (.putfield 130, 3))) ∧ ((decode cX11_image 57 = .ok (.aload_n 0, 1) ∧ decode cX11_image 58 = .ok (.getfield 130, 3)) ∧ (decode cX11_image 61 = .ok (.iconst 1, 1) ∧ (decode cX11_image 62 = .ok (.isub, 1) ∧ decode cX11_image 63 = .ok (.ireturn, 1))))))) := ⟨⟨by decide +kernel, by decide +kernel⟩, ⟨by decide +kernel, by decide +kernel⟩⟩
def X11_image (s : St) (a0 : Int) : Rs :=
  grd (isK s 21 a0) (bnd (X11_isNoTown s a0) (fun r1 s2 => grd (isK s2 21 a0) (bnd (X11_refused s2 a0 r1 0) (fun r3 s4 => if r3 = 0 then (grd (isK s4 21 a0) (if (gI s4 a0 15) < (3 : Int) then (grd (isK s4 21 a0) (grd (isK s4 21 a0) (grd (isK s4 4 (gR s4 a0 14) ∧ 0 ≤ (gI s4 a0 15) ∧ (gI s4 a0 15) < ln s4 (gR s4 a0 14)) (grd (isK s4 21 a0) (grd (isK s4 20 (gR s4 a0 7)) (grd (isK s4 16 (gR s4 (gR s4 a0 14) (gI s4 a0 15).toNat)) (bnd (X6_copy s4 (gR s4 (gR s4 a0 14) (gI s4 a0 15).toNat) (gR s4 (gR s4 a0 7) 1)) (fun r5 s6 => grd (isK s6 21 a0) (grd (isK s6 21 a0) (lets (pI s6 a0 15 (w32 ((gI s6 a0 15) + 1))) (fun s7 => grd (isK s7 21 a0) (some ((w32 ((gI s7 a0 15) - 1)), s7))))))))))))) else (grd (isK s4 21 a0) (bnd (X11_refuse s4 a0 3) (fun r8 s9 => some (r8, s9)))))) else (some ((-1), s4))))))
set_option maxRecDepth 100000 in
set_option maxHeartbeats 4000000 in
theorem X11_image_s (G : Gx) (l : Launch) (s : St) (a0 : Int) : Snd G l mX11_image [(2, a0)] s (X11_image s a0) := by
  refine Snd.of (by decide +kernel) rfl ?_
  show V G l mX11_image 0 [(0, (2, a0))] [] s _
  unfold X11_image
  refine V_aload_n dec_X11_image.1.1.1.1.1 0 rfl ?_
  refine V_aload_n dec_X11_image.1.1.1.1.2 0 rfl ?_
  refine V_callV0 (ci := 11) (a := a0) (As := []) (st := [(2, a0)]) rfl rfl (X11_isNoTown_s G l s a0) cal_X11_isNoTown rfl ml_X11_203 rfl rfl dec_X11_image.1.1.1.2.1 (k_tag (tag := 0) rfl fun r1 s2 => ?_)
  refine V_iconst dec_X11_image.1.1.1.2.2 rfl ?_
  refine V_callV0 (ci := 11) (a := a0) (As := [(0, r1), (0, 0)]) (st := []) rfl rfl (X11_refused_s G l s2 a0 r1 0) cal_X11_refused rfl ml_X11_92 rfl rfl dec_X11_image.1.1.2.1.1 (k_tag (tag := 0) rfl fun r3 s4 => ?_)
  refine V_if_eq (tgt := 14) dec_X11_image.1.1.2.1.2 (by decide) ?_ ?_
  · refine V_aload_n dec_X11_image.1.1.2.2.2.2 0 rfl ?_
    refine V_getI 11 15 nf_11_15 ft_11_15 fl_X11_130 dec_X11_image.1.2.1.1.1 ?_
    refine V_iconst dec_X11_image.1.2.1.1.2 rfl ?_
    refine V_icmp_lt (tgt := 28) dec_X11_image.1.2.1.2.1 (by decide) ?_ ?_
    · refine V_aload_n dec_X11_image.1.2.2.2.2.1 0 rfl ?_
      refine V_getR 11 14 nf_11_14 ft_11_14 fl_X11_80 dec_X11_image.1.2.2.2.2.2 ?_
      refine V_aload_n dec_X11_image.2.1.1.1.1 0 rfl ?_
      refine V_getI 11 15 nf_11_15 ft_11_15 fl_X11_130 dec_X11_image.2.1.1.1.2 ?_
      refine V_aald dec_X11_image.2.1.1.2.1 ?_
      refine V_aload_n dec_X11_image.2.1.1.2.2 0 rfl ?_
      refine V_getR 11 7 nf_11_7 ft_11_7 fl_X11_36 dec_X11_image.2.1.2.1.1 ?_
      refine V_getR 10 1 nf_10_1 ft_10_1 fl_X11_143 dec_X11_image.2.1.2.1.2 ?_
      refine V_callV0 (ci := 6) (a := (gR s4 (gR s4 a0 14) (gI s4 a0 15).toNat)) (As := [(2, (gR s4 (gR s4 a0 7) 1))]) (st := []) rfl rfl (X6_copy_s G l s4 (gR s4 (gR s4 a0 14) (gI s4 a0 15).toNat) (gR s4 (gR s4 a0 7) 1)) cal_X6_copy rfl ml_X11_358 rfl rfl dec_X11_image.2.1.2.2.1 (k_void rfl fun r5 s6 => ?_)
      refine V_aload_n dec_X11_image.2.1.2.2.2.1 0 rfl ?_
      refine V_dup (nl2 _) dec_X11_image.2.1.2.2.2.2 ?_
      refine V_getI 11 15 nf_11_15 ft_11_15 fl_X11_130 dec_X11_image.2.2.1.1.1 ?_
      refine V_iconst dec_X11_image.2.2.1.1.2 rfl ?_
      refine V_iadd dec_X11_image.2.2.1.2.1 ?_
      refine V_putI (host := "") 11 15 nf_11_15 ty_11_15 (Or.inl ⟨fl_X11_130, Or.inl rfl⟩) dec_X11_image.2.2.1.2.2 ?_
      refine V_lets fun s7 => ?_
      refine V_aload_n dec_X11_image.2.2.2.1.1 0 rfl ?_
      refine V_getI 11 15 nf_11_15 ft_11_15 fl_X11_130 dec_X11_image.2.2.2.1.2 ?_
      refine V_iconst dec_X11_image.2.2.2.2.1 rfl ?_
      refine V_isub dec_X11_image.2.2.2.2.2.1 ?_
      exact V_iret rfl dec_X11_image.2.2.2.2.2.2
    · refine V_aload_n dec_X11_image.1.2.1.2.2 0 rfl ?_
      refine V_iconst dec_X11_image.1.2.2.1.1 rfl ?_
      refine V_callV0 (ci := 11) (a := a0) (As := [(0, 3)]) (st := []) rfl rfl (X11_refuse_s G l s4 a0 3) cal_X11_refuse rfl ml_X11_105 rfl rfl dec_X11_image.1.2.2.1.2 (k_tag (tag := 0) rfl fun r8 s9 => ?_)
      exact V_iret rfl dec_X11_image.1.2.2.2.1
  · refine V_iconst dec_X11_image.1.1.2.2.1 rfl ?_
    exact V_iret rfl dec_X11_image.1.1.2.2.2.1
theorem dec_X11_inLowestTerms : ((((decode cX11_inLowestTerms 0 = .ok (.lload_n 0, 1) ∧ decode cX11_inLowestTerms 1 = .ok (.lload_n 2, 1)) ∧ (decode cX11_inLowestTerms 2 = .ok (.invokestatic 379, 3) ∧ (decode cX11_inLowestTerms 5 = .ok (.lstore 5, 2) ∧ decode cX11_inLowestTerms 7 = .ok (.lload 5, 2)))) ∧ ((decode cX11_inLowestTerms 9 = .ok (.lconst 1, 1) ∧ (decode cX11_inLowestTerms 10 = .ok (.lcmp, 1) ∧ decode cX11_inLowestTerms 11 = .ok (.ifCond .ge 14, 3))) ∧ (decode cX11_inLowestTerms 14 = .ok (.iload 4, 2) ∧ (decode cX11_inLowestTerms 16 = .ok (.ifCond .eq 7, 3) ∧ decode cX11_inLowestTerms 19 = .ok (.lconst 1, 1))))) ∧ (((decode cX11_inLowestTerms 20 = .ok (.goto 4, 3) ∧ decode cX11_inLowestTerms 23 = .ok (.lconst 0, 1)) ∧ (decode cX11_inLowestTerms 24 = .ok (.lreturn, 1) ∧ (decode cX11_inLowestTerms 25 = .ok (.iload 4, 2) ∧ decode cX11_inLowestTerms 27 = .ok (.ifCond .eq 7, 3)))) ∧ ((decode cX11_inLowestTerms 30 = .ok (.lload_n 2, 1) ∧ (decode cX11_inLowestTerms 31 = .ok (.goto 4, 3) ∧ decode cX11_inLowestTerms 34 = .ok (.lload_n 0, 1))) ∧ (decode cX11_inLowestTerms 35 = .ok (.lload 5, 2) ∧ (decode cX11_inLowestTerms 37 = .ok (.ldiv, 1) ∧ decode cX11_inLowestTerms 38 = .ok (.lreturn, 1)))))) := ⟨by decide +kernel, by decide +kernel⟩
def X11_inLowestTerms_b35 (s : St) (x5 k0 : Int) : Rs :=
  grd (x5 ≠ 0) (some ((w64 (Int.tdiv k0 x5)), s))
set_option maxRecDepth 100000 in
set_option maxHeartbeats 4000000 in
theorem X11_inLowestTerms_b35_s (G : Gx) (l : Launch) (s : St) (x5 k0 : Int) : V G l mX11_inLowestTerms 35 [(5, (1, x5))] [(1, k0)] s (X11_inLowestTerms_b35 s x5 k0) := by
  unfold X11_inLowestTerms_b35
  refine V_lload dec_X11_inLowestTerms.2.2.2.1 0 rfl ?_
  refine V_ldiv dec_X11_inLowestTerms.2.2.2.2.1 ?_
  exact V_lret rfl dec_X11_inLowestTerms.2.2.2.2.2
def X11_inLowestTerms_b24 (s : St) (k0 : Int) : Rs :=
  some (k0, s)
set_option maxRecDepth 100000 in
set_option maxHeartbeats 4000000 in
theorem X11_inLowestTerms_b24_s (G : Gx) (l : Launch) (s : St) (k0 : Int) : V G l mX11_inLowestTerms 24 [] [(1, k0)] s (X11_inLowestTerms_b24 s k0) := by
  unfold X11_inLowestTerms_b24
  exact V_lret rfl dec_X11_inLowestTerms.2.1.2.1
def X11_inLowestTerms (s : St) (a0 a1 a2 : Int) : Rs :=
  bnd (X11_commonDivisor s a0 a1) (fun r1 s2 => if 0 ≤ (cmp3 r1 1) then (if a2 = 0 then (X11_inLowestTerms_b35 s2 r1 a0) else (X11_inLowestTerms_b35 s2 r1 a1)) else (if a2 = 0 then (X11_inLowestTerms_b24 s2 0) else (X11_inLowestTerms_b24 s2 1)))
set_option maxRecDepth 100000 in
set_option maxHeartbeats 4000000 in
theorem X11_inLowestTerms_s (G : Gx) (l : Launch) (s : St) (a0 a1 a2 : Int) : Snd G l mX11_inLowestTerms [(1, a0), (1, a1), (0, a2)] s (X11_inLowestTerms s a0 a1 a2) := by
  refine Snd.of (by decide +kernel) rfl ?_
  show V G l mX11_inLowestTerms 0 [(0, (1, a0)), (2, (1, a1)), (4, (0, a2))] [] s _
  unfold X11_inLowestTerms
  refine V_lload_n dec_X11_inLowestTerms.1.1.1.1 0 rfl ?_
  refine V_lload_n dec_X11_inLowestTerms.1.1.1.2 1 rfl ?_
  refine V_callS0 (As := [(1, a0), (1, a1)]) (st := []) (host := "") rfl (X11_commonDivisor_s G l s a0 a1) cal_X11_commonDivisor rfl (Or.inl ml_X11_379) rfl rfl dec_X11_inLowestTerms.1.1.2.1 (k_tag (tag := 1) rfl fun r1 s2 => ?_)
  refine V_lstore (lv' := [(5, (1, r1)), (0, (1, a0)), (2, (1, a1)), (4, (0, a2))]) dec_X11_inLowestTerms.1.1.2.2.1 (by decide) rfl ?_
  refine V_lload dec_X11_inLowestTerms.1.1.2.2.2 0 rfl ?_
  refine V_lconst (n := 1) dec_X11_inLowestTerms.1.2.1.1 (by decide) ?_
  refine V_lcmp dec_X11_inLowestTerms.1.2.1.2.1 ?_
  refine V_if_ge (tgt := 25) dec_X11_inLowestTerms.1.2.1.2.2 (by decide) ?_ ?_
  · refine V_iload dec_X11_inLowestTerms.2.1.2.2.1 3 rfl ?_
    refine V_if_eq (tgt := 34) dec_X11_inLowestTerms.2.1.2.2.2 (by decide) ?_ ?_
    · refine V_lload_n dec_X11_inLowestTerms.2.2.1.2.2 1 rfl ?_
      exact V_pick [0] rfl (X11_inLowestTerms_b35_s G l s2 r1 a0)
    · refine V_lload_n dec_X11_inLowestTerms.2.2.1.1 2 rfl ?_
      refine V_goto (tgt := 35) dec_X11_inLowestTerms.2.2.1.2.1 (by decide) ?_
      exact V_pick [0] rfl (X11_inLowestTerms_b35_s G l s2 r1 a1)
  · refine V_iload dec_X11_inLowestTerms.1.2.2.1 3 rfl ?_
    refine V_if_eq (tgt := 23) dec_X11_inLowestTerms.1.2.2.2.1 (by decide) ?_ ?_
    · refine V_lconst (n := 0) dec_X11_inLowestTerms.2.1.1.2 (by decide) ?_
      exact V_pick [] rfl (X11_inLowestTerms_b24_s G l s2 0)
    · refine V_lconst (n := 1) dec_X11_inLowestTerms.1.2.2.2.2 (by decide) ?_
      refine V_goto (tgt := 24) dec_X11_inLowestTerms.2.1.1.1 (by decide) ?_
      exact V_pick [] rfl (X11_inLowestTerms_b24_s G l s2 1)
theorem dec_X1_init : (((decode cX1_init 0 = .ok (.aload_n 0, 1) ∧ decode cX1_init 1 = .ok (.invokespecial 3, 3)) ∧ (decode cX1_init 4 = .ok (.aload_n 0, 1) ∧ (decode cX1_init 5 = .ok (.bipush 16, 2) ∧ decode cX1_init 7 = .ok (.newarray .int, 2)))) ∧ ((decode cX1_init 9 = .ok (.putfield 9, 3) ∧ decode cX1_init 12 = .ok (.aload_n 0, 1)) ∧ (decode cX1_init 13 = .ok (.bipush (-2), 2) ∧ (decode cX1_init 15 = .ok (.putfield 15, 3) ∧ decode cX1_init 18 = .ok (.return_, 1))))) := by decide +kernel
def X1_init (s : St) (a0 : Int) : Rs :=
  grd (isK s 11 a0) (grd (s.1.1 < 1000000 ∧ 0 ≤ (16 : Int) ∧ (16 : Int) ≤ 100000) (lets (nw s 1 (16 : Int).toNat) (fun s1 => grd (isK s1 11 a0) (lets (pR s1 a0 0 (s.1.1 : Int)) (fun s2 => grd (isK s2 11 a0) (lets (pI s2 a0 2 (-2)) (fun s3 => some (0, s3))))))))
set_option maxRecDepth 100000 in
set_option maxHeartbeats 4000000 in
theorem X1_init_s (G : Gx) (l : Launch) (s : St) (a0 : Int) : Snd G l mX1_init [(2, a0)] s (X1_init s a0) := by
  refine Snd.of (by decide +kernel) rfl ?_
  show V G l mX1_init 0 [(0, (2, a0))] [] s _
  unfold X1_init
  refine V_aload_n dec_X1_init.1.1.1 0 rfl ?_
  refine V_objInit (ci := 1) ml_X1_3 oi_inst oi_code rfl rfl dec_X1_init.1.1.2 ?_
  refine V_aload_n dec_X1_init.1.2.1 0 rfl ?_
  refine V_bipush dec_X1_init.1.2.2.1 rfl ?_
  refine V_newarr (at0 := .int) (by decide) ac_int dec_X1_init.1.2.2.2 ?_
  refine V_lets fun s1 => ?_
  refine V_putR (host := "") 1 0 nf_1_0 ty_1_0 (Or.inl ⟨fl_X1_9, Or.inr ⟨rfl, rfl, rfl⟩⟩) dec_X1_init.2.1.1 ?_
  refine V_lets fun s2 => ?_
  refine V_aload_n dec_X1_init.2.1.2 0 rfl ?_
  refine V_bipush dec_X1_init.2.2.1 rfl ?_
  refine V_putI (host := "") 1 2 nf_1_2 ty_1_2 (Or.inl ⟨fl_X1_15, Or.inl rfl⟩) dec_X1_init.2.2.2.1 ?_
  refine V_lets fun s3 => ?_
  exact V_vret rfl dec_X1_init.2.2.2.2
theorem dec_X2_init : ((decode cX2_init 0 = .ok (.aload_n 0, 1) ∧ (decode cX2_init 1 = .ok (.invokespecial 3, 3) ∧ decode cX2_init 4 = .ok (.aload_n 0, 1))) ∧ ((decode cX2_init 5 = .ok (.bipush 7, 2) ∧ decode cX2_init 7 = .ok (.newarray .long, 2)) ∧ (decode cX2_init 9 = .ok (.putfield 9, 3) ∧ decode cX2_init 12 = .ok (.return_, 1)))) := by decide +kernel
def X2_init (s : St) (a0 : Int) : Rs :=
  grd (isK s 12 a0) (grd (s.1.1 < 1000000 ∧ 0 ≤ (7 : Int) ∧ (7 : Int) ≤ 100000) (lets (nw s 3 (7 : Int).toNat) (fun s1 => grd (isK s1 12 a0) (lets (pR s1 a0 0 (s.1.1 : Int)) (fun s2 => some (0, s2))))))
set_option maxRecDepth 100000 in
set_option maxHeartbeats 4000000 in
theorem X2_init_s (G : Gx) (l : Launch) (s : St) (a0 : Int) : Snd G l mX2_init [(2, a0)] s (X2_init s a0) := by
  refine Snd.of (by decide +kernel) rfl ?_
  show V G l mX2_init 0 [(0, (2, a0))] [] s _
  unfold X2_init
  refine V_aload_n dec_X2_init.1.1 0 rfl ?_
  refine V_objInit (ci := 2) ml_X2_3 oi_inst oi_code rfl rfl dec_X2_init.1.2.1 ?_
  refine V_aload_n dec_X2_init.1.2.2 0 rfl ?_
  refine V_bipush dec_X2_init.2.1.1 rfl ?_
  refine V_newarr (at0 := .long) (by decide) ac_long dec_X2_init.2.1.2 ?_
  refine V_lets fun s1 => ?_
  refine V_putR (host := "") 2 0 nf_2_0 ty_2_0 (Or.inl ⟨fl_X2_9, Or.inr ⟨rfl, rfl, rfl⟩⟩) dec_X2_init.2.2.1 ?_
  refine V_lets fun s2 => ?_
  exact V_vret rfl dec_X2_init.2.2.2
theorem dec_X3_init : (((decode cX3_init 0 = .ok (.aload_n 0, 1) ∧ (decode cX3_init 1 = .ok (.invokespecial 1, 3) ∧ decode cX3_init 4 = .ok (.aload_n 0, 1))) ∧ ((decode cX3_init 5 = .ok (.bipush 16, 2) ∧ decode cX3_init 7 = .ok (.newarray .int, 2)) ∧ (decode cX3_init 9 = .ok (.putfield 9, 3) ∧ decode cX3_init 12 = .ok (.aload_n 0, 1)))) ∧ (((decode cX3_init 13 = .ok (.bipush 16, 2) ∧ decode cX3_init 15 = .ok (.newarray .int, 2)) ∧ (decode cX3_init 17 = .ok (.putfield 13, 3) ∧ decode cX3_init 20 = .ok (.aload_n 0, 1))) ∧ ((decode cX3_init 21 = .ok (.bipush 16, 2) ∧ decode cX3_init 23 = .ok (.newarray .int, 2)) ∧ (decode cX3_init 25 = .ok (.putfield 16, 3) ∧ decode cX3_init 28 = .ok (.return_, 1))))) := ⟨by decide +kernel, by decide +kernel⟩
def X3_init (s : St) (a0 : Int) : Rs :=
  grd (isK s 13 a0) (grd (s.1.1 < 1000000 ∧ 0 ≤ (16 : Int) ∧ (16 : Int) ≤ 100000) (lets (nw s 1 (16 : Int).toNat) (fun s1 => grd (isK s1 13 a0) (lets (pR s1 a0 1 (s.1.1 : Int)) (fun s2 => grd (s2.1.1 < 1000000 ∧ 0 ≤ (16 : Int) ∧ (16 : Int) ≤ 100000) (lets (nw s2 1 (16 : Int).toNat) (fun s3 => grd (isK s3 13 a0) (lets (pR s3 a0 2 (s2.1.1 : Int)) (fun s4 => grd (s4.1.1 < 1000000 ∧ 0 ≤ (16 : Int) ∧ (16 : Int) ≤ 100000) (lets (nw s4 1 (16 : Int).toNat) (fun s5 => grd (isK s5 13 a0) (lets (pR s5 a0 3 (s4.1.1 : Int)) (fun s6 => some (0, s6))))))))))))))
set_option maxRecDepth 100000 in
set_option maxHeartbeats 4000000 in
theorem X3_init_s (G : Gx) (l : Launch) (s : St) (a0 : Int) : Snd G l mX3_init [(2, a0)] s (X3_init s a0) := by
  refine Snd.of (by decide +kernel) rfl ?_
  show V G l mX3_init 0 [(0, (2, a0))] [] s _
  unfold X3_init
  refine V_aload_n dec_X3_init.1.1.1 0 rfl ?_
  refine V_objInit (ci := 3) ml_X3_1 oi_inst oi_code rfl rfl dec_X3_init.1.1.2.1 ?_
  refine V_aload_n dec_X3_init.1.1.2.2 0 rfl ?_
  refine V_bipush dec_X3_init.1.2.1.1 rfl ?_
  refine V_newarr (at0 := .int) (by decide) ac_int dec_X3_init.1.2.1.2 ?_
  refine V_lets fun s1 => ?_
  refine V_putR (host := "") 3 1 nf_3_1 ty_3_1 (Or.inl ⟨fl_X3_9, Or.inr ⟨rfl, rfl, rfl⟩⟩) dec_X3_init.1.2.2.1 ?_
  refine V_lets fun s2 => ?_
  refine V_aload_n dec_X3_init.1.2.2.2 0 rfl ?_
  refine V_bipush dec_X3_init.2.1.1.1 rfl ?_
  refine V_newarr (at0 := .int) (by decide) ac_int dec_X3_init.2.1.1.2 ?_
  refine V_lets fun s3 => ?_
  refine V_putR (host := "") 3 2 nf_3_2 ty_3_2 (Or.inl ⟨fl_X3_13, Or.inr ⟨rfl, rfl, rfl⟩⟩) dec_X3_init.2.1.2.1 ?_
  refine V_lets fun s4 => ?_
  refine V_aload_n dec_X3_init.2.1.2.2 0 rfl ?_
  refine V_bipush dec_X3_init.2.2.1.1 rfl ?_
  refine V_newarr (at0 := .int) (by decide) ac_int dec_X3_init.2.2.1.2 ?_
  refine V_lets fun s5 => ?_
  refine V_putR (host := "") 3 3 nf_3_3 ty_3_3 (Or.inl ⟨fl_X3_16, Or.inr ⟨rfl, rfl, rfl⟩⟩) dec_X3_init.2.2.2.1 ?_
  refine V_lets fun s6 => ?_
  exact V_vret rfl dec_X3_init.2.2.2.2
theorem dec_X8_init : ((decode cX8_init 0 = .ok (.aload_n 0, 1) ∧ (decode cX8_init 1 = .ok (.invokespecial 1, 3) ∧ decode cX8_init 4 = .ok (.aload_n 0, 1))) ∧ ((decode cX8_init 5 = .ok (.iconst 0, 1) ∧ decode cX8_init 6 = .ok (.newarray .byte, 2)) ∧ (decode cX8_init 8 = .ok (.putfield 7, 3) ∧ decode cX8_init 11 = .ok (.return_, 1)))) := by decide +kernel
def X8_init (s : St) (a0 : Int) : Rs :=
  grd (isK s 18 a0) (grd (s.1.1 < 1000000 ∧ 0 ≤ (0 : Int) ∧ (0 : Int) ≤ 100000) (lets (nw s 2 (0 : Int).toNat) (fun s1 => grd (isK s1 18 a0) (lets (pR s1 a0 3 (s.1.1 : Int)) (fun s2 => some (0, s2))))))
set_option maxRecDepth 100000 in
set_option maxHeartbeats 4000000 in
theorem X8_init_s (G : Gx) (l : Launch) (s : St) (a0 : Int) : Snd G l mX8_init [(2, a0)] s (X8_init s a0) := by
  refine Snd.of (by decide +kernel) rfl ?_
  show V G l mX8_init 0 [(0, (2, a0))] [] s _
  unfold X8_init
  refine V_aload_n dec_X8_init.1.1 0 rfl ?_
  refine V_objInit (ci := 8) ml_X8_1 oi_inst oi_code rfl rfl dec_X8_init.1.2.1 ?_
  refine V_aload_n dec_X8_init.1.2.2 0 rfl ?_
  refine V_iconst dec_X8_init.2.1.1 rfl ?_
  refine V_newarr (at0 := .byte) (by decide) ac_byte dec_X8_init.2.1.2 ?_
  refine V_lets fun s1 => ?_
  refine V_putR (host := "") 8 3 nf_8_3 ty_8_3 (Or.inl ⟨fl_X8_7, Or.inl rfl⟩) dec_X8_init.2.2.1 ?_
  refine V_lets fun s2 => ?_
  exact V_vret rfl dec_X8_init.2.2.2
theorem dec_X9_init : (((((decode cX9_init 0 = .ok (.aload_n 0, 1) ∧ decode cX9_init 1 = .ok (.invokespecial 3, 3)) ∧ (decode cX9_init 4 = .ok (.aload_n 0, 1) ∧ decode cX9_init 5 = .ok (.new 9, 3))) ∧ ((decode cX9_init 8 = .ok (.dup, 1) ∧ decode cX9_init 9 = .ok (.invokespecial 11, 3)) ∧ (decode cX9_init 12 = .ok (.putfield 12, 3) ∧ (decode cX9_init 15 = .ok (.aload_n 0, 1) ∧ decode cX9_init 16 = .ok (.bipush 6, 2))))) ∧ (((decode cX9_init 18 = .ok (.newarray .int, 2) ∧ decode cX9_init 20 = .ok (.putfield 18, 3)) ∧ (decode cX9_init 23 = .ok (.aload_n 0, 1) ∧ decode cX9_init 24 = .ok (.bipush 6, 2))) ∧ ((decode cX9_init 26 = .ok (.newarray .int, 2) ∧ decode cX9_init 28 = .ok (.putfield 22, 3)) ∧ (decode cX9_init 31 = .ok (.aload_n 0, 1) ∧ (decode cX9_init 32 = .ok (.iconst 4, 1) ∧ decode cX9_init 33 = .ok (.newarray .int, 2)))))) ∧ ((((decode cX9_init 35 = .ok (.putfield 25, 3) ∧ decode cX9_init 38 = .ok (.aload_n 0, 1)) ∧ (decode cX9_init 39 = .ok (.iconst 4, 1) ∧ decode cX9_init 40 = .ok (.newarray .int, 2))) ∧ ((decode cX9_init 42 = .ok (.putfield 28, 3) ∧ decode cX9_init 45 = .ok (.aload_n 0, 1)) ∧ (decode cX9_init 46 = .ok (.bipush 8, 2) ∧ (decode cX9_init 48 = .ok (.newarray .int, 2) ∧ decode cX9_init 50 = .ok (.putfield 31, 3))))) ∧ (((decode cX9_init 53 = .ok (.aload_n 0, 1) ∧ decode cX9_init 54 = .ok (.bipush 8, 2)) ∧ (decode cX9_init 56 = .ok (.newarray .int, 2) ∧ decode cX9_init 58 = .ok (.putfield 34, 3))) ∧ ((decode cX9_init 61 = .ok (.aload_n 0, 1) ∧ decode cX9_init 62 = .ok (.bipush 8, 2)) ∧ (decode cX9_init 64 = .ok (.newarray .int, 2) ∧ (decode cX9_init 66 = .ok (.putfield 37, 3) ∧ decode cX9_init 69 = .ok (.return_, 1))))))) := ⟨⟨by decide +kernel, by decide +kernel⟩, ⟨by decide +kernel, by decide +kernel⟩⟩
def X9_init (s : St) (a0 : Int) : Rs :=
  grd (isK s 19 a0) (grd (s.1.1 < 1000000) (lets (nw s 16 4) (fun s1 => grd (isK s1 16 (s.1.1 : Int)) (bnd (X6_init s1 (s.1.1 : Int)) (fun r2 s3 => grd (isK s3 19 a0) (lets (pR s3 a0 6 (s.1.1 : Int)) (fun s4 => grd (s4.1.1 < 1000000 ∧ 0 ≤ (6 : Int) ∧ (6 : Int) ≤ 100000) (lets (nw s4 1 (6 : Int).toNat) (fun s5 => grd (isK s5 19 a0) (lets (pR s5 a0 7 (s4.1.1 : Int)) (fun s6 => grd (s6.1.1 < 1000000 ∧ 0 ≤ (6 : Int) ∧ (6 : Int) ≤ 100000) (lets (nw s6 1 (6 : Int).toNat) (fun s7 => grd (isK s7 19 a0) (lets (pR s7 a0 8 (s6.1.1 : Int)) (fun s8 => grd (s8.1.1 < 1000000 ∧ 0 ≤ (4 : Int) ∧ (4 : Int) ≤ 100000) (lets (nw s8 1 (4 : Int).toNat) (fun s9 => grd (isK s9 19 a0) (lets (pR s9 a0 9 (s8.1.1 : Int)) (fun s10 => grd (s10.1.1 < 1000000 ∧ 0 ≤ (4 : Int) ∧ (4 : Int) ≤ 100000) (lets (nw s10 1 (4 : Int).toNat) (fun s11 => grd (isK s11 19 a0) (lets (pR s11 a0 10 (s10.1.1 : Int)) (fun s12 => grd (s12.1.1 < 1000000 ∧ 0 ≤ (8 : Int) ∧ (8 : Int) ≤ 100000) (lets (nw s12 1 (8 : Int).toNat) (fun s13 => grd (isK s13 19 a0) (lets (pR s13 a0 11 (s12.1.1 : Int)) (fun s14 => grd (s14.1.1 < 1000000 ∧ 0 ≤ (8 : Int) ∧ (8 : Int) ≤ 100000) (lets (nw s14 1 (8 : Int).toNat) (fun s15 => grd (isK s15 19 a0) (lets (pR s15 a0 12 (s14.1.1 : Int)) (fun s16 => grd (s16.1.1 < 1000000 ∧ 0 ≤ (8 : Int) ∧ (8 : Int) ≤ 100000) (lets (nw s16 1 (8 : Int).toNat) (fun s17 => grd (isK s17 19 a0) (lets (pR s17 a0 13 (s16.1.1 : Int)) (fun s18 => some (0, s18))))))))))))))))))))))))))))))))))))
set_option maxRecDepth 100000 in
set_option maxHeartbeats 4000000 in
theorem X9_init_s (G : Gx) (l : Launch) (s : St) (a0 : Int) : Snd G l mX9_init [(2, a0)] s (X9_init s a0) := by
  refine Snd.of (by decide +kernel) rfl ?_
  show V G l mX9_init 0 [(0, (2, a0))] [] s _
  unfold X9_init
  refine V_aload_n dec_X9_init.1.1.1.1.1 0 rfl ?_
  refine V_objInit (ci := 9) ml_X9_3 oi_inst oi_code rfl rfl dec_X9_init.1.1.1.1.2 ?_
  refine V_aload_n dec_X9_init.1.1.1.2.1 0 rfl ?_
  refine V_new 6 (RX6, TX6, 4) rfl cl_X9_9 in_X6 iz_X6 dec_X9_init.1.1.1.2.2 ?_
  refine V_lets fun s1 => ?_
  refine V_dup (nl2 _) dec_X9_init.1.1.2.1.1 ?_
  refine V_callI0 (ci := 6) (a := (s.1.1 : Int)) (As := []) (st := [(2, (s.1.1 : Int)), (2, a0)]) (host := RX11) rfl rfl (X6_init_s G l s1 (s.1.1 : Int)) cal_X6_init rfl (Or.inr ml_X9_11) rfl rfl dec_X9_init.1.1.2.1.2 (fun r2 s3 => ?_)
  refine V_putR (host := "") 9 6 nf_9_6 ty_9_6 (Or.inl ⟨fl_X9_12, Or.inr ⟨rfl, rfl, rfl⟩⟩) dec_X9_init.1.1.2.2.1 ?_
  refine V_lets fun s4 => ?_
  refine V_aload_n dec_X9_init.1.1.2.2.2.1 0 rfl ?_
  refine V_bipush dec_X9_init.1.1.2.2.2.2 rfl ?_
  refine V_newarr (at0 := .int) (by decide) ac_int dec_X9_init.1.2.1.1.1 ?_
  refine V_lets fun s5 => ?_
  refine V_putR (host := "") 9 7 nf_9_7 ty_9_7 (Or.inl ⟨fl_X9_18, Or.inr ⟨rfl, rfl, rfl⟩⟩) dec_X9_init.1.2.1.1.2 ?_
  refine V_lets fun s6 => ?_
  refine V_aload_n dec_X9_init.1.2.1.2.1 0 rfl ?_
  refine V_bipush dec_X9_init.1.2.1.2.2 rfl ?_
  refine V_newarr (at0 := .int) (by decide) ac_int dec_X9_init.1.2.2.1.1 ?_
  refine V_lets fun s7 => ?_
  refine V_putR (host := "") 9 8 nf_9_8 ty_9_8 (Or.inl ⟨fl_X9_22, Or.inr ⟨rfl, rfl, rfl⟩⟩) dec_X9_init.1.2.2.1.2 ?_
  refine V_lets fun s8 => ?_
  refine V_aload_n dec_X9_init.1.2.2.2.1 0 rfl ?_
  refine V_iconst dec_X9_init.1.2.2.2.2.1 rfl ?_
  refine V_newarr (at0 := .int) (by decide) ac_int dec_X9_init.1.2.2.2.2.2 ?_
  refine V_lets fun s9 => ?_
  refine V_putR (host := "") 9 9 nf_9_9 ty_9_9 (Or.inl ⟨fl_X9_25, Or.inr ⟨rfl, rfl, rfl⟩⟩) dec_X9_init.2.1.1.1.1 ?_
  refine V_lets fun s10 => ?_
  refine V_aload_n dec_X9_init.2.1.1.1.2 0 rfl ?_
  refine V_iconst dec_X9_init.2.1.1.2.1 rfl ?_
  refine V_newarr (at0 := .int) (by decide) ac_int dec_X9_init.2.1.1.2.2 ?_
  refine V_lets fun s11 => ?_
  refine V_putR (host := "") 9 10 nf_9_10 ty_9_10 (Or.inl ⟨fl_X9_28, Or.inr ⟨rfl, rfl, rfl⟩⟩) dec_X9_init.2.1.2.1.1 ?_
  refine V_lets fun s12 => ?_
  refine V_aload_n dec_X9_init.2.1.2.1.2 0 rfl ?_
  refine V_bipush dec_X9_init.2.1.2.2.1 rfl ?_
  refine V_newarr (at0 := .int) (by decide) ac_int dec_X9_init.2.1.2.2.2.1 ?_
  refine V_lets fun s13 => ?_
  refine V_putR (host := "") 9 11 nf_9_11 ty_9_11 (Or.inl ⟨fl_X9_31, Or.inr ⟨rfl, rfl, rfl⟩⟩) dec_X9_init.2.1.2.2.2.2 ?_
  refine V_lets fun s14 => ?_
  refine V_aload_n dec_X9_init.2.2.1.1.1 0 rfl ?_
  refine V_bipush dec_X9_init.2.2.1.1.2 rfl ?_
  refine V_newarr (at0 := .int) (by decide) ac_int dec_X9_init.2.2.1.2.1 ?_
  refine V_lets fun s15 => ?_
  refine V_putR (host := "") 9 12 nf_9_12 ty_9_12 (Or.inl ⟨fl_X9_34, Or.inr ⟨rfl, rfl, rfl⟩⟩) dec_X9_init.2.2.1.2.2 ?_
  refine V_lets fun s16 => ?_
  refine V_aload_n dec_X9_init.2.2.2.1.1 0 rfl ?_
  refine V_bipush dec_X9_init.2.2.2.1.2 rfl ?_
  refine V_newarr (at0 := .int) (by decide) ac_int dec_X9_init.2.2.2.2.1 ?_
  refine V_lets fun s17 => ?_
  refine V_putR (host := "") 9 13 nf_9_13 ty_9_13 (Or.inl ⟨fl_X9_37, Or.inr ⟨rfl, rfl, rfl⟩⟩) dec_X9_init.2.2.2.2.2.1 ?_
  refine V_lets fun s18 => ?_
  exact V_vret rfl dec_X9_init.2.2.2.2.2.2
theorem dec_X4_init : ((((decode cX4_init 0 = .ok (.aload_n 0, 1) ∧ (decode cX4_init 1 = .ok (.invokespecial 3, 3) ∧ decode cX4_init 4 = .ok (.aload_n 0, 1))) ∧ (decode cX4_init 5 = .ok (.new 9, 3) ∧ (decode cX4_init 8 = .ok (.dup, 1) ∧ decode cX4_init 9 = .ok (.invokespecial 11, 3)))) ∧ ((decode cX4_init 12 = .ok (.putfield 12, 3) ∧ (decode cX4_init 15 = .ok (.aload_n 0, 1) ∧ decode cX4_init 16 = .ok (.iconst (-1), 1))) ∧ (decode cX4_init 17 = .ok (.putfield 18, 3) ∧ (decode cX4_init 20 = .ok (.aload_n 0, 1) ∧ decode cX4_init 21 = .ok (.new 22, 3))))) ∧ (((decode cX4_init 24 = .ok (.dup, 1) ∧ (decode cX4_init 25 = .ok (.invokespecial 24, 3) ∧ decode cX4_init 28 = .ok (.putfield 25, 3))) ∧ (decode cX4_init 31 = .ok (.aload_n 0, 1) ∧ (decode cX4_init 32 = .ok (.bipush 6, 2) ∧ decode cX4_init 34 = .ok (.newarray .long, 2)))) ∧ ((decode cX4_init 36 = .ok (.putfield 29, 3) ∧ (decode cX4_init 39 = .ok (.aload_n 0, 1) ∧ decode cX4_init 40 = .ok (.bipush 6, 2))) ∧ (decode cX4_init 42 = .ok (.newarray .long, 2) ∧ (decode cX4_init 44 = .ok (.putfield 33, 3) ∧ decode cX4_init 47 = .ok (.return_, 1)))))) := ⟨by decide +kernel, by decide +kernel⟩
def X4_init (s : St) (a0 : Int) : Rs :=
  grd (isK s 14 a0) (grd (s.1.1 < 1000000) (lets (nw s 19 14) (fun s1 => grd (isK s1 19 (s.1.1 : Int)) (bnd (X9_init s1 (s.1.1 : Int)) (fun r2 s3 => grd (isK s3 14 a0) (lets (pR s3 a0 0 (s.1.1 : Int)) (fun s4 => grd (isK s4 14 a0) (lets (pI s4 a0 2 (-1)) (fun s5 => grd (s5.1.1 < 1000000) (lets (nw s5 18 6) (fun s6 => grd (isK s6 18 (s5.1.1 : Int)) (bnd (X8_init s6 (s5.1.1 : Int)) (fun r7 s8 => grd (isK s8 14 a0) (lets (pR s8 a0 3 (s5.1.1 : Int)) (fun s9 => grd (s9.1.1 < 1000000 ∧ 0 ≤ (6 : Int) ∧ (6 : Int) ≤ 100000) (lets (nw s9 3 (6 : Int).toNat) (fun s10 => grd (isK s10 14 a0) (lets (pR s10 a0 4 (s9.1.1 : Int)) (fun s11 => grd (s11.1.1 < 1000000 ∧ 0 ≤ (6 : Int) ∧ (6 : Int) ≤ 100000) (lets (nw s11 3 (6 : Int).toNat) (fun s12 => grd (isK s12 14 a0) (lets (pR s12 a0 5 (s11.1.1 : Int)) (fun s13 => some (0, s13))))))))))))))))))))))))
set_option maxRecDepth 100000 in
set_option maxHeartbeats 4000000 in
theorem X4_init_s (G : Gx) (l : Launch) (s : St) (a0 : Int) : Snd G l mX4_init [(2, a0)] s (X4_init s a0) := by
  refine Snd.of (by decide +kernel) rfl ?_
  show V G l mX4_init 0 [(0, (2, a0))] [] s _
  unfold X4_init
  refine V_aload_n dec_X4_init.1.1.1.1 0 rfl ?_
  refine V_objInit (ci := 4) ml_X4_3 oi_inst oi_code rfl rfl dec_X4_init.1.1.1.2.1 ?_
  refine V_aload_n dec_X4_init.1.1.1.2.2 0 rfl ?_
  refine V_new 9 (RX9, TX9, 14) rfl cl_X4_9 in_X9 iz_X9 dec_X4_init.1.1.2.1 ?_
  refine V_lets fun s1 => ?_
  refine V_dup (nl2 _) dec_X4_init.1.1.2.2.1 ?_
  refine V_callI0 (ci := 9) (a := (s.1.1 : Int)) (As := []) (st := [(2, (s.1.1 : Int)), (2, a0)]) (host := RX11) rfl rfl (X9_init_s G l s1 (s.1.1 : Int)) cal_X9_init rfl (Or.inr ml_X4_11) rfl rfl dec_X4_init.1.1.2.2.2 (fun r2 s3 => ?_)
  refine V_putR (host := "") 4 0 nf_4_0 ty_4_0 (Or.inl ⟨fl_X4_12, Or.inr ⟨rfl, rfl, rfl⟩⟩) dec_X4_init.1.2.1.1 ?_
  refine V_lets fun s4 => ?_
  refine V_aload_n dec_X4_init.1.2.1.2.1 0 rfl ?_
  refine V_iconst dec_X4_init.1.2.1.2.2 rfl ?_
  refine V_putI (host := "") 4 2 nf_4_2 ty_4_2 (Or.inl ⟨fl_X4_18, Or.inl rfl⟩) dec_X4_init.1.2.2.1 ?_
  refine V_lets fun s5 => ?_
  refine V_aload_n dec_X4_init.1.2.2.2.1 0 rfl ?_
  refine V_new 8 (RX8, TX8, 6) rfl cl_X4_22 in_X8 iz_X8 dec_X4_init.1.2.2.2.2 ?_
  refine V_lets fun s6 => ?_
  refine V_dup (nl2 _) dec_X4_init.2.1.1.1 ?_
  refine V_callI0 (ci := 8) (a := (s5.1.1 : Int)) (As := []) (st := [(2, (s5.1.1 : Int)), (2, a0)]) (host := RX11) rfl rfl (X8_init_s G l s6 (s5.1.1 : Int)) cal_X8_init rfl (Or.inr ml_X4_24) rfl rfl dec_X4_init.2.1.1.2.1 (fun r7 s8 => ?_)
  refine V_putR (host := "") 4 3 nf_4_3 ty_4_3 (Or.inl ⟨fl_X4_25, Or.inr ⟨rfl, rfl, rfl⟩⟩) dec_X4_init.2.1.1.2.2 ?_
  refine V_lets fun s9 => ?_
  refine V_aload_n dec_X4_init.2.1.2.1 0 rfl ?_
  refine V_bipush dec_X4_init.2.1.2.2.1 rfl ?_
  refine V_newarr (at0 := .long) (by decide) ac_long dec_X4_init.2.1.2.2.2 ?_
  refine V_lets fun s10 => ?_
  refine V_putR (host := "") 4 4 nf_4_4 ty_4_4 (Or.inl ⟨fl_X4_29, Or.inr ⟨rfl, rfl, rfl⟩⟩) dec_X4_init.2.2.1.1 ?_
  refine V_lets fun s11 => ?_
  refine V_aload_n dec_X4_init.2.2.1.2.1 0 rfl ?_
  refine V_bipush dec_X4_init.2.2.1.2.2 rfl ?_
  refine V_newarr (at0 := .long) (by decide) ac_long dec_X4_init.2.2.2.1 ?_
  refine V_lets fun s12 => ?_
  refine V_putR (host := "") 4 5 nf_4_5 ty_4_5 (Or.inl ⟨fl_X4_33, Or.inr ⟨rfl, rfl, rfl⟩⟩) dec_X4_init.2.2.2.2.1 ?_
  refine V_lets fun s13 => ?_
  exact V_vret rfl dec_X4_init.2.2.2.2.2
theorem dec_X5_init : (((decode cX5_init 0 = .ok (.aload_n 0, 1) ∧ decode cX5_init 1 = .ok (.invokespecial 3, 3)) ∧ (decode cX5_init 4 = .ok (.aload_n 0, 1) ∧ (decode cX5_init 5 = .ok (.bipush 36, 2) ∧ decode cX5_init 7 = .ok (.newarray .int, 2)))) ∧ ((decode cX5_init 9 = .ok (.putfield 9, 3) ∧ (decode cX5_init 12 = .ok (.aload_n 0, 1) ∧ decode cX5_init 13 = .ok (.bipush 64, 2))) ∧ (decode cX5_init 15 = .ok (.newarray .int, 2) ∧ (decode cX5_init 17 = .ok (.putfield 15, 3) ∧ decode cX5_init 20 = .ok (.return_, 1))))) := by decide +kernel
def X5_init (s : St) (a0 : Int) : Rs :=
  grd (isK s 15 a0) (grd (s.1.1 < 1000000 ∧ 0 ≤ (36 : Int) ∧ (36 : Int) ≤ 100000) (lets (nw s 1 (36 : Int).toNat) (fun s1 => grd (isK s1 15 a0) (lets (pR s1 a0 0 (s.1.1 : Int)) (fun s2 => grd (s2.1.1 < 1000000 ∧ 0 ≤ (64 : Int) ∧ (64 : Int) ≤ 100000) (lets (nw s2 1 (64 : Int).toNat) (fun s3 => grd (isK s3 15 a0) (lets (pR s3 a0 1 (s2.1.1 : Int)) (fun s4 => some (0, s4))))))))))
set_option maxRecDepth 100000 in
set_option maxHeartbeats 4000000 in
theorem X5_init_s (G : Gx) (l : Launch) (s : St) (a0 : Int) : Snd G l mX5_init [(2, a0)] s (X5_init s a0) := by
  refine Snd.of (by decide +kernel) rfl ?_
  show V G l mX5_init 0 [(0, (2, a0))] [] s _
  unfold X5_init
  refine V_aload_n dec_X5_init.1.1.1 0 rfl ?_
  refine V_objInit (ci := 5) ml_X5_3 oi_inst oi_code rfl rfl dec_X5_init.1.1.2 ?_
  refine V_aload_n dec_X5_init.1.2.1 0 rfl ?_
  refine V_bipush dec_X5_init.1.2.2.1 rfl ?_
  refine V_newarr (at0 := .int) (by decide) ac_int dec_X5_init.1.2.2.2 ?_
  refine V_lets fun s1 => ?_
  refine V_putR (host := "") 5 0 nf_5_0 ty_5_0 (Or.inl ⟨fl_X5_9, Or.inr ⟨rfl, rfl, rfl⟩⟩) dec_X5_init.2.1.1 ?_
  refine V_lets fun s2 => ?_
  refine V_aload_n dec_X5_init.2.1.2.1 0 rfl ?_
  refine V_bipush dec_X5_init.2.1.2.2 rfl ?_
  refine V_newarr (at0 := .int) (by decide) ac_int dec_X5_init.2.2.1 ?_
  refine V_lets fun s3 => ?_
  refine V_putR (host := "") 5 1 nf_5_1 ty_5_1 (Or.inl ⟨fl_X5_15, Or.inr ⟨rfl, rfl, rfl⟩⟩) dec_X5_init.2.2.2.1 ?_
  refine V_lets fun s4 => ?_
  exact V_vret rfl dec_X5_init.2.2.2.2
theorem dec_X11_init : ((((((decode cX11_init 0 = .ok (.aload_n 0, 1) ∧ decode cX11_init 1 = .ok (.invokespecial 1, 3)) ∧ (decode cX11_init 4 = .ok (.aload_n 0, 1) ∧ decode cX11_init 5 = .ok (.sipush 800, 3))) ∧ ((decode cX11_init 8 = .ok (.newarray .byte, 2) ∧ decode cX11_init 10 = .ok (.putfield 9, 3)) ∧ (decode cX11_init 13 = .ok (.aload_n 0, 1) ∧ (decode cX11_init 14 = .ok (.iconst (-1), 1) ∧ decode cX11_init 15 = .ok (.putfield 13, 3))))) ∧ (((decode cX11_init 18 = .ok (.aload_n 0, 1) ∧ decode cX11_init 19 = .ok (.new 17, 3)) ∧ (decode cX11_init 22 = .ok (.dup, 1) ∧ (decode cX11_init 23 = .ok (.invokespecial 19, 3) ∧ decode cX11_init 26 = .ok (.putfield 20, 3)))) ∧ ((decode cX11_init 29 = .ok (.aload_n 0, 1) ∧ decode cX11_init 30 = .ok (.new 24, 3)) ∧ (decode cX11_init 33 = .ok (.dup, 1) ∧ (decode cX11_init 34 = .ok (.invokespecial 26, 3) ∧ decode cX11_init 37 = .ok (.putfield 27, 3)))))) ∧ ((((decode cX11_init 40 = .ok (.aload_n 0, 1) ∧ decode cX11_init 41 = .ok (.new 31, 3)) ∧ (decode cX11_init 44 = .ok (.dup, 1) ∧ decode cX11_init 45 = .ok (.aload_n 0, 1))) ∧ ((decode cX11_init 46 = .ok (.getfield 27, 3) ∧ decode cX11_init 49 = .ok (.invokespecial 33, 3)) ∧ (decode cX11_init 52 = .ok (.putfield 36, 3) ∧ (decode cX11_init 55 = .ok (.aload_n 0, 1) ∧ decode cX11_init 56 = .ok (.new 31, 3))))) ∧ (((decode cX11_init 59 = .ok (.dup, 1) ∧ decode cX11_init 60 = .ok (.aload_n 0, 1)) ∧ (decode cX11_init 61 = .ok (.getfield 27, 3) ∧ (decode cX11_init 64 = .ok (.invokespecial 33, 3) ∧ decode cX11_init 67 = .ok (.putfield 40, 3)))) ∧ ((decode cX11_init 70 = .ok (.aload_n 0, 1) ∧ decode cX11_init 71 = .ok (.new 43, 3)) ∧ (decode cX11_init 74 = .ok (.dup, 1) ∧ (decode cX11_init 75 = .ok (.invokespecial 45, 3) ∧ decode cX11_init 78 = .ok (.putfield 46, 3))))))) ∧ (((((decode cX11_init 81 = .ok (.aload_n 0, 1) ∧ decode cX11_init 82 = .ok (.new 50, 3)) ∧ (decode cX11_init 85 = .ok (.dup, 1) ∧ decode cX11_init 86 = .ok (.invokespecial 52, 3))) ∧ ((decode cX11_init 89 = .ok (.putfield 53, 3) ∧ decode cX11_init 92 = .ok (.aload_n 0, 1)) ∧ (decode cX11_init 93 = .ok (.new 57, 3) ∧ (decode cX11_init 96 = .ok (.dup, 1) ∧ decode cX11_init 97 = .ok (.invokespecial 59, 3))))) ∧ (((decode cX11_init 100 = .ok (.putfield 60, 3) ∧ decode cX11_init 103 = .ok (.aload_n 0, 1)) ∧ (decode cX11_init 104 = .ok (.new 64, 3) ∧ (decode cX11_init 107 = .ok (.dup, 1) ∧ decode cX11_init 108 = .ok (.invokespecial 66, 3)))) ∧ ((decode cX11_init 111 = .ok (.putfield 67, 3) ∧ decode cX11_init 114 = .ok (.aload_n 0, 1)) ∧ (decode cX11_init 115 = .ok (.new 71, 3) ∧ (decode cX11_init 118 = .ok (.dup, 1) ∧ decode cX11_init 119 = .ok (.invokespecial 73, 3)))))) ∧ ((((decode cX11_init 122 = .ok (.putfield 74, 3) ∧ decode cX11_init 125 = .ok (.aload_n 0, 1)) ∧ (decode cX11_init 126 = .ok (.iconst 3, 1) ∧ (decode cX11_init 127 = .ok (.anewarray 78, 3) ∧ decode cX11_init 130 = .ok (.putfield 80, 3)))) ∧ ((decode cX11_init 133 = .ok (.iconst 0, 1) ∧ decode cX11_init 134 = .ok (.istore_n 1, 1)) ∧ (decode cX11_init 135 = .ok (.iload_n 1, 1) ∧ (decode cX11_init 136 = .ok (.iconst 3, 1) ∧ decode cX11_init 137 = .ok (.if_icmp .ge 22, 3))))) ∧ (((decode cX11_init 140 = .ok (.aload_n 0, 1) ∧ decode cX11_init 141 = .ok (.getfield 80, 3)) ∧ (decode cX11_init 144 = .ok (.iload_n 1, 1) ∧ (decode cX11_init 145 = .ok (.new 78, 3) ∧ decode cX11_init 148 = .ok (.dup, 1)))) ∧ ((decode cX11_init 149 = .ok (.invokespecial 84, 3) ∧ decode cX11_init 152 = .ok (.aastore, 1)) ∧ (decode cX11_init 153 = .ok (.iinc 1 1, 3) ∧ (decode cX11_init 156 = .ok (.goto (-21), 3) ∧ decode cX11_init 159 = .ok (.return_, 1)))))))) := ⟨⟨⟨by decide +kernel, by decide +kernel⟩, ⟨by decide +kernel, by decide +kernel⟩⟩, ⟨⟨by decide +kernel, by decide +kernel⟩, ⟨by decide +kernel, by decide +kernel⟩⟩⟩
def X11_init_b135_body (rk135 : St → Int → Int → Rs) (s : St) (x0 x1 : Int) : Rs :=
  if (3 : Int) ≤ x1 then (some (0, s)) else (grd (isK s 21 x0) (grd (s.1.1 < 1000000) (lets (nw s 16 4) (fun s42 => grd (isK s42 16 (s.1.1 : Int)) (bnd (X6_init s42 (s.1.1 : Int)) (fun r43 s44 => grd ((isK s44 4 (gR s x0 14) ∧ 0 ≤ x1 ∧ x1 < ln s44 (gR s x0 14)) ∧ isK s44 16 (s.1.1 : Int)) (lets (pR s44 (gR s x0 14) x1.toNat (s.1.1 : Int)) (fun s45 => rk135 s45 x0 (w32 (x1 + 1))))))))))
def X11_init_b135 (n : Nat) (s : St) (x0 x1 : Int) : Rs := iter (fun (rec : St × Int × Int → Rs) (a : St × Int × Int) => X11_init_b135_body (fun (s : St) (x0 x1 : Int) => rec (s, x0, x1)) a.1 a.2.1 a.2.2) n (s, x0, x1)
theorem X11_init_b135_0 (s : St) (x0 x1 : Int) : X11_init_b135 0 s x0 x1 = none := rfl
theorem X11_init_b135_1 (n : Nat) (s : St) (x0 x1 : Int) : X11_init_b135 (n + 1) s x0 x1 = X11_init_b135_body (X11_init_b135 n) s x0 x1 := rfl
set_option maxRecDepth 100000 in
set_option maxHeartbeats 4000000 in
theorem X11_init_b135_body_s (G : Gx) (l : Launch) (rk135 : St → Int → Int → Rs) (hk135 : ∀ (s : St) (x0 x1 : Int), V G l mX11_init 135 [(0, (2, x0)), (1, (0, x1))] [] s (rk135 s x0 x1)) (s : St) (x0 x1 : Int) : V G l mX11_init 135 [(0, (2, x0)), (1, (0, x1))] [] s (X11_init_b135_body rk135 s x0 x1) := by
  unfold X11_init_b135_body
  refine V_iload_n dec_X11_init.2.2.1.2.2.1 1 rfl ?_
  refine V_iconst dec_X11_init.2.2.1.2.2.2.1 rfl ?_
  refine V_icmp_ge (tgt := 159) dec_X11_init.2.2.1.2.2.2.2 (by decide) ?_ ?_
  · exact V_vret rfl dec_X11_init.2.2.2.2.2.2.2
  · refine V_aload_n dec_X11_init.2.2.2.1.1.1 0 rfl ?_
    refine V_getR 11 14 nf_11_14 ft_11_14 fl_X11_80 dec_X11_init.2.2.2.1.1.2 ?_
    refine V_iload_n dec_X11_init.2.2.2.1.2.1 1 rfl ?_
    refine V_new 6 (RX6, TX6, 4) rfl cl_X11_78 in_X6 iz_X6 dec_X11_init.2.2.2.1.2.2.1 ?_
    refine V_lets fun s42 => ?_
    refine V_dup (nl2 _) dec_X11_init.2.2.2.1.2.2.2 ?_
    refine V_callI0 (ci := 6) (a := (s.1.1 : Int)) (As := []) (st := [(2, (s.1.1 : Int)), (0, x1), (2, (gR s x0 14))]) (host := RX11) rfl rfl (X6_init_s G l s42 (s.1.1 : Int)) cal_X6_init rfl (Or.inr ml_X11_84) rfl rfl dec_X11_init.2.2.2.2.1.1 (fun r43 s44 => ?_)
    refine V_aast dec_X11_init.2.2.2.2.1.2 ?_
    refine V_lets fun s45 => ?_
    refine V_iinc (lv' := [(1, (0, (w32 (x1 + 1)))), (0, (2, x0))]) dec_X11_init.2.2.2.2.2.1 1 rfl (by decide) rfl ?_
    refine V_goto (tgt := 135) dec_X11_init.2.2.2.2.2.2.1 (by decide) ?_
    exact V_pick [1, 0] rfl (hk135 s45 x0 (w32 (x1 + 1)))
theorem X11_init_b135_s (G : Gx) (l : Launch) (n : Nat) (s : St) (x0 x1 : Int) : V G l mX11_init 135 [(0, (2, x0)), (1, (0, x1))] [] s (X11_init_b135 n s x0 x1) :=
  V_iter (LV := fun a : St × Int × Int => [(0, (2, a.2.1)), (1, (0, a.2.2))]) (ST := fun a : St × Int × Int => []) (SS := fun a : St × Int × Int => a.1) (fun rec hrec a => X11_init_b135_body_s G l (fun (s : St) (x0 x1 : Int) => rec (s, x0, x1)) (fun (s : St) (x0 x1 : Int) => hrec (s, x0, x1)) a.1 a.2.1 a.2.2) n (s, x0, x1)
def X11_init (s : St) (a0 : Int) : Rs :=
  grd (isK s 21 a0) (grd (s.1.1 < 1000000 ∧ 0 ≤ (800 : Int) ∧ (800 : Int) ≤ 100000) (lets (nw s 2 (800 : Int).toNat) (fun s1 => grd (isK s1 21 a0) (lets (pR s1 a0 0 (s.1.1 : Int)) (fun s2 => grd (isK s2 21 a0) (lets (pI s2 a0 4 (-1)) (fun s3 => grd (s3.1.1 < 1000000) (lets (nw s3 14 7) (fun s4 => grd (isK s4 14 (s3.1.1 : Int)) (bnd (X4_init s4 (s3.1.1 : Int)) (fun r5 s6 => grd (isK s6 21 a0) (lets (pR s6 a0 5 (s3.1.1 : Int)) (fun s7 => grd (s7.1.1 < 1000000) (lets (nw s7 19 14) (fun s8 => grd (isK s8 19 (s7.1.1 : Int)) (bnd (X9_init s8 (s7.1.1 : Int)) (fun r9 s10 => grd (isK s10 21 a0) (lets (pR s10 a0 6 (s7.1.1 : Int)) (fun s11 => grd (s11.1.1 < 1000000) (lets (nw s11 20 3) (fun s12 => grd (isK s12 21 a0) (grd (isK s12 20 (s11.1.1 : Int)) (bnd (X10_init s12 (s11.1.1 : Int) (gR s12 a0 6)) (fun r13 s14 => grd (isK s14 21 a0) (lets (pR s14 a0 7 (s11.1.1 : Int)) (fun s15 => grd (s15.1.1 < 1000000) (lets (nw s15 20 3) (fun s16 => grd (isK s16 21 a0) (grd (isK s16 20 (s15.1.1 : Int)) (bnd (X10_init s16 (s15.1.1 : Int) (gR s16 a0 6)) (fun r17 s18 => grd (isK s18 21 a0) (lets (pR s18 a0 8 (s15.1.1 : Int)) (fun s19 => grd (s19.1.1 < 1000000) (lets (nw s19 15 3) (fun s20 => grd (isK s20 15 (s19.1.1 : Int)) (bnd (X5_init s20 (s19.1.1 : Int)) (fun r21 s22 => grd (isK s22 21 a0) (lets (pR s22 a0 9 (s19.1.1 : Int)) (fun s23 => grd (s23.1.1 < 1000000) (lets (nw s23 10 5) (fun s24 => grd (isK s24 10 (s23.1.1 : Int)) (bnd (X0_init s24 (s23.1.1 : Int)) (fun r25 s26 => grd (isK s26 21 a0) (lets (pR s26 a0 10 (s23.1.1 : Int)) (fun s27 => grd (s27.1.1 < 1000000) (lets (nw s27 11 3) (fun s28 => grd (isK s28 11 (s27.1.1 : Int)) (bnd (X1_init s28 (s27.1.1 : Int)) (fun r29 s30 => grd (isK s30 21 a0) (lets (pR s30 a0 11 (s27.1.1 : Int)) (fun s31 => grd (s31.1.1 < 1000000) (lets (nw s31 12 2) (fun s32 => grd (isK s32 12 (s31.1.1 : Int)) (bnd (X2_init s32 (s31.1.1 : Int)) (fun r33 s34 => grd (isK s34 21 a0) (lets (pR s34 a0 12 (s31.1.1 : Int)) (fun s35 => grd (s35.1.1 < 1000000) (lets (nw s35 13 4) (fun s36 => grd (isK s36 13 (s35.1.1 : Int)) (bnd (X3_init s36 (s35.1.1 : Int)) (fun r37 s38 => grd (isK s38 21 a0) (lets (pR s38 a0 13 (s35.1.1 : Int)) (fun s39 => grd (s39.1.1 < 1000000 ∧ 0 ≤ (3 : Int) ∧ (3 : Int) ≤ 100000) (lets (nw s39 4 (3 : Int).toNat) (fun s40 => grd (isK s40 21 a0) (lets (pR s40 a0 14 (s39.1.1 : Int)) (fun s41 => X11_init_b135 FU s41 a0 0)))))))))))))))))))))))))))))))))))))))))))))))))))))))))))))))))))
set_option maxRecDepth 100000 in
set_option maxHeartbeats 4000000 in
theorem X11_init_s (G : Gx) (l : Launch) (s : St) (a0 : Int) : Snd G l mX11_init [(2, a0)] s (X11_init s a0) := by
  refine Snd.of (by decide +kernel) rfl ?_
  show V G l mX11_init 0 [(0, (2, a0))] [] s _
  unfold X11_init
  refine V_aload_n dec_X11_init.1.1.1.1.1.1 0 rfl ?_
  refine V_objInit (ci := 11) ml_X11_1 oi_inst oi_code rfl rfl dec_X11_init.1.1.1.1.1.2 ?_
  refine V_aload_n dec_X11_init.1.1.1.1.2.1 0 rfl ?_
  refine V_sipush dec_X11_init.1.1.1.1.2.2 rfl ?_
  refine V_newarr (at0 := .byte) (by decide) ac_byte dec_X11_init.1.1.1.2.1.1 ?_
  refine V_lets fun s1 => ?_
  refine V_putR (host := "") 11 0 nf_11_0 ty_11_0 (Or.inl ⟨fl_X11_9, Or.inr ⟨rfl, rfl, rfl⟩⟩) dec_X11_init.1.1.1.2.1.2 ?_
  refine V_lets fun s2 => ?_
  refine V_aload_n dec_X11_init.1.1.1.2.2.1 0 rfl ?_
  refine V_iconst dec_X11_init.1.1.1.2.2.2.1 rfl ?_
  refine V_putI (host := "") 11 4 nf_11_4 ty_11_4 (Or.inl ⟨fl_X11_13, Or.inl rfl⟩) dec_X11_init.1.1.1.2.2.2.2 ?_
  refine V_lets fun s3 => ?_
  refine V_aload_n dec_X11_init.1.1.2.1.1.1 0 rfl ?_
  refine V_new 4 (RX4, TX4, 7) rfl cl_X11_17 in_X4 iz_X4 dec_X11_init.1.1.2.1.1.2 ?_
  refine V_lets fun s4 => ?_
  refine V_dup (nl2 _) dec_X11_init.1.1.2.1.2.1 ?_
  refine V_callI0 (ci := 4) (a := (s3.1.1 : Int)) (As := []) (st := [(2, (s3.1.1 : Int)), (2, a0)]) (host := RX11) rfl rfl (X4_init_s G l s4 (s3.1.1 : Int)) cal_X4_init rfl (Or.inr ml_X11_19) rfl rfl dec_X11_init.1.1.2.1.2.2.1 (fun r5 s6 => ?_)
  refine V_putR (host := "") 11 5 nf_11_5 ty_11_5 (Or.inl ⟨fl_X11_20, Or.inr ⟨rfl, rfl, rfl⟩⟩) dec_X11_init.1.1.2.1.2.2.2 ?_
  refine V_lets fun s7 => ?_
  refine V_aload_n dec_X11_init.1.1.2.2.1.1 0 rfl ?_
  refine V_new 9 (RX9, TX9, 14) rfl cl_X11_24 in_X9 iz_X9 dec_X11_init.1.1.2.2.1.2 ?_
  refine V_lets fun s8 => ?_
  refine V_dup (nl2 _) dec_X11_init.1.1.2.2.2.1 ?_
  refine V_callI0 (ci := 9) (a := (s7.1.1 : Int)) (As := []) (st := [(2, (s7.1.1 : Int)), (2, a0)]) (host := RX11) rfl rfl (X9_init_s G l s8 (s7.1.1 : Int)) cal_X9_init rfl (Or.inr ml_X11_26) rfl rfl dec_X11_init.1.1.2.2.2.2.1 (fun r9 s10 => ?_)
  refine V_putR (host := "") 11 6 nf_11_6 ty_11_6 (Or.inl ⟨fl_X11_27, Or.inr ⟨rfl, rfl, rfl⟩⟩) dec_X11_init.1.1.2.2.2.2.2 ?_
  refine V_lets fun s11 => ?_
  refine V_aload_n dec_X11_init.1.2.1.1.1.1 0 rfl ?_
  refine V_new 10 (RX10, TX10, 3) rfl cl_X11_31 in_X10 iz_X10 dec_X11_init.1.2.1.1.1.2 ?_
  refine V_lets fun s12 => ?_
  refine V_dup (nl2 _) dec_X11_init.1.2.1.1.2.1 ?_
  refine V_aload_n dec_X11_init.1.2.1.1.2.2 0 rfl ?_
  refine V_getR 11 6 nf_11_6 ft_11_6 fl_X11_27 dec_X11_init.1.2.1.2.1.1 ?_
  refine V_callI0 (ci := 10) (a := (s11.1.1 : Int)) (As := [(2, (gR s12 a0 6))]) (st := [(2, (s11.1.1 : Int)), (2, a0)]) (host := "") rfl rfl (X10_init_s G l s12 (s11.1.1 : Int) (gR s12 a0 6)) cal_X10_init rfl (Or.inl ml_X11_33) rfl rfl dec_X11_init.1.2.1.2.1.2 (fun r13 s14 => ?_)
  refine V_putR (host := "") 11 7 nf_11_7 ty_11_7 (Or.inl ⟨fl_X11_36, Or.inr ⟨rfl, rfl, rfl⟩⟩) dec_X11_init.1.2.1.2.2.1 ?_
  refine V_lets fun s15 => ?_
  refine V_aload_n dec_X11_init.1.2.1.2.2.2.1 0 rfl ?_
  refine V_new 10 (RX10, TX10, 3) rfl cl_X11_31 in_X10 iz_X10 dec_X11_init.1.2.1.2.2.2.2 ?_
  refine V_lets fun s16 => ?_
  refine V_dup (nl2 _) dec_X11_init.1.2.2.1.1.1 ?_
  refine V_aload_n dec_X11_init.1.2.2.1.1.2 0 rfl ?_
  refine V_getR 11 6 nf_11_6 ft_11_6 fl_X11_27 dec_X11_init.1.2.2.1.2.1 ?_
  refine V_callI0 (ci := 10) (a := (s15.1.1 : Int)) (As := [(2, (gR s16 a0 6))]) (st := [(2, (s15.1.1 : Int)), (2, a0)]) (host := "") rfl rfl (X10_init_s G l s16 (s15.1.1 : Int) (gR s16 a0 6)) cal_X10_init rfl (Or.inl ml_X11_33) rfl rfl dec_X11_init.1.2.2.1.2.2.1 (fun r17 s18 => ?_)
  refine V_putR (host := "") 11 8 nf_11_8 ty_11_8 (Or.inl ⟨fl_X11_40, Or.inr ⟨rfl, rfl, rfl⟩⟩) dec_X11_init.1.2.2.1.2.2.2 ?_
  refine V_lets fun s19 => ?_
  refine V_aload_n dec_X11_init.1.2.2.2.1.1 0 rfl ?_
  refine V_new 5 (RX5, TX5, 3) rfl cl_X11_43 in_X5 iz_X5 dec_X11_init.1.2.2.2.1.2 ?_
  refine V_lets fun s20 => ?_
  refine V_dup (nl2 _) dec_X11_init.1.2.2.2.2.1 ?_
  refine V_callI0 (ci := 5) (a := (s19.1.1 : Int)) (As := []) (st := [(2, (s19.1.1 : Int)), (2, a0)]) (host := RX11) rfl rfl (X5_init_s G l s20 (s19.1.1 : Int)) cal_X5_init rfl (Or.inr ml_X11_45) rfl rfl dec_X11_init.1.2.2.2.2.2.1 (fun r21 s22 => ?_)
  refine V_putR (host := "") 11 9 nf_11_9 ty_11_9 (Or.inl ⟨fl_X11_46, Or.inr ⟨rfl, rfl, rfl⟩⟩) dec_X11_init.1.2.2.2.2.2.2 ?_
  refine V_lets fun s23 => ?_
  refine V_aload_n dec_X11_init.2.1.1.1.1.1 0 rfl ?_
  refine V_new 0 (RX0, TX0, 5) rfl cl_X11_50 in_X0 iz_X0 dec_X11_init.2.1.1.1.1.2 ?_
  refine V_lets fun s24 => ?_
  refine V_dup (nl2 _) dec_X11_init.2.1.1.1.2.1 ?_
  refine V_callI0 (ci := 0) (a := (s23.1.1 : Int)) (As := []) (st := [(2, (s23.1.1 : Int)), (2, a0)]) (host := "") rfl rfl (X0_init_s G l s24 (s23.1.1 : Int)) cal_X0_init rfl (Or.inl ml_X11_52) rfl rfl dec_X11_init.2.1.1.1.2.2 (fun r25 s26 => ?_)
  refine V_putR (host := "") 11 10 nf_11_10 ty_11_10 (Or.inl ⟨fl_X11_53, Or.inr ⟨rfl, rfl, rfl⟩⟩) dec_X11_init.2.1.1.2.1.1 ?_
  refine V_lets fun s27 => ?_
  refine V_aload_n dec_X11_init.2.1.1.2.1.2 0 rfl ?_
  refine V_new 1 (RX1, TX1, 3) rfl cl_X11_57 in_X1 iz_X1 dec_X11_init.2.1.1.2.2.1 ?_
  refine V_lets fun s28 => ?_
  refine V_dup (nl2 _) dec_X11_init.2.1.1.2.2.2.1 ?_
  refine V_callI0 (ci := 1) (a := (s27.1.1 : Int)) (As := []) (st := [(2, (s27.1.1 : Int)), (2, a0)]) (host := RX11) rfl rfl (X1_init_s G l s28 (s27.1.1 : Int)) cal_X1_init rfl (Or.inr ml_X11_59) rfl rfl dec_X11_init.2.1.1.2.2.2.2 (fun r29 s30 => ?_)
  refine V_putR (host := "") 11 11 nf_11_11 ty_11_11 (Or.inl ⟨fl_X11_60, Or.inr ⟨rfl, rfl, rfl⟩⟩) dec_X11_init.2.1.2.1.1.1 ?_
  refine V_lets fun s31 => ?_
  refine V_aload_n dec_X11_init.2.1.2.1.1.2 0 rfl ?_
  refine V_new 2 (RX2, TX2, 2) rfl cl_X11_64 in_X2 iz_X2 dec_X11_init.2.1.2.1.2.1 ?_
  refine V_lets fun s32 => ?_
  refine V_dup (nl2 _) dec_X11_init.2.1.2.1.2.2.1 ?_
  refine V_callI0 (ci := 2) (a := (s31.1.1 : Int)) (As := []) (st := [(2, (s31.1.1 : Int)), (2, a0)]) (host := RX11) rfl rfl (X2_init_s G l s32 (s31.1.1 : Int)) cal_X2_init rfl (Or.inr ml_X11_66) rfl rfl dec_X11_init.2.1.2.1.2.2.2 (fun r33 s34 => ?_)
  refine V_putR (host := "") 11 12 nf_11_12 ty_11_12 (Or.inl ⟨fl_X11_67, Or.inr ⟨rfl, rfl, rfl⟩⟩) dec_X11_init.2.1.2.2.1.1 ?_
  refine V_lets fun s35 => ?_
  refine V_aload_n dec_X11_init.2.1.2.2.1.2 0 rfl ?_
  refine V_new 3 (RX3, TX3, 4) rfl cl_X11_71 in_X3 iz_X3 dec_X11_init.2.1.2.2.2.1 ?_
  refine V_lets fun s36 => ?_
  refine V_dup (nl2 _) dec_X11_init.2.1.2.2.2.2.1 ?_
  refine V_callI0 (ci := 3) (a := (s35.1.1 : Int)) (As := []) (st := [(2, (s35.1.1 : Int)), (2, a0)]) (host := RX11) rfl rfl (X3_init_s G l s36 (s35.1.1 : Int)) cal_X3_init rfl (Or.inr ml_X11_73) rfl rfl dec_X11_init.2.1.2.2.2.2.2 (fun r37 s38 => ?_)
  refine V_putR (host := "") 11 13 nf_11_13 ty_11_13 (Or.inl ⟨fl_X11_74, Or.inr ⟨rfl, rfl, rfl⟩⟩) dec_X11_init.2.2.1.1.1.1 ?_
  refine V_lets fun s39 => ?_
  refine V_aload_n dec_X11_init.2.2.1.1.1.2 0 rfl ?_
  refine V_iconst dec_X11_init.2.2.1.1.2.1 rfl ?_
  refine V_anew cl_X11_78 dec_X11_init.2.2.1.1.2.2.1 ?_
  refine V_lets fun s40 => ?_
  refine V_putR (host := "") 11 14 nf_11_14 ty_11_14 (Or.inl ⟨fl_X11_80, Or.inr ⟨rfl, rfl, rfl⟩⟩) dec_X11_init.2.2.1.1.2.2.2 ?_
  refine V_lets fun s41 => ?_
  refine V_iconst dec_X11_init.2.2.1.2.1.1 rfl ?_
  refine V_istore_n (lv' := [(1, (0, 0)), (0, (2, a0))]) dec_X11_init.2.2.1.2.1.2 (by decide) rfl ?_
  exact V_pick [1, 0] rfl (X11_init_b135_s G l FU s41 a0 0)
theorem dec_X11_sweepTalks : (((decode cX11_sweepTalks 0 = .ok (.iload_n 0, 1) ∧ decode cX11_sweepTalks 1 = .ok (.iconst 1, 1)) ∧ (decode cX11_sweepTalks 2 = .ok (.iand, 1) ∧ decode cX11_sweepTalks 3 = .ok (.ifCond .eq 7, 3))) ∧ ((decode cX11_sweepTalks 6 = .ok (.iconst 1, 1) ∧ decode cX11_sweepTalks 7 = .ok (.goto 4, 3)) ∧ (decode cX11_sweepTalks 10 = .ok (.iconst 0, 1) ∧ decode cX11_sweepTalks 11 = .ok (.ireturn, 1)))) := by decide +kernel
def X11_sweepTalks_b11 (s : St) (k0 : Int) : Rs :=
  grd (k0 = 0 ∨ k0 = 1) (some (k0, s))
set_option maxRecDepth 100000 in
set_option maxHeartbeats 4000000 in
theorem X11_sweepTalks_b11_s (G : Gx) (l : Launch) (s : St) (k0 : Int) : V G l mX11_sweepTalks 11 [] [(0, k0)] s (X11_sweepTalks_b11 s k0) := by
  unfold X11_sweepTalks_b11
  exact V_zret rfl dec_X11_sweepTalks.2.2.2
def X11_sweepTalks (s : St) (a0 : Int) : Rs :=
  if (and32 a0 1) = 0 then (X11_sweepTalks_b11 s 0) else (X11_sweepTalks_b11 s 1)
set_option maxRecDepth 100000 in
set_option maxHeartbeats 4000000 in
theorem X11_sweepTalks_s (G : Gx) (l : Launch) (s : St) (a0 : Int) : Snd G l mX11_sweepTalks [(0, a0)] s (X11_sweepTalks s a0) := by
  refine Snd.of (by decide +kernel) rfl ?_
  show V G l mX11_sweepTalks 0 [(0, (0, a0))] [] s _
  unfold X11_sweepTalks
  refine V_iload_n dec_X11_sweepTalks.1.1.1 0 rfl ?_
  refine V_iconst dec_X11_sweepTalks.1.1.2 rfl ?_
  refine V_iand dec_X11_sweepTalks.1.2.1 ?_
  refine V_if_eq (tgt := 10) dec_X11_sweepTalks.1.2.2 (by decide) ?_ ?_
  · refine V_iconst dec_X11_sweepTalks.2.2.1 rfl ?_
    exact V_pick [] rfl (X11_sweepTalks_b11_s G l s 0)
  · refine V_iconst dec_X11_sweepTalks.2.1.1 rfl ?_
    refine V_goto (tgt := 11) dec_X11_sweepTalks.2.1.2 (by decide) ?_
    exact V_pick [] rfl (X11_sweepTalks_b11_s G l s 1)
theorem dec_X11_isRest : (((((decode cX11_isRest 0 = .ok (.iload_n 0, 1) ∧ decode cX11_isRest 1 = .ok (.invokestatic 309, 3)) ∧ (decode cX11_isRest 4 = .ok (.istore_n 2, 1) ∧ decode cX11_isRest 5 = .ok (.iload_n 0, 1))) ∧ ((decode cX11_isRest 6 = .ok (.invokestatic 312, 3) ∧ decode cX11_isRest 9 = .ok (.istore_n 3, 1)) ∧ (decode cX11_isRest 10 = .ok (.iload_n 2, 1) ∧ (decode cX11_isRest 11 = .ok (.iload_n 3, 1) ∧ decode cX11_isRest 12 = .ok (.iload_n 1, 1))))) ∧ (((decode cX11_isRest 13 = .ok (.invokestatic 302, 3) ∧ decode cX11_isRest 16 = .ok (.iload_n 2, 1)) ∧ (decode cX11_isRest 17 = .ok (.ifCond .ne 7, 3) ∧ decode cX11_isRest 20 = .ok (.iconst 1, 1))) ∧ ((decode cX11_isRest 21 = .ok (.goto 4, 3) ∧ decode cX11_isRest 24 = .ok (.iconst 0, 1)) ∧ (decode cX11_isRest 25 = .ok (.iload_n 3, 1) ∧ (decode cX11_isRest 26 = .ok (.iload_n 1, 1) ∧ decode cX11_isRest 27 = .ok (.invokestatic 302, 3)))))) ∧ ((((decode cX11_isRest 30 = .ok (.if_icmp .lt 30, 3) ∧ decode cX11_isRest 33 = .ok (.iload_n 3, 1)) ∧ (decode cX11_isRest 34 = .ok (.iload_n 2, 1) ∧ decode cX11_isRest 35 = .ok (.iload_n 1, 1))) ∧ ((decode cX11_isRest 36 = .ok (.invokestatic 302, 3) ∧ decode cX11_isRest 39 = .ok (.iload_n 3, 1)) ∧ (decode cX11_isRest 40 = .ok (.ifCond .ne 7, 3) ∧ (decode cX11_isRest 43 = .ok (.iconst 1, 1) ∧ decode cX11_isRest 44 = .ok (.goto 4, 3))))) ∧ (((decode cX11_isRest 47 = .ok (.iconst 0, 1) ∧ decode cX11_isRest 48 = .ok (.iload_n 2, 1)) ∧ (decode cX11_isRest 49 = .ok (.iload_n 1, 1) ∧ decode cX11_isRest 50 = .ok (.invokestatic 302, 3))) ∧ ((decode cX11_isRest 53 = .ok (.if_icmp .lt 7, 3) ∧ decode cX11_isRest 56 = .ok (.iconst 1, 1)) ∧ (decode cX11_isRest 57 = .ok (.goto 4, 3) ∧ (decode cX11_isRest 60 = .ok (.iconst 0, 1) ∧ decode cX11_isRest 61 = .ok (.ireturn, 1))))))) := ⟨⟨by decide +kernel, by decide +kernel⟩, ⟨by decide +kernel, by decide +kernel⟩⟩
def X11_isRest_b61 (s : St) (k0 : Int) : Rs :=
  grd (k0 = 0 ∨ k0 = 1) (some (k0, s))
set_option maxRecDepth 100000 in
set_option maxHeartbeats 4000000 in
theorem X11_isRest_b61_s (G : Gx) (l : Launch) (s : St) (k0 : Int) : V G l mX11_isRest 61 [] [(0, k0)] s (X11_isRest_b61 s k0) := by
  unfold X11_isRest_b61
  exact V_zret rfl dec_X11_isRest.2.2.2.2.2.2
def X11_isRest_b60 (s : St) : Rs :=
  X11_isRest_b61 s 0
set_option maxRecDepth 100000 in
set_option maxHeartbeats 4000000 in
theorem X11_isRest_b60_s (G : Gx) (l : Launch) (s : St) : V G l mX11_isRest 60 [] [] s (X11_isRest_b60 s) := by
  unfold X11_isRest_b60
  refine V_iconst dec_X11_isRest.2.2.2.2.2.1 rfl ?_
  exact V_pick [] rfl (X11_isRest_b61_s G l s 0)
def X11_isRest_b48 (s : St) (x1 x2 k0 k1 : Int) : Rs :=
  bnd (X11_gain s k0 x2 x1) (fun r11 s12 => if k1 < r11 then (X11_isRest_b60 s12) else (X11_isRest_b61 s12 1))
set_option maxRecDepth 100000 in
set_option maxHeartbeats 4000000 in
theorem X11_isRest_b48_s (G : Gx) (l : Launch) (s : St) (x1 x2 k0 k1 : Int) : V G l mX11_isRest 48 [(1, (0, x1)), (2, (0, x2))] [(0, k0), (0, k1)] s (X11_isRest_b48 s x1 x2 k0 k1) := by
  unfold X11_isRest_b48
  refine V_iload_n dec_X11_isRest.2.2.1.1.2 1 rfl ?_
  refine V_iload_n dec_X11_isRest.2.2.1.2.1 0 rfl ?_
  refine V_callS0 (As := [(0, k0), (0, x2), (0, x1)]) (st := [(0, k1)]) (host := "") rfl (X11_gain_s G l s k0 x2 x1) cal_X11_gain rfl (Or.inl ml_X11_302) rfl rfl dec_X11_isRest.2.2.1.2.2 (k_tag (tag := 0) rfl fun r11 s12 => ?_)
  refine V_icmp_lt (tgt := 60) dec_X11_isRest.2.2.2.1.1 (by decide) ?_ ?_
  · exact V_pick [] rfl (X11_isRest_b60_s G l s12)
  · refine V_iconst dec_X11_isRest.2.2.2.1.2 rfl ?_
    refine V_goto (tgt := 61) dec_X11_isRest.2.2.2.2.1 (by decide) ?_
    exact V_pick [] rfl (X11_isRest_b61_s G l s12 1)
def X11_isRest_b25 (s : St) (x1 x2 x3 k0 k1 : Int) : Rs :=
  bnd (X11_gain s k0 x3 x1) (fun r7 s8 => if k1 < r7 then (X11_isRest_b60 s8) else (bnd (X11_gain s8 x3 x2 x1) (fun r9 s10 => if ¬ x3 = 0 then (X11_isRest_b48 s10 x1 x2 0 r9) else (X11_isRest_b48 s10 x1 x2 1 r9))))
set_option maxRecDepth 100000 in
set_option maxHeartbeats 4000000 in
theorem X11_isRest_b25_s (G : Gx) (l : Launch) (s : St) (x1 x2 x3 k0 k1 : Int) : V G l mX11_isRest 25 [(1, (0, x1)), (2, (0, x2)), (3, (0, x3))] [(0, k0), (0, k1)] s (X11_isRest_b25 s x1 x2 x3 k0 k1) := by
  unfold X11_isRest_b25
  refine V_iload_n dec_X11_isRest.1.2.2.2.1 2 rfl ?_
  refine V_iload_n dec_X11_isRest.1.2.2.2.2.1 0 rfl ?_
  refine V_callS0 (As := [(0, k0), (0, x3), (0, x1)]) (st := [(0, k1)]) (host := "") rfl (X11_gain_s G l s k0 x3 x1) cal_X11_gain rfl (Or.inl ml_X11_302) rfl rfl dec_X11_isRest.1.2.2.2.2.2 (k_tag (tag := 0) rfl fun r7 s8 => ?_)
  refine V_icmp_lt (tgt := 60) dec_X11_isRest.2.1.1.1.1 (by decide) ?_ ?_
  · exact V_pick [] rfl (X11_isRest_b60_s G l s8)
  · refine V_iload_n dec_X11_isRest.2.1.1.1.2 2 rfl ?_
    refine V_iload_n dec_X11_isRest.2.1.1.2.1 1 rfl ?_
    refine V_iload_n dec_X11_isRest.2.1.1.2.2 0 rfl ?_
    refine V_callS0 (As := [(0, x3), (0, x2), (0, x1)]) (st := []) (host := "") rfl (X11_gain_s G l s8 x3 x2 x1) cal_X11_gain rfl (Or.inl ml_X11_302) rfl rfl dec_X11_isRest.2.1.2.1.1 (k_tag (tag := 0) rfl fun r9 s10 => ?_)
    refine V_iload_n dec_X11_isRest.2.1.2.1.2 2 rfl ?_
    refine V_if_ne (tgt := 47) dec_X11_isRest.2.1.2.2.1 (by decide) ?_ ?_
    · refine V_iconst dec_X11_isRest.2.2.1.1.1 rfl ?_
      exact V_pick [0, 1] rfl (X11_isRest_b48_s G l s10 x1 x2 0 r9)
    · refine V_iconst dec_X11_isRest.2.1.2.2.2.1 rfl ?_
      refine V_goto (tgt := 48) dec_X11_isRest.2.1.2.2.2.2 (by decide) ?_
      exact V_pick [0, 1] rfl (X11_isRest_b48_s G l s10 x1 x2 1 r9)
def X11_isRest (s : St) (a0 a1 : Int) : Rs :=
  bnd (X11_bishopTalks s a0) (fun r1 s2 => bnd (X11_sweepTalks s2 a0) (fun r3 s4 => bnd (X11_gain s4 r1 r3 a1) (fun r5 s6 => if ¬ r1 = 0 then (X11_isRest_b25 s6 a1 r1 r3 0 r5) else (X11_isRest_b25 s6 a1 r1 r3 1 r5))))
set_option maxRecDepth 100000 in
set_option maxHeartbeats 4000000 in
theorem X11_isRest_s (G : Gx) (l : Launch) (s : St) (a0 a1 : Int) : Snd G l mX11_isRest [(0, a0), (0, a1)] s (X11_isRest s a0 a1) := by
  refine Snd.of (by decide +kernel) rfl ?_
  show V G l mX11_isRest 0 [(0, (0, a0)), (1, (0, a1))] [] s _
  unfold X11_isRest
  refine V_iload_n dec_X11_isRest.1.1.1.1.1 0 rfl ?_
  refine V_callS0 (As := [(0, a0)]) (st := []) (host := "") rfl (X11_bishopTalks_s G l s a0) cal_X11_bishopTalks rfl (Or.inl ml_X11_309) rfl rfl dec_X11_isRest.1.1.1.1.2 (k_tag (tag := 0) rfl fun r1 s2 => ?_)
  refine V_istore_n (lv' := [(2, (0, r1)), (0, (0, a0)), (1, (0, a1))]) dec_X11_isRest.1.1.1.2.1 (by decide) rfl ?_
  refine V_iload_n dec_X11_isRest.1.1.1.2.2 1 rfl ?_
  refine V_callS0 (As := [(0, a0)]) (st := []) (host := "") rfl (X11_sweepTalks_s G l s2 a0) cal_X11_sweepTalks rfl (Or.inl ml_X11_312) rfl rfl dec_X11_isRest.1.1.2.1.1 (k_tag (tag := 0) rfl fun r3 s4 => ?_)
  refine V_istore_n (lv' := [(3, (0, r3)), (2, (0, r1)), (0, (0, a0)), (1, (0, a1))]) dec_X11_isRest.1.1.2.1.2 (by decide) rfl ?_
  refine V_iload_n dec_X11_isRest.1.1.2.2.1 1 rfl ?_
  refine V_iload_n dec_X11_isRest.1.1.2.2.2.1 0 rfl ?_
  refine V_iload_n dec_X11_isRest.1.1.2.2.2.2 3 rfl ?_
  refine V_callS0 (As := [(0, r1), (0, r3), (0, a1)]) (st := []) (host := "") rfl (X11_gain_s G l s4 r1 r3 a1) cal_X11_gain rfl (Or.inl ml_X11_302) rfl rfl dec_X11_isRest.1.2.1.1.1 (k_tag (tag := 0) rfl fun r5 s6 => ?_)
  refine V_iload_n dec_X11_isRest.1.2.1.1.2 1 rfl ?_
  refine V_if_ne (tgt := 24) dec_X11_isRest.1.2.1.2.1 (by decide) ?_ ?_
  · refine V_iconst dec_X11_isRest.1.2.2.1.2 rfl ?_
    exact V_pick [3, 1, 0] rfl (X11_isRest_b25_s G l s6 a1 r1 r3 0 r5)
  · refine V_iconst dec_X11_isRest.1.2.1.2.2 rfl ?_
    refine V_goto (tgt := 25) dec_X11_isRest.1.2.2.1.1 (by decide) ?_
    exact V_pick [3, 1, 0] rfl (X11_isRest_b25_s G l s6 a1 r1 r3 1 r5)
theorem dec_X11_judge : (((decode cX11_judge 0 = .ok (.aload_n 0, 1) ∧ (decode cX11_judge 1 = .ok (.aload_n 0, 1) ∧ decode cX11_judge 2 = .ok (.invokevirtual 203, 3))) ∧ (decode cX11_judge 5 = .ok (.iconst 0, 1) ∧ (decode cX11_judge 6 = .ok (.invokevirtual 92, 3) ∧ decode cX11_judge 9 = .ok (.ifCond .eq 5, 3)))) ∧ ((decode cX11_judge 12 = .ok (.iconst (-1), 1) ∧ (decode cX11_judge 13 = .ok (.ireturn, 1) ∧ decode cX11_judge 14 = .ok (.aload_n 0, 1))) ∧ (decode cX11_judge 15 = .ok (.getfield 60, 3) ∧ (decode cX11_judge 18 = .ok (.getfield 296, 3) ∧ decode cX11_judge 21 = .ok (.ireturn, 1))))) := by decide +kernel
def X11_judge (s : St) (a0 : Int) : Rs :=
  grd (isK s 21 a0) (bnd (X11_isNoTown s a0) (fun r1 s2 => grd (isK s2 21 a0) (bnd (X11_refused s2 a0 r1 0) (fun r3 s4 => if r3 = 0 then (grd (isK s4 21 a0) (grd (isK s4 11 (gR s4 a0 11)) (some ((gI s4 (gR s4 a0 11) 2), s4)))) else (some ((-1), s4))))))
set_option maxRecDepth 100000 in
set_option maxHeartbeats 4000000 in
theorem X11_judge_s (G : Gx) (l : Launch) (s : St) (a0 : Int) : Snd G l mX11_judge [(2, a0)] s (X11_judge s a0) := by
  refine Snd.of (by decide +kernel) rfl ?_
  show V G l mX11_judge 0 [(0, (2, a0))] [] s _
  unfold X11_judge
  refine V_aload_n dec_X11_judge.1.1.1 0 rfl ?_
  refine V_aload_n dec_X11_judge.1.1.2.1 0 rfl ?_
  refine V_callV0 (ci := 11) (a := a0) (As := []) (st := [(2, a0)]) rfl rfl (X11_isNoTown_s G l s a0) cal_X11_isNoTown rfl ml_X11_203 rfl rfl dec_X11_judge.1.1.2.2 (k_tag (tag := 0) rfl fun r1 s2 => ?_)
  refine V_iconst dec_X11_judge.1.2.1 rfl ?_
  refine V_callV0 (ci := 11) (a := a0) (As := [(0, r1), (0, 0)]) (st := []) rfl rfl (X11_refused_s G l s2 a0 r1 0) cal_X11_refused rfl ml_X11_92 rfl rfl dec_X11_judge.1.2.2.1 (k_tag (tag := 0) rfl fun r3 s4 => ?_)
  refine V_if_eq (tgt := 14) dec_X11_judge.1.2.2.2 (by decide) ?_ ?_
  · refine V_aload_n dec_X11_judge.2.1.2.2 0 rfl ?_
    refine V_getR 11 11 nf_11_11 ft_11_11 fl_X11_60 dec_X11_judge.2.2.1 ?_
    refine V_getI 1 2 nf_1_2 ft_1_2 fl_X11_296 dec_X11_judge.2.2.2.1 ?_
    exact V_iret rfl dec_X11_judge.2.2.2.2
  · refine V_iconst dec_X11_judge.2.1.1 rfl ?_
    exact V_iret rfl dec_X11_judge.2.1.2.1
theorem dec_X5_worthOf : (((decode cX5_worthOf 0 = .ok (.aload_n 0, 1) ∧ decode cX5_worthOf 1 = .ok (.getfield 9, 3)) ∧ (decode cX5_worthOf 4 = .ok (.iload_n 1, 1) ∧ decode cX5_worthOf 5 = .ok (.bipush 6, 2))) ∧ ((decode cX5_worthOf 7 = .ok (.imul, 1) ∧ decode cX5_worthOf 8 = .ok (.iload_n 2, 1)) ∧ (decode cX5_worthOf 9 = .ok (.iadd, 1) ∧ (decode cX5_worthOf 10 = .ok (.iaload, 1) ∧ decode cX5_worthOf 11 = .ok (.ireturn, 1))))) := by decide +kernel
def X5_worthOf (s : St) (a0 a1 a2 : Int) : Rs :=
  grd (isK s 15 a0) (grd (isK s 1 (gR s a0 0) ∧ 0 ≤ (w32 ((w32 (a1 * 6)) + a2)) ∧ (w32 ((w32 (a1 * 6)) + a2)) < ln s (gR s a0 0)) (some ((gI s (gR s a0 0) (w32 ((w32 (a1 * 6)) + a2)).toNat), s)))
set_option maxRecDepth 100000 in
set_option maxHeartbeats 4000000 in
theorem X5_worthOf_s (G : Gx) (l : Launch) (s : St) (a0 a1 a2 : Int) : Snd G l mX5_worthOf [(2, a0), (0, a1), (0, a2)] s (X5_worthOf s a0 a1 a2) := by
  refine Snd.of (by decide +kernel) rfl ?_
  show V G l mX5_worthOf 0 [(0, (2, a0)), (1, (0, a1)), (2, (0, a2))] [] s _
  unfold X5_worthOf
  refine V_aload_n dec_X5_worthOf.1.1.1 0 rfl ?_
  refine V_getR 5 0 nf_5_0 ft_5_0 fl_X5_9 dec_X5_worthOf.1.1.2 ?_
  refine V_iload_n dec_X5_worthOf.1.2.1 1 rfl ?_
  refine V_bipush dec_X5_worthOf.1.2.2 rfl ?_
  refine V_imul dec_X5_worthOf.2.1.1 ?_
  refine V_iload_n dec_X5_worthOf.2.1.2 2 rfl ?_
  refine V_iadd dec_X5_worthOf.2.2.1 ?_
  refine V_iald dec_X5_worthOf.2.2.2.1 ?_
  exact V_iret rfl dec_X5_worthOf.2.2.2.2
theorem dec_X5_isLiked : ((((decode cX5_isLiked 0 = .ok (.aload_n 0, 1) ∧ decode cX5_isLiked 1 = .ok (.iload_n 1, 1)) ∧ (decode cX5_isLiked 2 = .ok (.iload_n 2, 1) ∧ (decode cX5_isLiked 3 = .ok (.invokevirtual 50, 3) ∧ decode cX5_isLiked 6 = .ok (.aload_n 0, 1)))) ∧ ((decode cX5_isLiked 7 = .ok (.iload_n 2, 1) ∧ (decode cX5_isLiked 8 = .ok (.iload_n 1, 1) ∧ decode cX5_isLiked 9 = .ok (.invokevirtual 50, 3))) ∧ (decode cX5_isLiked 12 = .ok (.iadd, 1) ∧ (decode cX5_isLiked 13 = .ok (.aload_n 0, 1) ∧ decode cX5_isLiked 14 = .ok (.iload_n 1, 1))))) ∧ (((decode cX5_isLiked 15 = .ok (.iload_n 1, 1) ∧ (decode cX5_isLiked 16 = .ok (.invokevirtual 50, 3) ∧ decode cX5_isLiked 19 = .ok (.aload_n 0, 1))) ∧ (decode cX5_isLiked 20 = .ok (.iload_n 2, 1) ∧ (decode cX5_isLiked 21 = .ok (.iload_n 2, 1) ∧ decode cX5_isLiked 22 = .ok (.invokevirtual 50, 3)))) ∧ ((decode cX5_isLiked 25 = .ok (.iadd, 1) ∧ (decode cX5_isLiked 26 = .ok (.if_icmp .le 7, 3) ∧ decode cX5_isLiked 29 = .ok (.iconst 1, 1))) ∧ (decode cX5_isLiked 30 = .ok (.goto 4, 3) ∧ (decode cX5_isLiked 33 = .ok (.iconst 0, 1) ∧ decode cX5_isLiked 34 = .ok (.ireturn, 1)))))) := ⟨by decide +kernel, by decide +kernel⟩
def X5_isLiked_b34 (s : St) (k0 : Int) : Rs :=
  grd (k0 = 0 ∨ k0 = 1) (some (k0, s))
set_option maxRecDepth 100000 in
set_option maxHeartbeats 4000000 in
theorem X5_isLiked_b34_s (G : Gx) (l : Launch) (s : St) (k0 : Int) : V G l mX5_isLiked 34 [] [(0, k0)] s (X5_isLiked_b34 s k0) := by
  unfold X5_isLiked_b34
  exact V_zret rfl dec_X5_isLiked.2.2.2.2.2
def X5_isLiked (s : St) (a0 a1 a2 : Int) : Rs :=
  grd (isK s 15 a0) (bnd (X5_worthOf s a0 a1 a2) (fun r1 s2 => grd (isK s2 15 a0) (bnd (X5_worthOf s2 a0 a2 a1) (fun r3 s4 => grd (isK s4 15 a0) (bnd (X5_worthOf s4 a0 a1 a1) (fun r5 s6 => grd (isK s6 15 a0) (bnd (X5_worthOf s6 a0 a2 a2) (fun r7 s8 => if (w32 (r1 + r3)) ≤ (w32 (r5 + r7)) then (X5_isLiked_b34 s8 0) else (X5_isLiked_b34 s8 1)))))))))
set_option maxRecDepth 100000 in
set_option maxHeartbeats 4000000 in
theorem X5_isLiked_s (G : Gx) (l : Launch) (s : St) (a0 a1 a2 : Int) : Snd G l mX5_isLiked [(2, a0), (0, a1), (0, a2)] s (X5_isLiked s a0 a1 a2) := by
  refine Snd.of (by decide +kernel) rfl ?_
  show V G l mX5_isLiked 0 [(0, (2, a0)), (1, (0, a1)), (2, (0, a2))] [] s _
  unfold X5_isLiked
  refine V_aload_n dec_X5_isLiked.1.1.1.1 0 rfl ?_
  refine V_iload_n dec_X5_isLiked.1.1.1.2 1 rfl ?_
  refine V_iload_n dec_X5_isLiked.1.1.2.1 2 rfl ?_
  refine V_callV0 (ci := 5) (a := a0) (As := [(0, a1), (0, a2)]) (st := []) rfl rfl (X5_worthOf_s G l s a0 a1 a2) cal_X5_worthOf rfl ml_X5_50 rfl rfl dec_X5_isLiked.1.1.2.2.1 (k_tag (tag := 0) rfl fun r1 s2 => ?_)
  refine V_aload_n dec_X5_isLiked.1.1.2.2.2 0 rfl ?_
  refine V_iload_n dec_X5_isLiked.1.2.1.1 2 rfl ?_
  refine V_iload_n dec_X5_isLiked.1.2.1.2.1 1 rfl ?_
  refine V_callV0 (ci := 5) (a := a0) (As := [(0, a2), (0, a1)]) (st := [(0, r1)]) rfl rfl (X5_worthOf_s G l s2 a0 a2 a1) cal_X5_worthOf rfl ml_X5_50 rfl rfl dec_X5_isLiked.1.2.1.2.2 (k_tag (tag := 0) rfl fun r3 s4 => ?_)
  refine V_iadd dec_X5_isLiked.1.2.2.1 ?_
  refine V_aload_n dec_X5_isLiked.1.2.2.2.1 0 rfl ?_
  refine V_iload_n dec_X5_isLiked.1.2.2.2.2 1 rfl ?_
  refine V_iload_n dec_X5_isLiked.2.1.1.1 1 rfl ?_
  refine V_callV0 (ci := 5) (a := a0) (As := [(0, a1), (0, a1)]) (st := [(0, (w32 (r1 + r3)))]) rfl rfl (X5_worthOf_s G l s4 a0 a1 a1) cal_X5_worthOf rfl ml_X5_50 rfl rfl dec_X5_isLiked.2.1.1.2.1 (k_tag (tag := 0) rfl fun r5 s6 => ?_)
  refine V_aload_n dec_X5_isLiked.2.1.1.2.2 0 rfl ?_
  refine V_iload_n dec_X5_isLiked.2.1.2.1 2 rfl ?_
  refine V_iload_n dec_X5_isLiked.2.1.2.2.1 2 rfl ?_
  refine V_callV0 (ci := 5) (a := a0) (As := [(0, a2), (0, a2)]) (st := [(0, r5), (0, (w32 (r1 + r3)))]) rfl rfl (X5_worthOf_s G l s6 a0 a2 a2) cal_X5_worthOf rfl ml_X5_50 rfl rfl dec_X5_isLiked.2.1.2.2.2 (k_tag (tag := 0) rfl fun r7 s8 => ?_)
  refine V_iadd dec_X5_isLiked.2.2.1.1 ?_
  refine V_icmp_le (tgt := 33) dec_X5_isLiked.2.2.1.2.1 (by decide) ?_ ?_
  · refine V_iconst dec_X5_isLiked.2.2.2.2.1 rfl ?_
    exact V_pick [] rfl (X5_isLiked_b34_s G l s8 0)
  · refine V_iconst dec_X5_isLiked.2.2.1.2.2 rfl ?_
    refine V_goto (tgt := 34) dec_X5_isLiked.2.2.2.1 (by decide) ?_
    exact V_pick [] rfl (X5_isLiked_b34_s G l s8 1)
theorem dec_X5_weigh : ((((((decode cX5_weigh 0 = .ok (.aload_n 0, 1) ∧ decode cX5_weigh 1 = .ok (.aload_n 1, 1)) ∧ (decode cX5_weigh 2 = .ok (.getfield 18, 3) ∧ decode cX5_weigh 5 = .ok (.getfield 24, 3))) ∧ ((decode cX5_weigh 8 = .ok (.putfield 30, 3) ∧ decode cX5_weigh 11 = .ok (.iconst 0, 1)) ∧ (decode cX5_weigh 12 = .ok (.istore_n 3, 1) ∧ decode cX5_weigh 13 = .ok (.iload_n 3, 1)))) ∧ (((decode cX5_weigh 14 = .ok (.aload_n 0, 1) ∧ decode cX5_weigh 15 = .ok (.getfield 9, 3)) ∧ (decode cX5_weigh 18 = .ok (.arraylength, 1) ∧ decode cX5_weigh 19 = .ok (.if_icmp .ge 16, 3))) ∧ ((decode cX5_weigh 22 = .ok (.aload_n 0, 1) ∧ decode cX5_weigh 23 = .ok (.getfield 9, 3)) ∧ (decode cX5_weigh 26 = .ok (.iload_n 3, 1) ∧ decode cX5_weigh 27 = .ok (.iconst 0, 1))))) ∧ ((((decode cX5_weigh 28 = .ok (.iastore, 1) ∧ decode cX5_weigh 29 = .ok (.iinc 3 1, 3)) ∧ (decode cX5_weigh 32 = .ok (.goto (-19), 3) ∧ decode cX5_weigh 35 = .ok (.iconst 0, 1))) ∧ ((decode cX5_weigh 36 = .ok (.istore_n 3, 1) ∧ decode cX5_weigh 37 = .ok (.iload_n 3, 1)) ∧ (decode cX5_weigh 38 = .ok (.aload_n 1, 1) ∧ decode cX5_weigh 39 = .ok (.getfield 18, 3)))) ∧ (((decode cX5_weigh 42 = .ok (.getfield 31, 3) ∧ decode cX5_weigh 45 = .ok (.if_icmp .ge 72, 3)) ∧ (decode cX5_weigh 48 = .ok (.iconst 0, 1) ∧ decode cX5_weigh 49 = .ok (.istore 4, 2))) ∧ ((decode cX5_weigh 51 = .ok (.iload 4, 2) ∧ decode cX5_weigh 53 = .ok (.aload_n 0, 1)) ∧ (decode cX5_weigh 54 = .ok (.getfield 30, 3) ∧ decode cX5_weigh 57 = .ok (.if_icmp .ge 54, 3)))))) ∧ (((((decode cX5_weigh 60 = .ok (.aload_n 1, 1) ∧ decode cX5_weigh 61 = .ok (.iload_n 3, 1)) ∧ (decode cX5_weigh 62 = .ok (.aload_n 1, 1) ∧ decode cX5_weigh 63 = .ok (.getfield 34, 3))) ∧ ((decode cX5_weigh 66 = .ok (.getfield 38, 3) ∧ decode cX5_weigh 69 = .ok (.iload 4, 2)) ∧ (decode cX5_weigh 71 = .ok (.iaload, 1) ∧ decode cX5_weigh 72 = .ok (.iload_n 2, 1)))) ∧ (((decode cX5_weigh 73 = .ok (.invokevirtual 43, 3) ∧ decode cX5_weigh 76 = .ok (.iload 4, 2)) ∧ (decode cX5_weigh 78 = .ok (.if_icmp .ne 27, 3) ∧ decode cX5_weigh 81 = .ok (.aload_n 0, 1))) ∧ ((decode cX5_weigh 82 = .ok (.getfield 9, 3) ∧ decode cX5_weigh 85 = .ok (.aload_n 1, 1)) ∧ (decode cX5_weigh 86 = .ok (.getfield 18, 3) ∧ decode cX5_weigh 89 = .ok (.getfield 47, 3))))) ∧ ((((decode cX5_weigh 92 = .ok (.iload_n 3, 1) ∧ decode cX5_weigh 93 = .ok (.iaload, 1)) ∧ (decode cX5_weigh 94 = .ok (.bipush 6, 2) ∧ decode cX5_weigh 96 = .ok (.imul, 1))) ∧ ((decode cX5_weigh 97 = .ok (.iload 4, 2) ∧ decode cX5_weigh 99 = .ok (.iadd, 1)) ∧ (decode cX5_weigh 100 = .ok (.dup2, 1) ∧ decode cX5_weigh 101 = .ok (.iaload, 1)))) ∧ (((decode cX5_weigh 102 = .ok (.iconst 1, 1) ∧ decode cX5_weigh 103 = .ok (.iadd, 1)) ∧ (decode cX5_weigh 104 = .ok (.iastore, 1) ∧ decode cX5_weigh 105 = .ok (.iinc 4 1, 3))) ∧ ((decode cX5_weigh 108 = .ok (.goto (-57), 3) ∧ decode cX5_weigh 111 = .ok (.iinc 3 1, 3)) ∧ (decode cX5_weigh 114 = .ok (.goto (-77), 3) ∧ decode cX5_weigh 117 = .ok (.return_, 1))))))) := ⟨⟨⟨by decide +kernel, by decide +kernel⟩, ⟨by decide +kernel, by decide +kernel⟩⟩, ⟨⟨by decide +kernel, by decide +kernel⟩, ⟨by decide +kernel, by decide +kernel⟩⟩⟩
def X5_weigh_b105 (rk37 : St → Int → Int → Int → Int → Rs) (rk51 : St → Int → Int → Int → Int → Int → Rs) (s : St) (x0 x1 x2 x3 x4 : Int) : Rs :=
  rk51 s x0 x1 x2 x3 (w32 (x4 + 1))
set_option maxRecDepth 100000 in
set_option maxHeartbeats 4000000 in
theorem X5_weigh_b105_s (G : Gx) (l : Launch) (rk37 : St → Int → Int → Int → Int → Rs) (rk51 : St → Int → Int → Int → Int → Int → Rs) (hk37 : ∀ (s : St) (x0 x1 x2 x3 : Int), V G l mX5_weigh 37 [(0, (2, x0)), (1, (2, x1)), (2, (0, x2)), (3, (0, x3))] [] s (rk37 s x0 x1 x2 x3)) (hk51 : ∀ (s : St) (x0 x1 x2 x3 x4 : Int), V G l mX5_weigh 51 [(0, (2, x0)), (1, (2, x1)), (2, (0, x2)), (3, (0, x3)), (4, (0, x4))] [] s (rk51 s x0 x1 x2 x3 x4)) (s : St) (x0 x1 x2 x3 x4 : Int) : V G l mX5_weigh 105 [(0, (2, x0)), (1, (2, x1)), (2, (0, x2)), (3, (0, x3)), (4, (0, x4))] [] s (X5_weigh_b105 rk37 rk51 s x0 x1 x2 x3 x4) := by
  unfold X5_weigh_b105
  refine V_iinc (lv' := [(4, (0, (w32 (x4 + 1)))), (0, (2, x0)), (1, (2, x1)), (2, (0, x2)), (3, (0, x3))]) dec_X5_weigh.2.2.2.1.2.2 4 rfl (by decide) rfl ?_
  refine V_goto (tgt := 51) dec_X5_weigh.2.2.2.2.1.1 (by decide) ?_
  exact V_pick [1, 2, 3, 4, 0] rfl (hk51 s x0 x1 x2 x3 (w32 (x4 + 1)))
def X5_weigh_b51_body (rk37 : St → Int → Int → Int → Int → Rs) (rk51 : St → Int → Int → Int → Int → Int → Rs) (s : St) (x0 x1 x2 x3 x4 : Int) : Rs :=
  grd (isK s 15 x0) (if (gI s x0 2) ≤ x4 then (rk37 s x0 x1 x2 (w32 (x3 + 1))) else (grd (isK s 20 x1) (grd (isK s 16 (gR s x1 1)) (grd (isK s 1 (gR s (gR s x1 1) 1) ∧ 0 ≤ x4 ∧ x4 < ln s (gR s (gR s x1 1) 1)) (grd (isK s 20 x1) (bnd (X10_listenerAimed s x1 x3 (gI s (gR s (gR s x1 1) 1) x4.toNat) x2) (fun r2 s3 => if ¬ r2 = x4 then (X5_weigh_b105 rk37 rk51 s3 x0 x1 x2 x3 x4) else (grd (isK s3 15 x0) (grd (isK s3 20 x1) (grd (isK s3 19 (gR s3 x1 0)) (grd (isK s3 1 (gR s3 (gR s3 x1 0) 8) ∧ 0 ≤ x3 ∧ x3 < ln s3 (gR s3 (gR s3 x1 0) 8)) (grd (isK s3 1 (gR s3 x0 0) ∧ 0 ≤ (w32 ((w32 ((gI s3 (gR s3 (gR s3 x1 0) 8) x3.toNat) * 6)) + x4)) ∧ (w32 ((w32 ((gI s3 (gR s3 (gR s3 x1 0) 8) x3.toNat) * 6)) + x4)) < ln s3 (gR s3 x0 0)) (grd (isK s3 1 (gR s3 x0 0) ∧ 0 ≤ (w32 ((w32 ((gI s3 (gR s3 (gR s3 x1 0) 8) x3.toNat) * 6)) + x4)) ∧ (w32 ((w32 ((gI s3 (gR s3 (gR s3 x1 0) 8) x3.toNat) * 6)) + x4)) < ln s3 (gR s3 x0 0)) (lets (pI s3 (gR s3 x0 0) (w32 ((w32 ((gI s3 (gR s3 (gR s3 x1 0) 8) x3.toNat) * 6)) + x4)).toNat (w32 ((gI s3 (gR s3 x0 0) (w32 ((w32 ((gI s3 (gR s3 (gR s3 x1 0) 8) x3.toNat) * 6)) + x4)).toNat) + 1))) (fun s4 => X5_weigh_b105 rk37 rk51 s4 x0 x1 x2 x3 x4)))))))))))))))
def X5_weigh_b51 (rk37 : St → Int → Int → Int → Int → Rs) (n : Nat) (s : St) (x0 x1 x2 x3 x4 : Int) : Rs := iter (fun (rec : St × Int × Int × Int × Int × Int → Rs) (a : St × Int × Int × Int × Int × Int) => X5_weigh_b51_body rk37 (fun (s : St) (x0 x1 x2 x3 x4 : Int) => rec (s, x0, x1, x2, x3, x4)) a.1 a.2.1 a.2.2.1 a.2.2.2.1 a.2.2.2.2.1 a.2.2.2.2.2) n (s, x0, x1, x2, x3, x4)
theorem X5_weigh_b51_0 (rk37 : St → Int → Int → Int → Int → Rs) (s : St) (x0 x1 x2 x3 x4 : Int) : X5_weigh_b51 rk37 0 s x0 x1 x2 x3 x4 = none := rfl
theorem X5_weigh_b51_1 (rk37 : St → Int → Int → Int → Int → Rs) (n : Nat) (s : St) (x0 x1 x2 x3 x4 : Int) : X5_weigh_b51 rk37 (n + 1) s x0 x1 x2 x3 x4 = X5_weigh_b51_body rk37 (X5_weigh_b51 rk37 n) s x0 x1 x2 x3 x4 := rfl
set_option maxRecDepth 100000 in
set_option maxHeartbeats 4000000 in
theorem X5_weigh_b51_body_s (G : Gx) (l : Launch) (rk37 : St → Int → Int → Int → Int → Rs) (rk51 : St → Int → Int → Int → Int → Int → Rs) (hk37 : ∀ (s : St) (x0 x1 x2 x3 : Int), V G l mX5_weigh 37 [(0, (2, x0)), (1, (2, x1)), (2, (0, x2)), (3, (0, x3))] [] s (rk37 s x0 x1 x2 x3)) (hk51 : ∀ (s : St) (x0 x1 x2 x3 x4 : Int), V G l mX5_weigh 51 [(0, (2, x0)), (1, (2, x1)), (2, (0, x2)), (3, (0, x3)), (4, (0, x4))] [] s (rk51 s x0 x1 x2 x3 x4)) (s : St) (x0 x1 x2 x3 x4 : Int) : V G l mX5_weigh 51 [(0, (2, x0)), (1, (2, x1)), (2, (0, x2)), (3, (0, x3)), (4, (0, x4))] [] s (X5_weigh_b51_body rk37 rk51 s x0 x1 x2 x3 x4) := by
  unfold X5_weigh_b51_body
  refine V_iload dec_X5_weigh.1.2.2.2.1.1 4 rfl ?_
  refine V_aload_n dec_X5_weigh.1.2.2.2.1.2 0 rfl ?_
  refine V_getI 5 2 nf_5_2 ft_5_2 fl_X5_30 dec_X5_weigh.1.2.2.2.2.1 ?_
  refine V_icmp_ge (tgt := 111) dec_X5_weigh.1.2.2.2.2.2 (by decide) ?_ ?_
  · refine V_iinc (lv' := [(3, (0, (w32 (x3 + 1)))), (0, (2, x0)), (1, (2, x1)), (2, (0, x2)), (4, (0, x4))]) dec_X5_weigh.2.2.2.2.1.2 3 rfl (by decide) rfl ?_
    refine V_goto (tgt := 37) dec_X5_weigh.2.2.2.2.2.1 (by decide) ?_
    exact V_pick [1, 2, 3, 0] rfl (hk37 s x0 x1 x2 (w32 (x3 + 1)))
  · refine V_aload_n dec_X5_weigh.2.1.1.1.1.1 1 rfl ?_
    refine V_iload_n dec_X5_weigh.2.1.1.1.1.2 3 rfl ?_
    refine V_aload_n dec_X5_weigh.2.1.1.1.2.1 1 rfl ?_
    refine V_getR 10 1 nf_10_1 ft_10_1 fl_X5_34 dec_X5_weigh.2.1.1.1.2.2 ?_
    refine V_getR 6 1 nf_6_1 ft_6_1 fl_X5_38 dec_X5_weigh.2.1.1.2.1.1 ?_
    refine V_iload dec_X5_weigh.2.1.1.2.1.2 4 rfl ?_
    refine V_iald dec_X5_weigh.2.1.1.2.2.1 ?_
    refine V_iload_n dec_X5_weigh.2.1.1.2.2.2 2 rfl ?_
    refine V_callV0 (ci := 10) (a := x1) (As := [(0, x3), (0, (gI s (gR s (gR s x1 1) 1) x4.toNat)), (0, x2)]) (st := []) rfl rfl (X10_listenerAimed_s G l s x1 x3 (gI s (gR s (gR s x1 1) 1) x4.toNat) x2) cal_X10_listenerAimed rfl ml_X5_43 rfl rfl dec_X5_weigh.2.1.2.1.1.1 (k_tag (tag := 0) rfl fun r2 s3 => ?_)
    refine V_iload dec_X5_weigh.2.1.2.1.1.2 4 rfl ?_
    refine V_icmp_ne (tgt := 105) dec_X5_weigh.2.1.2.1.2.1 (by decide) ?_ ?_
    · exact V_pick [0, 1, 2, 3, 4] rfl (X5_weigh_b105_s G l rk37 rk51 hk37 hk51 s3 x0 x1 x2 x3 x4)
    · refine V_aload_n dec_X5_weigh.2.1.2.1.2.2 0 rfl ?_
      refine V_getR 5 0 nf_5_0 ft_5_0 fl_X5_9 dec_X5_weigh.2.1.2.2.1.1 ?_
      refine V_aload_n dec_X5_weigh.2.1.2.2.1.2 1 rfl ?_
      refine V_getR 10 0 nf_10_0 ft_10_0 fl_X5_18 dec_X5_weigh.2.1.2.2.2.1 ?_
      refine V_getR 9 8 nf_9_8 ft_9_8 fl_X5_47 dec_X5_weigh.2.1.2.2.2.2 ?_
      refine V_iload_n dec_X5_weigh.2.2.1.1.1.1 3 rfl ?_
      refine V_iald dec_X5_weigh.2.2.1.1.1.2 ?_
      refine V_bipush dec_X5_weigh.2.2.1.1.2.1 rfl ?_
      refine V_imul dec_X5_weigh.2.2.1.1.2.2 ?_
      refine V_iload dec_X5_weigh.2.2.1.2.1.1 4 rfl ?_
      refine V_iadd dec_X5_weigh.2.2.1.2.1.2 ?_
      refine V_dup2 (nl0 _) (nl2 _) dec_X5_weigh.2.2.1.2.2.1 ?_
      refine V_iald dec_X5_weigh.2.2.1.2.2.2 ?_
      refine V_iconst dec_X5_weigh.2.2.2.1.1.1 rfl ?_
      refine V_iadd dec_X5_weigh.2.2.2.1.1.2 ?_
      refine V_iast dec_X5_weigh.2.2.2.1.2.1 ?_
      refine V_lets fun s4 => ?_
      exact V_pick [0, 1, 2, 3, 4] rfl (X5_weigh_b105_s G l rk37 rk51 hk37 hk51 s4 x0 x1 x2 x3 x4)
theorem X5_weigh_b51_s (G : Gx) (l : Launch) (rk37 : St → Int → Int → Int → Int → Rs) (hk37 : ∀ (s : St) (x0 x1 x2 x3 : Int), V G l mX5_weigh 37 [(0, (2, x0)), (1, (2, x1)), (2, (0, x2)), (3, (0, x3))] [] s (rk37 s x0 x1 x2 x3)) (n : Nat) (s : St) (x0 x1 x2 x3 x4 : Int) : V G l mX5_weigh 51 [(0, (2, x0)), (1, (2, x1)), (2, (0, x2)), (3, (0, x3)), (4, (0, x4))] [] s (X5_weigh_b51 rk37 n s x0 x1 x2 x3 x4) :=
  V_iter (LV := fun a : St × Int × Int × Int × Int × Int => [(0, (2, a.2.1)), (1, (2, a.2.2.1)), (2, (0, a.2.2.2.1)), (3, (0, a.2.2.2.2.1)), (4, (0, a.2.2.2.2.2))]) (ST := fun a : St × Int × Int × Int × Int × Int => []) (SS := fun a : St × Int × Int × Int × Int × Int => a.1) (fun rec hrec a => X5_weigh_b51_body_s G l rk37 (fun (s : St) (x0 x1 x2 x3 x4 : Int) => rec (s, x0, x1, x2, x3, x4)) hk37 (fun (s : St) (x0 x1 x2 x3 x4 : Int) => hrec (s, x0, x1, x2, x3, x4)) a.1 a.2.1 a.2.2.1 a.2.2.2.1 a.2.2.2.2.1 a.2.2.2.2.2) n (s, x0, x1, x2, x3, x4)
def X5_weigh_b37_body (rk37 : St → Int → Int → Int → Int → Rs) (s : St) (x0 x1 x2 x3 : Int) : Rs :=
  grd (isK s 20 x1) (grd (isK s 19 (gR s x1 0)) (if (gI s (gR s x1 0) 3) ≤ x3 then (some (0, s)) else (X5_weigh_b51 rk37 FU s x0 x1 x2 x3 0)))
def X5_weigh_b37 (n : Nat) (s : St) (x0 x1 x2 x3 : Int) : Rs := iter (fun (rec : St × Int × Int × Int × Int → Rs) (a : St × Int × Int × Int × Int) => X5_weigh_b37_body (fun (s : St) (x0 x1 x2 x3 : Int) => rec (s, x0, x1, x2, x3)) a.1 a.2.1 a.2.2.1 a.2.2.2.1 a.2.2.2.2) n (s, x0, x1, x2, x3)
theorem X5_weigh_b37_0 (s : St) (x0 x1 x2 x3 : Int) : X5_weigh_b37 0 s x0 x1 x2 x3 = none := rfl
theorem X5_weigh_b37_1 (n : Nat) (s : St) (x0 x1 x2 x3 : Int) : X5_weigh_b37 (n + 1) s x0 x1 x2 x3 = X5_weigh_b37_body (X5_weigh_b37 n) s x0 x1 x2 x3 := rfl
set_option maxRecDepth 100000 in
set_option maxHeartbeats 4000000 in
theorem X5_weigh_b37_body_s (G : Gx) (l : Launch) (rk37 : St → Int → Int → Int → Int → Rs) (hk37 : ∀ (s : St) (x0 x1 x2 x3 : Int), V G l mX5_weigh 37 [(0, (2, x0)), (1, (2, x1)), (2, (0, x2)), (3, (0, x3))] [] s (rk37 s x0 x1 x2 x3)) (s : St) (x0 x1 x2 x3 : Int) : V G l mX5_weigh 37 [(0, (2, x0)), (1, (2, x1)), (2, (0, x2)), (3, (0, x3))] [] s (X5_weigh_b37_body rk37 s x0 x1 x2 x3) := by
  unfold X5_weigh_b37_body
  refine V_iload_n dec_X5_weigh.1.2.1.2.1.2 3 rfl ?_
  refine V_aload_n dec_X5_weigh.1.2.1.2.2.1 1 rfl ?_
  refine V_getR 10 0 nf_10_0 ft_10_0 fl_X5_18 dec_X5_weigh.1.2.1.2.2.2 ?_
  refine V_getI 9 3 nf_9_3 ft_9_3 fl_X5_31 dec_X5_weigh.1.2.2.1.1.1 ?_
  refine V_icmp_ge (tgt := 117) dec_X5_weigh.1.2.2.1.1.2 (by decide) ?_ ?_
  · exact V_vret rfl dec_X5_weigh.2.2.2.2.2.2
  · refine V_iconst dec_X5_weigh.1.2.2.1.2.1 rfl ?_
    refine V_istore (lv' := [(4, (0, 0)), (0, (2, x0)), (1, (2, x1)), (2, (0, x2)), (3, (0, x3))]) dec_X5_weigh.1.2.2.1.2.2 (by decide) rfl ?_
    exact V_pick [1, 2, 3, 4, 0] rfl (X5_weigh_b51_s G l rk37 hk37 FU s x0 x1 x2 x3 0)
theorem X5_weigh_b37_s (G : Gx) (l : Launch) (n : Nat) (s : St) (x0 x1 x2 x3 : Int) : V G l mX5_weigh 37 [(0, (2, x0)), (1, (2, x1)), (2, (0, x2)), (3, (0, x3))] [] s (X5_weigh_b37 n s x0 x1 x2 x3) :=
  V_iter (LV := fun a : St × Int × Int × Int × Int => [(0, (2, a.2.1)), (1, (2, a.2.2.1)), (2, (0, a.2.2.2.1)), (3, (0, a.2.2.2.2))]) (ST := fun a : St × Int × Int × Int × Int => []) (SS := fun a : St × Int × Int × Int × Int => a.1) (fun rec hrec a => X5_weigh_b37_body_s G l (fun (s : St) (x0 x1 x2 x3 : Int) => rec (s, x0, x1, x2, x3)) (fun (s : St) (x0 x1 x2 x3 : Int) => hrec (s, x0, x1, x2, x3)) a.1 a.2.1 a.2.2.1 a.2.2.2.1 a.2.2.2.2) n (s, x0, x1, x2, x3)
def X5_weigh_b13_body (rk13 : St → Int → Int → Int → Int → Rs) (s : St) (x0 x1 x2 x3 : Int) : Rs :=
  grd (isK s 15 x0) (grd (isK s 1 (gR s x0 0)) (if (ln s (gR s x0 0)) ≤ x3 then (X5_weigh_b37 FU s x0 x1 x2 0) else (grd (isK s 15 x0) (grd (isK s 1 (gR s x0 0) ∧ 0 ≤ x3 ∧ x3 < ln s (gR s x0 0)) (lets (pI s (gR s x0 0) x3.toNat 0) (fun s5 => rk13 s5 x0 x1 x2 (w32 (x3 + 1))))))))
def X5_weigh_b13 (n : Nat) (s : St) (x0 x1 x2 x3 : Int) : Rs := iter (fun (rec : St × Int × Int × Int × Int → Rs) (a : St × Int × Int × Int × Int) => X5_weigh_b13_body (fun (s : St) (x0 x1 x2 x3 : Int) => rec (s, x0, x1, x2, x3)) a.1 a.2.1 a.2.2.1 a.2.2.2.1 a.2.2.2.2) n (s, x0, x1, x2, x3)
theorem X5_weigh_b13_0 (s : St) (x0 x1 x2 x3 : Int) : X5_weigh_b13 0 s x0 x1 x2 x3 = none := rfl
theorem X5_weigh_b13_1 (n : Nat) (s : St) (x0 x1 x2 x3 : Int) : X5_weigh_b13 (n + 1) s x0 x1 x2 x3 = X5_weigh_b13_body (X5_weigh_b13 n) s x0 x1 x2 x3 := rfl
set_option maxRecDepth 100000 in
set_option maxHeartbeats 4000000 in
theorem X5_weigh_b13_body_s (G : Gx) (l : Launch) (rk13 : St → Int → Int → Int → Int → Rs) (hk13 : ∀ (s : St) (x0 x1 x2 x3 : Int), V G l mX5_weigh 13 [(0, (2, x0)), (1, (2, x1)), (2, (0, x2)), (3, (0, x3))] [] s (rk13 s x0 x1 x2 x3)) (s : St) (x0 x1 x2 x3 : Int) : V G l mX5_weigh 13 [(0, (2, x0)), (1, (2, x1)), (2, (0, x2)), (3, (0, x3))] [] s (X5_weigh_b13_body rk13 s x0 x1 x2 x3) := by
  unfold X5_weigh_b13_body
  refine V_iload_n dec_X5_weigh.1.1.1.2.2.2 3 rfl ?_
  refine V_aload_n dec_X5_weigh.1.1.2.1.1.1 0 rfl ?_
  refine V_getR 5 0 nf_5_0 ft_5_0 fl_X5_9 dec_X5_weigh.1.1.2.1.1.2 ?_
  refine V_alen 1 (by decide) dec_X5_weigh.1.1.2.1.2.1 ?_
  refine V_icmp_ge (tgt := 35) dec_X5_weigh.1.1.2.1.2.2 (by decide) ?_ ?_
  · refine V_iconst dec_X5_weigh.1.2.1.1.2.2 rfl ?_
    refine V_istore_n (lv' := [(3, (0, 0)), (0, (2, x0)), (1, (2, x1)), (2, (0, x2))]) dec_X5_weigh.1.2.1.2.1.1 (by decide) rfl ?_
    exact V_pick [1, 2, 3, 0] rfl (X5_weigh_b37_s G l FU s x0 x1 x2 0)
  · refine V_aload_n dec_X5_weigh.1.1.2.2.1.1 0 rfl ?_
    refine V_getR 5 0 nf_5_0 ft_5_0 fl_X5_9 dec_X5_weigh.1.1.2.2.1.2 ?_
    refine V_iload_n dec_X5_weigh.1.1.2.2.2.1 3 rfl ?_
    refine V_iconst dec_X5_weigh.1.1.2.2.2.2 rfl ?_
    refine V_iast dec_X5_weigh.1.2.1.1.1.1 ?_
    refine V_lets fun s5 => ?_
    refine V_iinc (lv' := [(3, (0, (w32 (x3 + 1)))), (0, (2, x0)), (1, (2, x1)), (2, (0, x2))]) dec_X5_weigh.1.2.1.1.1.2 3 rfl (by decide) rfl ?_
    refine V_goto (tgt := 13) dec_X5_weigh.1.2.1.1.2.1 (by decide) ?_
    exact V_pick [1, 2, 3, 0] rfl (hk13 s5 x0 x1 x2 (w32 (x3 + 1)))
theorem X5_weigh_b13_s (G : Gx) (l : Launch) (n : Nat) (s : St) (x0 x1 x2 x3 : Int) : V G l mX5_weigh 13 [(0, (2, x0)), (1, (2, x1)), (2, (0, x2)), (3, (0, x3))] [] s (X5_weigh_b13 n s x0 x1 x2 x3) :=
  V_iter (LV := fun a : St × Int × Int × Int × Int => [(0, (2, a.2.1)), (1, (2, a.2.2.1)), (2, (0, a.2.2.2.1)), (3, (0, a.2.2.2.2))]) (ST := fun a : St × Int × Int × Int × Int => []) (SS := fun a : St × Int × Int × Int × Int => a.1) (fun rec hrec a => X5_weigh_b13_body_s G l (fun (s : St) (x0 x1 x2 x3 : Int) => rec (s, x0, x1, x2, x3)) (fun (s : St) (x0 x1 x2 x3 : Int) => hrec (s, x0, x1, x2, x3)) a.1 a.2.1 a.2.2.1 a.2.2.2.1 a.2.2.2.2) n (s, x0, x1, x2, x3)
def X5_weigh (s : St) (a0 a1 a2 : Int) : Rs :=
  grd (isK s 20 a1) (grd (isK s 19 (gR s a1 0)) (grd (isK s 15 a0) (lets (pI s a0 2 (gI s (gR s a1 0) 2)) (fun s1 => X5_weigh_b13 FU s1 a0 a1 a2 0))))
set_option maxRecDepth 100000 in
set_option maxHeartbeats 4000000 in
theorem X5_weigh_s (G : Gx) (l : Launch) (s : St) (a0 a1 a2 : Int) : Snd G l mX5_weigh [(2, a0), (2, a1), (0, a2)] s (X5_weigh s a0 a1 a2) := by
  refine Snd.of (by decide +kernel) rfl ?_
  show V G l mX5_weigh 0 [(0, (2, a0)), (1, (2, a1)), (2, (0, a2))] [] s _
  unfold X5_weigh
  refine V_aload_n dec_X5_weigh.1.1.1.1.1.1 0 rfl ?_
  refine V_aload_n dec_X5_weigh.1.1.1.1.1.2 1 rfl ?_
  refine V_getR 10 0 nf_10_0 ft_10_0 fl_X5_18 dec_X5_weigh.1.1.1.1.2.1 ?_
  refine V_getI 9 2 nf_9_2 ft_9_2 fl_X5_24 dec_X5_weigh.1.1.1.1.2.2 ?_
  refine V_putI (host := "") 5 2 nf_5_2 ty_5_2 (Or.inl ⟨fl_X5_30, Or.inl rfl⟩) dec_X5_weigh.1.1.1.2.1.1 ?_
  refine V_lets fun s1 => ?_
  refine V_iconst dec_X5_weigh.1.1.1.2.1.2 rfl ?_
  refine V_istore_n (lv' := [(3, (0, 0)), (0, (2, a0)), (1, (2, a1)), (2, (0, a2))]) dec_X5_weigh.1.1.1.2.2.1 (by decide) rfl ?_
  exact V_pick [1, 2, 3, 0] rfl (X5_weigh_b13_s G l FU s1 a0 a1 a2 0)
theorem dec_X11_likes : (((((decode cX11_likes 0 = .ok (.aload_n 0, 1) ∧ decode cX11_likes 1 = .ok (.aload_n 0, 1)) ∧ (decode cX11_likes 2 = .ok (.iload_n 1, 1) ∧ decode cX11_likes 3 = .ok (.invokevirtual 139, 3))) ∧ ((decode cX11_likes 6 = .ok (.ifCond .ne 16, 3) ∧ decode cX11_likes 9 = .ok (.aload_n 0, 1)) ∧ (decode cX11_likes 10 = .ok (.iload_n 2, 1) ∧ (decode cX11_likes 11 = .ok (.invokevirtual 139, 3) ∧ decode cX11_likes 14 = .ok (.ifCond .ne 8, 3))))) ∧ (((decode cX11_likes 17 = .ok (.iload_n 1, 1) ∧ decode cX11_likes 18 = .ok (.iload_n 2, 1)) ∧ (decode cX11_likes 19 = .ok (.if_icmp .ne 7, 3) ∧ decode cX11_likes 22 = .ok (.iconst 1, 1))) ∧ ((decode cX11_likes 23 = .ok (.goto 4, 3) ∧ decode cX11_likes 26 = .ok (.iconst 0, 1)) ∧ (decode cX11_likes 27 = .ok (.iload_n 3, 1) ∧ (decode cX11_likes 28 = .ok (.invokestatic 187, 3) ∧ decode cX11_likes 31 = .ok (.invokevirtual 92, 3)))))) ∧ ((((decode cX11_likes 34 = .ok (.ifCond .eq 5, 3) ∧ decode cX11_likes 37 = .ok (.iconst (-1), 1)) ∧ (decode cX11_likes 38 = .ok (.ireturn, 1) ∧ decode cX11_likes 39 = .ok (.aload_n 0, 1))) ∧ ((decode cX11_likes 40 = .ok (.getfield 46, 3) ∧ decode cX11_likes 43 = .ok (.aload_n 0, 1)) ∧ (decode cX11_likes 44 = .ok (.getfield 36, 3) ∧ (decode cX11_likes 47 = .ok (.iload_n 3, 1) ∧ decode cX11_likes 48 = .ok (.invokevirtual 241, 3))))) ∧ (((decode cX11_likes 51 = .ok (.aload_n 0, 1) ∧ decode cX11_likes 52 = .ok (.getfield 46, 3)) ∧ (decode cX11_likes 55 = .ok (.iload_n 1, 1) ∧ (decode cX11_likes 56 = .ok (.iload_n 2, 1) ∧ decode cX11_likes 57 = .ok (.invokevirtual 253, 3)))) ∧ ((decode cX11_likes 60 = .ok (.ifCond .eq 7, 3) ∧ decode cX11_likes 63 = .ok (.iconst 1, 1)) ∧ (decode cX11_likes 64 = .ok (.goto 4, 3) ∧ (decode cX11_likes 67 = .ok (.iconst 0, 1) ∧ decode cX11_likes 68 = .ok (.ireturn, 1))))))) := ⟨⟨by decide +kernel, by decide +kernel⟩, ⟨by decide +kernel, by decide +kernel⟩⟩
def X11_likes_b68 (s : St) (k0 : Int) : Rs :=
  some (k0, s)
set_option maxRecDepth 100000 in
set_option maxHeartbeats 4000000 in
theorem X11_likes_b68_s (G : Gx) (l : Launch) (s : St) (k0 : Int) : V G l mX11_likes 68 [] [(0, k0)] s (X11_likes_b68 s k0) := by
  unfold X11_likes_b68
  exact V_iret rfl dec_X11_likes.2.2.2.2.2.2
def X11_likes_b27 (s : St) (x0 x1 x2 x3 k0 k1 : Int) : Rs :=
  bnd (X11_isNoNight s x3) (fun r3 s4 => grd (isK s4 21 k1) (bnd (X11_refused s4 k1 k0 r3) (fun r5 s6 => if r5 = 0 then (grd (isK s6 21 x0) (grd (isK s6 21 x0) (grd (isK s6 15 (gR s6 x0 9)) (bnd (X5_weigh s6 (gR s6 x0 9) (gR s6 x0 7) x3) (fun r7 s8 => grd (isK s8 21 x0) (grd (isK s8 15 (gR s8 x0 9)) (bnd (X5_isLiked s8 (gR s8 x0 9) x1 x2) (fun r9 s10 => if r9 = 0 then (X11_likes_b68 s10 0) else (X11_likes_b68 s10 1))))))))) else (some ((-1), s6)))))
set_option maxRecDepth 100000 in
set_option maxHeartbeats 4000000 in
theorem X11_likes_b27_s (G : Gx) (l : Launch) (s : St) (x0 x1 x2 x3 k0 k1 : Int) : V G l mX11_likes 27 [(0, (2, x0)), (1, (0, x1)), (2, (0, x2)), (3, (0, x3))] [(0, k0), (2, k1)] s (X11_likes_b27 s x0 x1 x2 x3 k0 k1) := by
  unfold X11_likes_b27
  refine V_iload_n dec_X11_likes.1.2.2.2.1 3 rfl ?_
  refine V_callS0 (As := [(0, x3)]) (st := [(0, k0), (2, k1)]) (host := "") rfl (X11_isNoNight_s G l s x3) cal_X11_isNoNight rfl (Or.inl ml_X11_187) rfl rfl dec_X11_likes.1.2.2.2.2.1 (k_tag (tag := 0) rfl fun r3 s4 => ?_)
  refine V_callV0 (ci := 11) (a := k1) (As := [(0, k0), (0, r3)]) (st := []) rfl rfl (X11_refused_s G l s4 k1 k0 r3) cal_X11_refused rfl ml_X11_92 rfl rfl dec_X11_likes.1.2.2.2.2.2 (k_tag (tag := 0) rfl fun r5 s6 => ?_)
  refine V_if_eq (tgt := 39) dec_X11_likes.2.1.1.1.1 (by decide) ?_ ?_
  · refine V_aload_n dec_X11_likes.2.1.1.2.2 0 rfl ?_
    refine V_getR 11 9 nf_11_9 ft_11_9 fl_X11_46 dec_X11_likes.2.1.2.1.1 ?_
    refine V_aload_n dec_X11_likes.2.1.2.1.2 0 rfl ?_
    refine V_getR 11 7 nf_11_7 ft_11_7 fl_X11_36 dec_X11_likes.2.1.2.2.1 ?_
    refine V_iload_n dec_X11_likes.2.1.2.2.2.1 3 rfl ?_
    refine V_callV0 (ci := 5) (a := (gR s6 x0 9)) (As := [(2, (gR s6 x0 7)), (0, x3)]) (st := []) rfl rfl (X5_weigh_s G l s6 (gR s6 x0 9) (gR s6 x0 7) x3) cal_X5_weigh rfl ml_X11_241 rfl rfl dec_X11_likes.2.1.2.2.2.2 (k_void rfl fun r7 s8 => ?_)
    refine V_aload_n dec_X11_likes.2.2.1.1.1 0 rfl ?_
    refine V_getR 11 9 nf_11_9 ft_11_9 fl_X11_46 dec_X11_likes.2.2.1.1.2 ?_
    refine V_iload_n dec_X11_likes.2.2.1.2.1 1 rfl ?_
    refine V_iload_n dec_X11_likes.2.2.1.2.2.1 2 rfl ?_
    refine V_callV0 (ci := 5) (a := (gR s8 x0 9)) (As := [(0, x1), (0, x2)]) (st := []) rfl rfl (X5_isLiked_s G l s8 (gR s8 x0 9) x1 x2) cal_X5_isLiked rfl ml_X11_253 rfl rfl dec_X11_likes.2.2.1.2.2.2 (k_tag (tag := 0) rfl fun r9 s10 => ?_)
    refine V_if_eq (tgt := 67) dec_X11_likes.2.2.2.1.1 (by decide) ?_ ?_
    · refine V_iconst dec_X11_likes.2.2.2.2.2.1 rfl ?_
      exact V_pick [] rfl (X11_likes_b68_s G l s10 0)
    · refine V_iconst dec_X11_likes.2.2.2.1.2 rfl ?_
      refine V_goto (tgt := 68) dec_X11_likes.2.2.2.2.1 (by decide) ?_
      exact V_pick [] rfl (X11_likes_b68_s G l s10 1)
  · refine V_iconst dec_X11_likes.2.1.1.1.2 rfl ?_
    exact V_iret rfl dec_X11_likes.2.1.1.2.1
def X11_likes_b22 (s : St) (x0 x1 x2 x3 k0 : Int) : Rs :=
  X11_likes_b27 s x0 x1 x2 x3 1 k0
set_option maxRecDepth 100000 in
set_option maxHeartbeats 4000000 in
theorem X11_likes_b22_s (G : Gx) (l : Launch) (s : St) (x0 x1 x2 x3 k0 : Int) : V G l mX11_likes 22 [(0, (2, x0)), (1, (0, x1)), (2, (0, x2)), (3, (0, x3))] [(2, k0)] s (X11_likes_b22 s x0 x1 x2 x3 k0) := by
  unfold X11_likes_b22
  refine V_iconst dec_X11_likes.1.2.1.2.2 rfl ?_
  refine V_goto (tgt := 27) dec_X11_likes.1.2.2.1.1 (by decide) ?_
  exact V_pick [0, 1, 2, 3] rfl (X11_likes_b27_s G l s x0 x1 x2 x3 1 k0)
def X11_likes (s : St) (a0 a1 a2 a3 : Int) : Rs :=
  grd (isK s 21 a0) (bnd (X11_isNoPerson s a0 a1) (fun r1 s2 => if ¬ r1 = 0 then (X11_likes_b22 s2 a0 a1 a2 a3 a0) else (grd (isK s2 21 a0) (bnd (X11_isNoPerson s2 a0 a2) (fun r11 s12 => if ¬ r11 = 0 then (X11_likes_b22 s12 a0 a1 a2 a3 a0) else (if ¬ a1 = a2 then (X11_likes_b27 s12 a0 a1 a2 a3 0 a0) else (X11_likes_b22 s12 a0 a1 a2 a3 a0)))))))
set_option maxRecDepth 100000 in
set_option maxHeartbeats 4000000 in
theorem X11_likes_s (G : Gx) (l : Launch) (s : St) (a0 a1 a2 a3 : Int) : Snd G l mX11_likes [(2, a0), (0, a1), (0, a2), (0, a3)] s (X11_likes s a0 a1 a2 a3) := by
  refine Snd.of (by decide +kernel) rfl ?_
  show V G l mX11_likes 0 [(0, (2, a0)), (1, (0, a1)), (2, (0, a2)), (3, (0, a3))] [] s _
  unfold X11_likes
  refine V_aload_n dec_X11_likes.1.1.1.1.1 0 rfl ?_
  refine V_aload_n dec_X11_likes.1.1.1.1.2 0 rfl ?_
  refine V_iload_n dec_X11_likes.1.1.1.2.1 1 rfl ?_
  refine V_callV0 (ci := 11) (a := a0) (As := [(0, a1)]) (st := [(2, a0)]) rfl rfl (X11_isNoPerson_s G l s a0 a1) cal_X11_isNoPerson rfl ml_X11_139 rfl rfl dec_X11_likes.1.1.1.2.2 (k_tag (tag := 0) rfl fun r1 s2 => ?_)
  refine V_if_ne (tgt := 22) dec_X11_likes.1.1.2.1.1 (by decide) ?_ ?_
  · exact V_pick [0, 1, 2, 3] rfl (X11_likes_b22_s G l s2 a0 a1 a2 a3 a0)
  · refine V_aload_n dec_X11_likes.1.1.2.1.2 0 rfl ?_
    refine V_iload_n dec_X11_likes.1.1.2.2.1 2 rfl ?_
    refine V_callV0 (ci := 11) (a := a0) (As := [(0, a2)]) (st := [(2, a0)]) rfl rfl (X11_isNoPerson_s G l s2 a0 a2) cal_X11_isNoPerson rfl ml_X11_139 rfl rfl dec_X11_likes.1.1.2.2.2.1 (k_tag (tag := 0) rfl fun r11 s12 => ?_)
    refine V_if_ne (tgt := 22) dec_X11_likes.1.1.2.2.2.2 (by decide) ?_ ?_
    · exact V_pick [0, 1, 2, 3] rfl (X11_likes_b22_s G l s12 a0 a1 a2 a3 a0)
    · refine V_iload_n dec_X11_likes.1.2.1.1.1 1 rfl ?_
      refine V_iload_n dec_X11_likes.1.2.1.1.2 2 rfl ?_
      refine V_icmp_ne (tgt := 26) dec_X11_likes.1.2.1.2.1 (by decide) ?_ ?_
      · refine V_iconst dec_X11_likes.1.2.2.1.2 rfl ?_
        exact V_pick [0, 1, 2, 3] rfl (X11_likes_b27_s G l s12 a0 a1 a2 a3 0 a0)
      · exact V_pick [0, 1, 2, 3] rfl (X11_likes_b22_s G l s12 a0 a1 a2 a3 a0)
theorem dec_X2_hundredths : ((((decode cX2_hundredths 0 = .ok (.aload_n 1, 1) ∧ (decode cX2_hundredths 1 = .ok (.getfield 15, 3) ∧ decode cX2_hundredths 4 = .ok (.getfield 21, 3))) ∧ (decode cX2_hundredths 7 = .ok (.istore 5, 2) ∧ (decode cX2_hundredths 9 = .ok (.aload_n 1, 1) ∧ decode cX2_hundredths 10 = .ok (.iload_n 2, 1)))) ∧ ((decode cX2_hundredths 11 = .ok (.iload 4, 2) ∧ (decode cX2_hundredths 13 = .ok (.invokevirtual 27, 3) ∧ decode cX2_hundredths 16 = .ok (.iload_n 3, 1))) ∧ ((decode cX2_hundredths 17 = .ok (.if_icmp .ne 11, 3) ∧ decode cX2_hundredths 20 = .ok (.bipush 100, 2)) ∧ (decode cX2_hundredths 22 = .ok (.iload 5, 2) ∧ decode cX2_hundredths 24 = .ok (.isub, 1))))) ∧ (((decode cX2_hundredths 25 = .ok (.goto 4, 3) ∧ (decode cX2_hundredths 28 = .ok (.iconst 0, 1) ∧ decode cX2_hundredths 29 = .ok (.aload_n 1, 1))) ∧ (decode cX2_hundredths 30 = .ok (.iload_n 2, 1) ∧ (decode cX2_hundredths 31 = .ok (.iload 4, 2) ∧ decode cX2_hundredths 33 = .ok (.invokevirtual 31, 3)))) ∧ ((decode cX2_hundredths 36 = .ok (.iload_n 3, 1) ∧ (decode cX2_hundredths 37 = .ok (.if_icmp .ne 8, 3) ∧ decode cX2_hundredths 40 = .ok (.iload 5, 2))) ∧ ((decode cX2_hundredths 42 = .ok (.goto 4, 3) ∧ decode cX2_hundredths 45 = .ok (.iconst 0, 1)) ∧ (decode cX2_hundredths 46 = .ok (.iadd, 1) ∧ decode cX2_hundredths 47 = .ok (.ireturn, 1)))))) := ⟨⟨by decide +kernel, by decide +kernel⟩, ⟨by decide +kernel, by decide +kernel⟩⟩
def X2_hundredths_b46 (s : St) (k0 k1 : Int) : Rs :=
  some ((w32 (k1 + k0)), s)
set_option maxRecDepth 100000 in
set_option maxHeartbeats 4000000 in
theorem X2_hundredths_b46_s (G : Gx) (l : Launch) (s : St) (k0 k1 : Int) : V G l mX2_hundredths 46 [] [(0, k0), (0, k1)] s (X2_hundredths_b46 s k0 k1) := by
  unfold X2_hundredths_b46
  refine V_iadd dec_X2_hundredths.2.2.2.2.1 ?_
  exact V_iret rfl dec_X2_hundredths.2.2.2.2.2
def X2_hundredths_b29 (s : St) (x1 x2 x3 x4 x5 k0 : Int) : Rs :=
  grd (isK s 20 x1) (bnd (X10_listenerFurtherOn s x1 x2 x4) (fun r3 s4 => if ¬ r3 = x3 then (X2_hundredths_b46 s4 0 k0) else (X2_hundredths_b46 s4 x5 k0)))
set_option maxRecDepth 100000 in
set_option maxHeartbeats 4000000 in
theorem X2_hundredths_b29_s (G : Gx) (l : Launch) (s : St) (x1 x2 x3 x4 x5 k0 : Int) : V G l mX2_hundredths 29 [(1, (2, x1)), (2, (0, x2)), (3, (0, x3)), (4, (0, x4)), (5, (0, x5))] [(0, k0)] s (X2_hundredths_b29 s x1 x2 x3 x4 x5 k0) := by
  unfold X2_hundredths_b29
  refine V_aload_n dec_X2_hundredths.2.1.1.2.2 0 rfl ?_
  refine V_iload_n dec_X2_hundredths.2.1.2.1 1 rfl ?_
  refine V_iload dec_X2_hundredths.2.1.2.2.1 3 rfl ?_
  refine V_callV0 (ci := 10) (a := x1) (As := [(0, x2), (0, x4)]) (st := [(0, k0)]) rfl rfl (X10_listenerFurtherOn_s G l s x1 x2 x4) cal_X10_listenerFurtherOn rfl ml_X2_31 rfl rfl dec_X2_hundredths.2.1.2.2.2 (k_tag (tag := 0) rfl fun r3 s4 => ?_)
  refine V_iload_n dec_X2_hundredths.2.2.1.1 2 rfl ?_
  refine V_icmp_ne (tgt := 45) dec_X2_hundredths.2.2.1.2.1 (by decide) ?_ ?_
  · refine V_iconst dec_X2_hundredths.2.2.2.1.2 rfl ?_
    exact V_pick [] rfl (X2_hundredths_b46_s G l s4 0 k0)
  · refine V_iload dec_X2_hundredths.2.2.1.2.2 4 rfl ?_
    refine V_goto (tgt := 46) dec_X2_hundredths.2.2.2.1.1 (by decide) ?_
    exact V_pick [] rfl (X2_hundredths_b46_s G l s4 x5 k0)
def X2_hundredths (s : St) (a0 a1 a2 a3 a4 : Int) : Rs :=
  grd (isK s 20 a1) (grd (isK s 19 (gR s a1 0)) (grd (isK s 20 a1) (bnd (X10_listener s a1 a2 a4) (fun r1 s2 => if ¬ r1 = a3 then (X2_hundredths_b29 s2 a1 a2 a3 a4 (gI s (gR s a1 0) 1) 0) else (X2_hundredths_b29 s2 a1 a2 a3 a4 (gI s (gR s a1 0) 1) (w32 (100 - (gI s (gR s a1 0) 1))))))))
set_option maxRecDepth 100000 in
set_option maxHeartbeats 4000000 in
theorem X2_hundredths_s (G : Gx) (l : Launch) (s : St) (a0 a1 a2 a3 a4 : Int) : Snd G l mX2_hundredths [(2, a0), (2, a1), (0, a2), (0, a3), (0, a4)] s (X2_hundredths s a0 a1 a2 a3 a4) := by
  refine Snd.of (by decide +kernel) rfl ?_
  show V G l mX2_hundredths 0 [(0, (2, a0)), (1, (2, a1)), (2, (0, a2)), (3, (0, a3)), (4, (0, a4))] [] s _
  unfold X2_hundredths
  refine V_aload_n dec_X2_hundredths.1.1.1.1 1 rfl ?_
  refine V_getR 10 0 nf_10_0 ft_10_0 fl_X2_15 dec_X2_hundredths.1.1.1.2.1 ?_
  refine V_getI 9 1 nf_9_1 ft_9_1 fl_X2_21 dec_X2_hundredths.1.1.1.2.2 ?_
  refine V_istore (lv' := [(5, (0, (gI s (gR s a1 0) 1))), (0, (2, a0)), (1, (2, a1)), (2, (0, a2)), (3, (0, a3)), (4, (0, a4))]) dec_X2_hundredths.1.1.2.1 (by decide) rfl ?_
  refine V_aload_n dec_X2_hundredths.1.1.2.2.1 2 rfl ?_
  refine V_iload_n dec_X2_hundredths.1.1.2.2.2 3 rfl ?_
  refine V_iload dec_X2_hundredths.1.2.1.1 5 rfl ?_
  refine V_callV0 (ci := 10) (a := a1) (As := [(0, a2), (0, a4)]) (st := []) rfl rfl (X10_listener_s G l s a1 a2 a4) cal_X10_listener rfl ml_X2_27 rfl rfl dec_X2_hundredths.1.2.1.2.1 (k_tag (tag := 0) rfl fun r1 s2 => ?_)
  refine V_iload_n dec_X2_hundredths.1.2.1.2.2 4 rfl ?_
  refine V_icmp_ne (tgt := 28) dec_X2_hundredths.1.2.2.1.1 (by decide) ?_ ?_
  · refine V_iconst dec_X2_hundredths.2.1.1.2.1 rfl ?_
    exact V_pick [2, 3, 4, 5, 0] rfl (X2_hundredths_b29_s G l s2 a1 a2 a3 a4 (gI s (gR s a1 0) 1) 0)
  · refine V_bipush dec_X2_hundredths.1.2.2.1.2 rfl ?_
    refine V_iload dec_X2_hundredths.1.2.2.2.1 0 rfl ?_
    refine V_isub dec_X2_hundredths.1.2.2.2.2 ?_
    refine V_goto (tgt := 29) dec_X2_hundredths.2.1.1.1 (by decide) ?_
    exact V_pick [2, 3, 4, 5, 0] rfl (X2_hundredths_b29_s G l s2 a1 a2 a3 a4 (gI s (gR s a1 0) 1) (w32 (100 - (gI s (gR s a1 0) 1))))
theorem dec_X11_mean : (((((decode cX11_mean 0 = .ok (.aload_n 0, 1) ∧ decode cX11_mean 1 = .ok (.aload_n 0, 1)) ∧ (decode cX11_mean 2 = .ok (.iload_n 1, 1) ∧ decode cX11_mean 3 = .ok (.invokevirtual 139, 3))) ∧ ((decode cX11_mean 6 = .ok (.iload_n 2, 1) ∧ decode cX11_mean 7 = .ok (.invokestatic 187, 3)) ∧ (decode cX11_mean 10 = .ok (.invokevirtual 92, 3) ∧ (decode cX11_mean 13 = .ok (.ifCond .eq 7, 3) ∧ decode cX11_mean 16 = .ok (.ldc2_w 315, 3))))) ∧ (((decode cX11_mean 19 = .ok (.lreturn, 1) ∧ decode cX11_mean 20 = .ok (.lconst 0, 1)) ∧ (decode cX11_mean 21 = .ok (.lstore 4, 2) ∧ (decode cX11_mean 23 = .ok (.iconst 0, 1) ∧ decode cX11_mean 24 = .ok (.istore 6, 2)))) ∧ ((decode cX11_mean 26 = .ok (.iload 6, 2) ∧ decode cX11_mean 28 = .ok (.aload_n 0, 1)) ∧ (decode cX11_mean 29 = .ok (.getfield 27, 3) ∧ (decode cX11_mean 32 = .ok (.getfield 225, 3) ∧ decode cX11_mean 35 = .ok (.if_icmp .ge 30, 3)))))) ∧ ((((decode cX11_mean 38 = .ok (.lload 4, 2) ∧ decode cX11_mean 40 = .ok (.aload_n 0, 1)) ∧ (decode cX11_mean 41 = .ok (.getfield 67, 3) ∧ decode cX11_mean 44 = .ok (.aload_n 0, 1))) ∧ ((decode cX11_mean 45 = .ok (.getfield 36, 3) ∧ decode cX11_mean 48 = .ok (.iload 6, 2)) ∧ (decode cX11_mean 50 = .ok (.iload_n 1, 1) ∧ (decode cX11_mean 51 = .ok (.iload_n 2, 1) ∧ decode cX11_mean 52 = .ok (.invokevirtual 317, 3))))) ∧ (((decode cX11_mean 55 = .ok (.i2l, 1) ∧ decode cX11_mean 56 = .ok (.ladd, 1)) ∧ (decode cX11_mean 57 = .ok (.lstore 4, 2) ∧ (decode cX11_mean 59 = .ok (.iinc 6 1, 3) ∧ decode cX11_mean 62 = .ok (.goto (-36), 3)))) ∧ ((decode cX11_mean 65 = .ok (.lload 4, 2) ∧ decode cX11_mean 67 = .ok (.ldc2_w 321, 3)) ∧ (decode cX11_mean 70 = .ok (.iload_n 3, 1) ∧ (decode cX11_mean 71 = .ok (.invokestatic 323, 3) ∧ decode cX11_mean 74 = .ok (.lreturn, 1))))))) := ⟨⟨by decide +kernel, by decide +kernel⟩, ⟨by decide +kernel, by decide +kernel⟩⟩
def X11_mean_b26_body (rk26 : St → Int → Int → Int → Int → Int → Int → Rs) (s : St) (x0 x1 x2 x3 x4 x6 : Int) : Rs :=
  grd (isK s 21 x0) (grd (isK s 19 (gR s x0 6)) (if (gI s (gR s x0 6) 3) ≤ x6 then (bnd (X11_inLowestTerms s x4 100 x3) (fun r7 s8 => some (r7, s8))) else (grd (isK s 21 x0) (grd (isK s 21 x0) (grd (isK s 12 (gR s x0 12)) (bnd (X2_hundredths s (gR s x0 12) (gR s x0 7) x6 x1 x2) (fun r9 s10 => rk26 s10 x0 x1 x2 x3 (w64 (x4 + r9)) (w32 (x6 + 1)))))))))
def X11_mean_b26 (n : Nat) (s : St) (x0 x1 x2 x3 x4 x6 : Int) : Rs := iter (fun (rec : St × Int × Int × Int × Int × Int × Int → Rs) (a : St × Int × Int × Int × Int × Int × Int) => X11_mean_b26_body (fun (s : St) (x0 x1 x2 x3 x4 x6 : Int) => rec (s, x0, x1, x2, x3, x4, x6)) a.1 a.2.1 a.2.2.1 a.2.2.2.1 a.2.2.2.2.1 a.2.2.2.2.2.1 a.2.2.2.2.2.2) n (s, x0, x1, x2, x3, x4, x6)
theorem X11_mean_b26_0 (s : St) (x0 x1 x2 x3 x4 x6 : Int) : X11_mean_b26 0 s x0 x1 x2 x3 x4 x6 = none := rfl
theorem X11_mean_b26_1 (n : Nat) (s : St) (x0 x1 x2 x3 x4 x6 : Int) : X11_mean_b26 (n + 1) s x0 x1 x2 x3 x4 x6 = X11_mean_b26_body (X11_mean_b26 n) s x0 x1 x2 x3 x4 x6 := rfl
set_option maxRecDepth 100000 in
set_option maxHeartbeats 4000000 in
theorem X11_mean_b26_body_s (G : Gx) (l : Launch) (rk26 : St → Int → Int → Int → Int → Int → Int → Rs) (hk26 : ∀ (s : St) (x0 x1 x2 x3 x4 x6 : Int), V G l mX11_mean 26 [(0, (2, x0)), (1, (0, x1)), (2, (0, x2)), (3, (0, x3)), (4, (1, x4)), (6, (0, x6))] [] s (rk26 s x0 x1 x2 x3 x4 x6)) (s : St) (x0 x1 x2 x3 x4 x6 : Int) : V G l mX11_mean 26 [(0, (2, x0)), (1, (0, x1)), (2, (0, x2)), (3, (0, x3)), (4, (1, x4)), (6, (0, x6))] [] s (X11_mean_b26_body rk26 s x0 x1 x2 x3 x4 x6) := by
  unfold X11_mean_b26_body
  refine V_iload dec_X11_mean.1.2.2.1.1 5 rfl ?_
  refine V_aload_n dec_X11_mean.1.2.2.1.2 0 rfl ?_
  refine V_getR 11 6 nf_11_6 ft_11_6 fl_X11_27 dec_X11_mean.1.2.2.2.1 ?_
  refine V_getI 9 3 nf_9_3 ft_9_3 fl_X11_225 dec_X11_mean.1.2.2.2.2.1 ?_
  refine V_icmp_ge (tgt := 65) dec_X11_mean.1.2.2.2.2.2 (by decide) ?_ ?_
  · refine V_lload dec_X11_mean.2.2.2.1.1 4 rfl ?_
    refine V_ldc2 (n := 100) cw_X11_321 (by decide) dec_X11_mean.2.2.2.1.2 ?_
    refine V_iload_n dec_X11_mean.2.2.2.2.1 3 rfl ?_
    refine V_callS0 (As := [(1, x4), (1, 100), (0, x3)]) (st := []) (host := "") rfl (X11_inLowestTerms_s G l s x4 100 x3) cal_X11_inLowestTerms rfl (Or.inl ml_X11_323) rfl rfl dec_X11_mean.2.2.2.2.2.1 (k_tag (tag := 1) rfl fun r7 s8 => ?_)
    exact V_lret rfl dec_X11_mean.2.2.2.2.2.2
  · refine V_lload dec_X11_mean.2.1.1.1.1 4 rfl ?_
    refine V_aload_n dec_X11_mean.2.1.1.1.2 0 rfl ?_
    refine V_getR 11 12 nf_11_12 ft_11_12 fl_X11_67 dec_X11_mean.2.1.1.2.1 ?_
    refine V_aload_n dec_X11_mean.2.1.1.2.2 0 rfl ?_
    refine V_getR 11 7 nf_11_7 ft_11_7 fl_X11_36 dec_X11_mean.2.1.2.1.1 ?_
    refine V_iload dec_X11_mean.2.1.2.1.2 5 rfl ?_
    refine V_iload_n dec_X11_mean.2.1.2.2.1 1 rfl ?_
    refine V_iload_n dec_X11_mean.2.1.2.2.2.1 2 rfl ?_
    refine V_callV0 (ci := 2) (a := (gR s x0 12)) (As := [(2, (gR s x0 7)), (0, x6), (0, x1), (0, x2)]) (st := [(1, x4)]) rfl rfl (X2_hundredths_s G l s (gR s x0 12) (gR s x0 7) x6 x1 x2) cal_X2_hundredths rfl ml_X11_317 rfl rfl dec_X11_mean.2.1.2.2.2.2 (k_tag (tag := 0) rfl fun r9 s10 => ?_)
    refine V_i2l dec_X11_mean.2.2.1.1.1 ?_
    refine V_ladd dec_X11_mean.2.2.1.1.2 ?_
    refine V_lstore (lv' := [(4, (1, (w64 (x4 + r9)))), (0, (2, x0)), (1, (0, x1)), (2, (0, x2)), (3, (0, x3)), (6, (0, x6))]) dec_X11_mean.2.2.1.2.1 (by decide) rfl ?_
    refine V_iinc (lv' := [(6, (0, (w32 (x6 + 1)))), (4, (1, (w64 (x4 + r9)))), (0, (2, x0)), (1, (0, x1)), (2, (0, x2)), (3, (0, x3))]) dec_X11_mean.2.2.1.2.2.1 5 rfl (by decide) rfl ?_
    refine V_goto (tgt := 26) dec_X11_mean.2.2.1.2.2.2 (by decide) ?_
    exact V_pick [2, 3, 4, 5, 1, 0] rfl (hk26 s10 x0 x1 x2 x3 (w64 (x4 + r9)) (w32 (x6 + 1)))
theorem X11_mean_b26_s (G : Gx) (l : Launch) (n : Nat) (s : St) (x0 x1 x2 x3 x4 x6 : Int) : V G l mX11_mean 26 [(0, (2, x0)), (1, (0, x1)), (2, (0, x2)), (3, (0, x3)), (4, (1, x4)), (6, (0, x6))] [] s (X11_mean_b26 n s x0 x1 x2 x3 x4 x6) :=
  V_iter (LV := fun a : St × Int × Int × Int × Int × Int × Int => [(0, (2, a.2.1)), (1, (0, a.2.2.1)), (2, (0, a.2.2.2.1)), (3, (0, a.2.2.2.2.1)), (4, (1, a.2.2.2.2.2.1)), (6, (0, a.2.2.2.2.2.2))]) (ST := fun a : St × Int × Int × Int × Int × Int × Int => []) (SS := fun a : St × Int × Int × Int × Int × Int × Int => a.1) (fun rec hrec a => X11_mean_b26_body_s G l (fun (s : St) (x0 x1 x2 x3 x4 x6 : Int) => rec (s, x0, x1, x2, x3, x4, x6)) (fun (s : St) (x0 x1 x2 x3 x4 x6 : Int) => hrec (s, x0, x1, x2, x3, x4, x6)) a.1 a.2.1 a.2.2.1 a.2.2.2.1 a.2.2.2.2.1 a.2.2.2.2.2.1 a.2.2.2.2.2.2) n (s, x0, x1, x2, x3, x4, x6)
def X11_mean (s : St) (a0 a1 a2 a3 : Int) : Rs :=
  grd (isK s 21 a0) (bnd (X11_isNoPerson s a0 a1) (fun r1 s2 => bnd (X11_isNoNight s2 a2) (fun r3 s4 => grd (isK s4 21 a0) (bnd (X11_refused s4 a0 r1 r3) (fun r5 s6 => if r5 = 0 then (X11_mean_b26 FU s6 a0 a1 a2 a3 0 0) else (some ((-1), s6)))))))
set_option maxRecDepth 100000 in
set_option maxHeartbeats 4000000 in
theorem X11_mean_s (G : Gx) (l : Launch) (s : St) (a0 a1 a2 a3 : Int) : Snd G l mX11_mean [(2, a0), (0, a1), (0, a2), (0, a3)] s (X11_mean s a0 a1 a2 a3) := by
  refine Snd.of (by decide +kernel) rfl ?_
  show V G l mX11_mean 0 [(0, (2, a0)), (1, (0, a1)), (2, (0, a2)), (3, (0, a3))] [] s _
  unfold X11_mean
  refine V_aload_n dec_X11_mean.1.1.1.1.1 0 rfl ?_
  refine V_aload_n dec_X11_mean.1.1.1.1.2 0 rfl ?_
  refine V_iload_n dec_X11_mean.1.1.1.2.1 1 rfl ?_
  refine V_callV0 (ci := 11) (a := a0) (As := [(0, a1)]) (st := [(2, a0)]) rfl rfl (X11_isNoPerson_s G l s a0 a1) cal_X11_isNoPerson rfl ml_X11_139 rfl rfl dec_X11_mean.1.1.1.2.2 (k_tag (tag := 0) rfl fun r1 s2 => ?_)
  refine V_iload_n dec_X11_mean.1.1.2.1.1 2 rfl ?_
  refine V_callS0 (As := [(0, a2)]) (st := [(0, r1), (2, a0)]) (host := "") rfl (X11_isNoNight_s G l s2 a2) cal_X11_isNoNight rfl (Or.inl ml_X11_187) rfl rfl dec_X11_mean.1.1.2.1.2 (k_tag (tag := 0) rfl fun r3 s4 => ?_)
  refine V_callV0 (ci := 11) (a := a0) (As := [(0, r1), (0, r3)]) (st := []) rfl rfl (X11_refused_s G l s4 a0 r1 r3) cal_X11_refused rfl ml_X11_92 rfl rfl dec_X11_mean.1.1.2.2.1 (k_tag (tag := 0) rfl fun r5 s6 => ?_)
  refine V_if_eq (tgt := 20) dec_X11_mean.1.1.2.2.2.1 (by decide) ?_ ?_
  · refine V_lconst (n := 0) dec_X11_mean.1.2.1.1.2 (by decide) ?_
    refine V_lstore (lv' := [(4, (1, 0)), (0, (2, a0)), (1, (0, a1)), (2, (0, a2)), (3, (0, a3))]) dec_X11_mean.1.2.1.2.1 (by decide) rfl ?_
    refine V_iconst dec_X11_mean.1.2.1.2.2.1 rfl ?_
    refine V_istore (lv' := [(6, (0, 0)), (4, (1, 0)), (0, (2, a0)), (1, (0, a1)), (2, (0, a2)), (3, (0, a3))]) dec_X11_mean.1.2.1.2.2.2 (by decide) rfl ?_
    exact V_pick [2, 3, 4, 5, 1, 0] rfl (X11_mean_b26_s G l FU s6 a0 a1 a2 a3 0 0)
  · refine V_ldc2 (n := (-1)) cw_X11_315 (by decide) dec_X11_mean.1.1.2.2.2.2 ?_
    exact V_lret rfl dec_X11_mean.1.2.1.1.1
theorem dec_X11_medium : (((((decode cX11_medium 0 = .ok (.aload_n 0, 1) ∧ decode cX11_medium 1 = .ok (.aload_n 0, 1)) ∧ (decode cX11_medium 2 = .ok (.invokevirtual 203, 3) ∧ decode cX11_medium 5 = .ok (.iload_n 1, 1))) ∧ ((decode cX11_medium 6 = .ok (.invokestatic 187, 3) ∧ decode cX11_medium 9 = .ok (.invokevirtual 92, 3)) ∧ (decode cX11_medium 12 = .ok (.ifCond .eq 5, 3) ∧ (decode cX11_medium 15 = .ok (.iconst (-1), 1) ∧ decode cX11_medium 16 = .ok (.ireturn, 1))))) ∧ (((decode cX11_medium 17 = .ok (.iconst 0, 1) ∧ decode cX11_medium 18 = .ok (.istore_n 2, 1)) ∧ (decode cX11_medium 19 = .ok (.iconst (-1), 1) ∧ (decode cX11_medium 20 = .ok (.istore_n 3, 1) ∧ decode cX11_medium 21 = .ok (.iconst 0, 1)))) ∧ ((decode cX11_medium 22 = .ok (.istore 4, 2) ∧ decode cX11_medium 24 = .ok (.iload 4, 2)) ∧ (decode cX11_medium 26 = .ok (.aload_n 0, 1) ∧ (decode cX11_medium 27 = .ok (.getfield 27, 3) ∧ decode cX11_medium 30 = .ok (.getfield 133, 3)))))) ∧ ((((decode cX11_medium 33 = .ok (.if_icmp .ge 36, 3) ∧ decode cX11_medium 36 = .ok (.aload_n 0, 1)) ∧ (decode cX11_medium 37 = .ok (.getfield 36, 3) ∧ decode cX11_medium 40 = .ok (.iload 4, 2))) ∧ ((decode cX11_medium 42 = .ok (.iload_n 1, 1) ∧ decode cX11_medium 43 = .ok (.invokevirtual 156, 3)) ∧ (decode cX11_medium 46 = .ok (.invokestatic 210, 3) ∧ (decode cX11_medium 49 = .ok (.istore 5, 2) ∧ decode cX11_medium 51 = .ok (.iload 5, 2))))) ∧ (((decode cX11_medium 53 = .ok (.iload_n 3, 1) ∧ decode cX11_medium 54 = .ok (.if_icmp .le 9, 3)) ∧ (decode cX11_medium 57 = .ok (.iload 5, 2) ∧ (decode cX11_medium 59 = .ok (.istore_n 3, 1) ∧ decode cX11_medium 60 = .ok (.iload 4, 2)))) ∧ ((decode cX11_medium 62 = .ok (.istore_n 2, 1) ∧ decode cX11_medium 63 = .ok (.iinc 4 1, 3)) ∧ (decode cX11_medium 66 = .ok (.goto (-42), 3) ∧ (decode cX11_medium 69 = .ok (.iload_n 2, 1) ∧ decode cX11_medium 70 = .ok (.ireturn, 1))))))) := ⟨⟨by decide +kernel, by decide +kernel⟩, ⟨by decide +kernel, by decide +kernel⟩⟩
def X11_medium_b63 (rk24 : St → Int → Int → Int → Int → Int → Rs) (s : St) (x0 x1 x2 x3 x4 : Int) : Rs :=
  rk24 s x0 x1 x2 x3 (w32 (x4 + 1))
set_option maxRecDepth 100000 in
set_option maxHeartbeats 4000000 in
theorem X11_medium_b63_s (G : Gx) (l : Launch) (rk24 : St → Int → Int → Int → Int → Int → Rs) (hk24 : ∀ (s : St) (x0 x1 x2 x3 x4 : Int), V G l mX11_medium 24 [(0, (2, x0)), (1, (0, x1)), (2, (0, x2)), (3, (0, x3)), (4, (0, x4))] [] s (rk24 s x0 x1 x2 x3 x4)) (s : St) (x0 x1 x2 x3 x4 : Int) : V G l mX11_medium 63 [(0, (2, x0)), (1, (0, x1)), (2, (0, x2)), (3, (0, x3)), (4, (0, x4))] [] s (X11_medium_b63 rk24 s x0 x1 x2 x3 x4) := by
  unfold X11_medium_b63
  refine V_iinc (lv' := [(4, (0, (w32 (x4 + 1)))), (0, (2, x0)), (1, (0, x1)), (2, (0, x2)), (3, (0, x3))]) dec_X11_medium.2.2.2.1.2 4 rfl (by decide) rfl ?_
  refine V_goto (tgt := 24) dec_X11_medium.2.2.2.2.1 (by decide) ?_
  exact V_pick [1, 2, 3, 4, 0] rfl (hk24 s x0 x1 x2 x3 (w32 (x4 + 1)))
def X11_medium_b24_body (rk24 : St → Int → Int → Int → Int → Int → Rs) (s : St) (x0 x1 x2 x3 x4 : Int) : Rs :=
  grd (isK s 21 x0) (grd (isK s 19 (gR s x0 6)) (if (gI s (gR s x0 6) 2) ≤ x4 then (some (x2, s)) else (grd (isK s 21 x0) (grd (isK s 20 (gR s x0 7)) (bnd (X10_heardBits s (gR s x0 7) x4 x1) (fun r7 s8 => bnd (J6_bitCount_0f7a4 s8 r7) (fun r9 s10 => if r9 ≤ x3 then (X11_medium_b63 rk24 s10 x0 x1 x2 x3 x4) else (X11_medium_b63 rk24 s10 x0 x1 x4 r9 x4))))))))
def X11_medium_b24 (n : Nat) (s : St) (x0 x1 x2 x3 x4 : Int) : Rs := iter (fun (rec : St × Int × Int × Int × Int × Int → Rs) (a : St × Int × Int × Int × Int × Int) => X11_medium_b24_body (fun (s : St) (x0 x1 x2 x3 x4 : Int) => rec (s, x0, x1, x2, x3, x4)) a.1 a.2.1 a.2.2.1 a.2.2.2.1 a.2.2.2.2.1 a.2.2.2.2.2) n (s, x0, x1, x2, x3, x4)
theorem X11_medium_b24_0 (s : St) (x0 x1 x2 x3 x4 : Int) : X11_medium_b24 0 s x0 x1 x2 x3 x4 = none := rfl
theorem X11_medium_b24_1 (n : Nat) (s : St) (x0 x1 x2 x3 x4 : Int) : X11_medium_b24 (n + 1) s x0 x1 x2 x3 x4 = X11_medium_b24_body (X11_medium_b24 n) s x0 x1 x2 x3 x4 := rfl
set_option maxRecDepth 100000 in
set_option maxHeartbeats 4000000 in
theorem X11_medium_b24_body_s (G : Gx) (l : Launch) (rk24 : St → Int → Int → Int → Int → Int → Rs) (hk24 : ∀ (s : St) (x0 x1 x2 x3 x4 : Int), V G l mX11_medium 24 [(0, (2, x0)), (1, (0, x1)), (2, (0, x2)), (3, (0, x3)), (4, (0, x4))] [] s (rk24 s x0 x1 x2 x3 x4)) (s : St) (x0 x1 x2 x3 x4 : Int) : V G l mX11_medium 24 [(0, (2, x0)), (1, (0, x1)), (2, (0, x2)), (3, (0, x3)), (4, (0, x4))] [] s (X11_medium_b24_body rk24 s x0 x1 x2 x3 x4) := by
  unfold X11_medium_b24_body
  refine V_iload dec_X11_medium.1.2.2.1.2 4 rfl ?_
  refine V_aload_n dec_X11_medium.1.2.2.2.1 0 rfl ?_
  refine V_getR 11 6 nf_11_6 ft_11_6 fl_X11_27 dec_X11_medium.1.2.2.2.2.1 ?_
  refine V_getI 9 2 nf_9_2 ft_9_2 fl_X11_133 dec_X11_medium.1.2.2.2.2.2 ?_
  refine V_icmp_ge (tgt := 69) dec_X11_medium.2.1.1.1.1 (by decide) ?_ ?_
  · refine V_iload_n dec_X11_medium.2.2.2.2.2.1 2 rfl ?_
    exact V_iret rfl dec_X11_medium.2.2.2.2.2.2
  · refine V_aload_n dec_X11_medium.2.1.1.1.2 0 rfl ?_
    refine V_getR 11 7 nf_11_7 ft_11_7 fl_X11_36 dec_X11_medium.2.1.1.2.1 ?_
    refine V_iload dec_X11_medium.2.1.1.2.2 4 rfl ?_
    refine V_iload_n dec_X11_medium.2.1.2.1.1 1 rfl ?_
    refine V_callV0 (ci := 10) (a := (gR s x0 7)) (As := [(0, x4), (0, x1)]) (st := []) rfl rfl (X10_heardBits_s G l s (gR s x0 7) x4 x1) cal_X10_heardBits rfl ml_X11_156 rfl rfl dec_X11_medium.2.1.2.1.2 (k_tag (tag := 0) rfl fun r7 s8 => ?_)
    refine V_callS0 (As := [(0, r7)]) (st := []) (host := "") rfl (J6_bitCount_0f7a4_s G l s8 r7) cal_J6_bitCount_0f7a4 rfl (Or.inl ml_X11_210) rfl rfl dec_X11_medium.2.1.2.2.1 (k_tag (tag := 0) rfl fun r9 s10 => ?_)
    refine V_istore (lv' := [(5, (0, r9)), (0, (2, x0)), (1, (0, x1)), (2, (0, x2)), (3, (0, x3)), (4, (0, x4))]) dec_X11_medium.2.1.2.2.2.1 (by decide) rfl ?_
    refine V_iload dec_X11_medium.2.1.2.2.2.2 0 rfl ?_
    refine V_iload_n dec_X11_medium.2.2.1.1.1 4 rfl ?_
    refine V_icmp_le (tgt := 63) dec_X11_medium.2.2.1.1.2 (by decide) ?_ ?_
    · exact V_pick [1, 2, 3, 4, 5] rfl (X11_medium_b63_s G l rk24 hk24 s10 x0 x1 x2 x3 x4)
    · refine V_iload dec_X11_medium.2.2.1.2.1 0 rfl ?_
      refine V_istore_n (lv' := [(3, (0, r9)), (5, (0, r9)), (0, (2, x0)), (1, (0, x1)), (2, (0, x2)), (4, (0, x4))]) dec_X11_medium.2.2.1.2.2.1 (by decide) rfl ?_
      refine V_iload dec_X11_medium.2.2.1.2.2.2 5 rfl ?_
      refine V_istore_n (lv' := [(2, (0, x4)), (3, (0, r9)), (5, (0, r9)), (0, (2, x0)), (1, (0, x1)), (4, (0, x4))]) dec_X11_medium.2.2.2.1.1 (by decide) rfl ?_
      exact V_pick [3, 4, 0, 1, 5] rfl (X11_medium_b63_s G l rk24 hk24 s10 x0 x1 x4 r9 x4)
theorem X11_medium_b24_s (G : Gx) (l : Launch) (n : Nat) (s : St) (x0 x1 x2 x3 x4 : Int) : V G l mX11_medium 24 [(0, (2, x0)), (1, (0, x1)), (2, (0, x2)), (3, (0, x3)), (4, (0, x4))] [] s (X11_medium_b24 n s x0 x1 x2 x3 x4) :=
  V_iter (LV := fun a : St × Int × Int × Int × Int × Int => [(0, (2, a.2.1)), (1, (0, a.2.2.1)), (2, (0, a.2.2.2.1)), (3, (0, a.2.2.2.2.1)), (4, (0, a.2.2.2.2.2))]) (ST := fun a : St × Int × Int × Int × Int × Int => []) (SS := fun a : St × Int × Int × Int × Int × Int => a.1) (fun rec hrec a => X11_medium_b24_body_s G l (fun (s : St) (x0 x1 x2 x3 x4 : Int) => rec (s, x0, x1, x2, x3, x4)) (fun (s : St) (x0 x1 x2 x3 x4 : Int) => hrec (s, x0, x1, x2, x3, x4)) a.1 a.2.1 a.2.2.1 a.2.2.2.1 a.2.2.2.2.1 a.2.2.2.2.2) n (s, x0, x1, x2, x3, x4)
def X11_medium (s : St) (a0 a1 : Int) : Rs :=
  grd (isK s 21 a0) (bnd (X11_isNoTown s a0) (fun r1 s2 => bnd (X11_isNoNight s2 a1) (fun r3 s4 => grd (isK s4 21 a0) (bnd (X11_refused s4 a0 r1 r3) (fun r5 s6 => if r5 = 0 then (X11_medium_b24 FU s6 a0 a1 0 (-1) 0) else (some ((-1), s6)))))))
set_option maxRecDepth 100000 in
set_option maxHeartbeats 4000000 in
theorem X11_medium_s (G : Gx) (l : Launch) (s : St) (a0 a1 : Int) : Snd G l mX11_medium [(2, a0), (0, a1)] s (X11_medium s a0 a1) := by
  refine Snd.of (by decide +kernel) rfl ?_
  show V G l mX11_medium 0 [(0, (2, a0)), (1, (0, a1))] [] s _
  unfold X11_medium
  refine V_aload_n dec_X11_medium.1.1.1.1.1 0 rfl ?_
  refine V_aload_n dec_X11_medium.1.1.1.1.2 0 rfl ?_
  refine V_callV0 (ci := 11) (a := a0) (As := []) (st := [(2, a0)]) rfl rfl (X11_isNoTown_s G l s a0) cal_X11_isNoTown rfl ml_X11_203 rfl rfl dec_X11_medium.1.1.1.2.1 (k_tag (tag := 0) rfl fun r1 s2 => ?_)
  refine V_iload_n dec_X11_medium.1.1.1.2.2 1 rfl ?_
  refine V_callS0 (As := [(0, a1)]) (st := [(0, r1), (2, a0)]) (host := "") rfl (X11_isNoNight_s G l s2 a1) cal_X11_isNoNight rfl (Or.inl ml_X11_187) rfl rfl dec_X11_medium.1.1.2.1.1 (k_tag (tag := 0) rfl fun r3 s4 => ?_)
  refine V_callV0 (ci := 11) (a := a0) (As := [(0, r1), (0, r3)]) (st := []) rfl rfl (X11_refused_s G l s4 a0 r1 r3) cal_X11_refused rfl ml_X11_92 rfl rfl dec_X11_medium.1.1.2.1.2 (k_tag (tag := 0) rfl fun r5 s6 => ?_)
  refine V_if_eq (tgt := 17) dec_X11_medium.1.1.2.2.1 (by decide) ?_ ?_
  · refine V_iconst dec_X11_medium.1.2.1.1.1 rfl ?_
    refine V_istore_n (lv' := [(2, (0, 0)), (0, (2, a0)), (1, (0, a1))]) dec_X11_medium.1.2.1.1.2 (by decide) rfl ?_
    refine V_iconst dec_X11_medium.1.2.1.2.1 rfl ?_
    refine V_istore_n (lv' := [(3, (0, (-1))), (2, (0, 0)), (0, (2, a0)), (1, (0, a1))]) dec_X11_medium.1.2.1.2.2.1 (by decide) rfl ?_
    refine V_iconst dec_X11_medium.1.2.1.2.2.2 rfl ?_
    refine V_istore (lv' := [(4, (0, 0)), (3, (0, (-1))), (2, (0, 0)), (0, (2, a0)), (1, (0, a1))]) dec_X11_medium.1.2.2.1.1 (by decide) rfl ?_
    exact V_pick [3, 4, 2, 1, 0] rfl (X11_medium_b24_s G l FU s6 a0 a1 0 (-1) 0)
  · refine V_iconst dec_X11_medium.1.1.2.2.2.1 rfl ?_
    exact V_iret rfl dec_X11_medium.1.1.2.2.2.2
theorem dec_X11_mirrorBest : (((((decode cX11_mirrorBest 0 = .ok (.aload_n 0, 1) ∧ decode cX11_mirrorBest 1 = .ok (.aload_n 0, 1)) ∧ (decode cX11_mirrorBest 2 = .ok (.iload_n 1, 1) ∧ decode cX11_mirrorBest 3 = .ok (.invokevirtual 160, 3))) ∧ ((decode cX11_mirrorBest 6 = .ok (.iconst 0, 1) ∧ decode cX11_mirrorBest 7 = .ok (.invokevirtual 92, 3)) ∧ (decode cX11_mirrorBest 10 = .ok (.ifCond .eq 5, 3) ∧ (decode cX11_mirrorBest 13 = .ok (.iconst (-1), 1) ∧ decode cX11_mirrorBest 14 = .ok (.ireturn, 1))))) ∧ (((decode cX11_mirrorBest 15 = .ok (.iconst 0, 1) ∧ decode cX11_mirrorBest 16 = .ok (.istore_n 2, 1)) ∧ (decode cX11_mirrorBest 17 = .ok (.iconst (-1), 1) ∧ decode cX11_mirrorBest 18 = .ok (.istore_n 3, 1))) ∧ ((decode cX11_mirrorBest 19 = .ok (.iconst 0, 1) ∧ decode cX11_mirrorBest 20 = .ok (.istore 4, 2)) ∧ (decode cX11_mirrorBest 22 = .ok (.iload 4, 2) ∧ (decode cX11_mirrorBest 24 = .ok (.aload_n 0, 1) ∧ decode cX11_mirrorBest 25 = .ok (.getfield 27, 3)))))) ∧ ((((decode cX11_mirrorBest 28 = .ok (.getfield 228, 3) ∧ decode cX11_mirrorBest 31 = .ok (.if_icmp .ge 33, 3)) ∧ (decode cX11_mirrorBest 34 = .ok (.aload_n 0, 1) ∧ decode cX11_mirrorBest 35 = .ok (.getfield 36, 3))) ∧ ((decode cX11_mirrorBest 38 = .ok (.iload_n 1, 1) ∧ decode cX11_mirrorBest 39 = .ok (.iload 4, 2)) ∧ (decode cX11_mirrorBest 41 = .ok (.invokevirtual 238, 3) ∧ (decode cX11_mirrorBest 44 = .ok (.istore 5, 2) ∧ decode cX11_mirrorBest 46 = .ok (.iload 5, 2))))) ∧ (((decode cX11_mirrorBest 48 = .ok (.iload_n 3, 1) ∧ decode cX11_mirrorBest 49 = .ok (.if_icmp .le 9, 3)) ∧ (decode cX11_mirrorBest 52 = .ok (.iload 5, 2) ∧ (decode cX11_mirrorBest 54 = .ok (.istore_n 3, 1) ∧ decode cX11_mirrorBest 55 = .ok (.iload 4, 2)))) ∧ ((decode cX11_mirrorBest 57 = .ok (.istore_n 2, 1) ∧ decode cX11_mirrorBest 58 = .ok (.iinc 4 1, 3)) ∧ (decode cX11_mirrorBest 61 = .ok (.goto (-39), 3) ∧ (decode cX11_mirrorBest 64 = .ok (.iload_n 2, 1) ∧ decode cX11_mirrorBest 65 = .ok (.ireturn, 1))))))) := ⟨⟨by decide +kernel, by decide +kernel⟩, ⟨by decide +kernel, by decide +kernel⟩⟩
def X11_mirrorBest_b58 (rk22 : St → Int → Int → Int → Int → Int → Rs) (s : St) (x0 x1 x2 x3 x4 : Int) : Rs :=
  rk22 s x0 x1 x2 x3 (w32 (x4 + 1))
set_option maxRecDepth 100000 in
set_option maxHeartbeats 4000000 in
theorem X11_mirrorBest_b58_s (G : Gx) (l : Launch) (rk22 : St → Int → Int → Int → Int → Int → Rs) (hk22 : ∀ (s : St) (x0 x1 x2 x3 x4 : Int), V G l mX11_mirrorBest 22 [(0, (2, x0)), (1, (0, x1)), (2, (0, x2)), (3, (0, x3)), (4, (0, x4))] [] s (rk22 s x0 x1 x2 x3 x4)) (s : St) (x0 x1 x2 x3 x4 : Int) : V G l mX11_mirrorBest 58 [(0, (2, x0)), (1, (0, x1)), (2, (0, x2)), (3, (0, x3)), (4, (0, x4))] [] s (X11_mirrorBest_b58 rk22 s x0 x1 x2 x3 x4) := by
  unfold X11_mirrorBest_b58
  refine V_iinc (lv' := [(4, (0, (w32 (x4 + 1)))), (0, (2, x0)), (1, (0, x1)), (2, (0, x2)), (3, (0, x3))]) dec_X11_mirrorBest.2.2.2.1.2 4 rfl (by decide) rfl ?_
  refine V_goto (tgt := 22) dec_X11_mirrorBest.2.2.2.2.1 (by decide) ?_
  exact V_pick [1, 2, 3, 4, 0] rfl (hk22 s x0 x1 x2 x3 (w32 (x4 + 1)))
def X11_mirrorBest_b22_body (rk22 : St → Int → Int → Int → Int → Int → Rs) (s : St) (x0 x1 x2 x3 x4 : Int) : Rs :=
  grd (isK s 21 x0) (grd (isK s 19 (gR s x0 6)) (if (gI s (gR s x0 6) 0) ≤ x4 then (some (x2, s)) else (grd (isK s 21 x0) (grd (isK s 20 (gR s x0 7)) (bnd (X10_rightNightsWith s (gR s x0 7) x1 x4) (fun r5 s6 => if r5 ≤ x3 then (X11_mirrorBest_b58 rk22 s6 x0 x1 x2 x3 x4) else (X11_mirrorBest_b58 rk22 s6 x0 x1 x4 r5 x4)))))))
def X11_mirrorBest_b22 (n : Nat) (s : St) (x0 x1 x2 x3 x4 : Int) : Rs := iter (fun (rec : St × Int × Int × Int × Int × Int → Rs) (a : St × Int × Int × Int × Int × Int) => X11_mirrorBest_b22_body (fun (s : St) (x0 x1 x2 x3 x4 : Int) => rec (s, x0, x1, x2, x3, x4)) a.1 a.2.1 a.2.2.1 a.2.2.2.1 a.2.2.2.2.1 a.2.2.2.2.2) n (s, x0, x1, x2, x3, x4)
theorem X11_mirrorBest_b22_0 (s : St) (x0 x1 x2 x3 x4 : Int) : X11_mirrorBest_b22 0 s x0 x1 x2 x3 x4 = none := rfl
theorem X11_mirrorBest_b22_1 (n : Nat) (s : St) (x0 x1 x2 x3 x4 : Int) : X11_mirrorBest_b22 (n + 1) s x0 x1 x2 x3 x4 = X11_mirrorBest_b22_body (X11_mirrorBest_b22 n) s x0 x1 x2 x3 x4 := rfl
set_option maxRecDepth 100000 in
set_option maxHeartbeats 4000000 in
theorem X11_mirrorBest_b22_body_s (G : Gx) (l : Launch) (rk22 : St → Int → Int → Int → Int → Int → Rs) (hk22 : ∀ (s : St) (x0 x1 x2 x3 x4 : Int), V G l mX11_mirrorBest 22 [(0, (2, x0)), (1, (0, x1)), (2, (0, x2)), (3, (0, x3)), (4, (0, x4))] [] s (rk22 s x0 x1 x2 x3 x4)) (s : St) (x0 x1 x2 x3 x4 : Int) : V G l mX11_mirrorBest 22 [(0, (2, x0)), (1, (0, x1)), (2, (0, x2)), (3, (0, x3)), (4, (0, x4))] [] s (X11_mirrorBest_b22_body rk22 s x0 x1 x2 x3 x4) := by
  unfold X11_mirrorBest_b22_body
  refine V_iload dec_X11_mirrorBest.1.2.2.2.1 4 rfl ?_
  refine V_aload_n dec_X11_mirrorBest.1.2.2.2.2.1 0 rfl ?_
  refine V_getR 11 6 nf_11_6 ft_11_6 fl_X11_27 dec_X11_mirrorBest.1.2.2.2.2.2 ?_
  refine V_getI 9 0 nf_9_0 ft_9_0 fl_X11_228 dec_X11_mirrorBest.2.1.1.1.1 ?_
  refine V_icmp_ge (tgt := 64) dec_X11_mirrorBest.2.1.1.1.2 (by decide) ?_ ?_
  · refine V_iload_n dec_X11_mirrorBest.2.2.2.2.2.1 2 rfl ?_
    exact V_iret rfl dec_X11_mirrorBest.2.2.2.2.2.2
  · refine V_aload_n dec_X11_mirrorBest.2.1.1.2.1 0 rfl ?_
    refine V_getR 11 7 nf_11_7 ft_11_7 fl_X11_36 dec_X11_mirrorBest.2.1.1.2.2 ?_
    refine V_iload_n dec_X11_mirrorBest.2.1.2.1.1 1 rfl ?_
    refine V_iload dec_X11_mirrorBest.2.1.2.1.2 4 rfl ?_
    refine V_callV0 (ci := 10) (a := (gR s x0 7)) (As := [(0, x1), (0, x4)]) (st := []) rfl rfl (X10_rightNightsWith_s G l s (gR s x0 7) x1 x4) cal_X10_rightNightsWith rfl ml_X11_238 rfl rfl dec_X11_mirrorBest.2.1.2.2.1 (k_tag (tag := 0) rfl fun r5 s6 => ?_)
    refine V_istore (lv' := [(5, (0, r5)), (0, (2, x0)), (1, (0, x1)), (2, (0, x2)), (3, (0, x3)), (4, (0, x4))]) dec_X11_mirrorBest.2.1.2.2.2.1 (by decide) rfl ?_
    refine V_iload dec_X11_mirrorBest.2.1.2.2.2.2 0 rfl ?_
    refine V_iload_n dec_X11_mirrorBest.2.2.1.1.1 4 rfl ?_
    refine V_icmp_le (tgt := 58) dec_X11_mirrorBest.2.2.1.1.2 (by decide) ?_ ?_
    · exact V_pick [1, 2, 3, 4, 5] rfl (X11_mirrorBest_b58_s G l rk22 hk22 s6 x0 x1 x2 x3 x4)
    · refine V_iload dec_X11_mirrorBest.2.2.1.2.1 0 rfl ?_
      refine V_istore_n (lv' := [(3, (0, r5)), (5, (0, r5)), (0, (2, x0)), (1, (0, x1)), (2, (0, x2)), (4, (0, x4))]) dec_X11_mirrorBest.2.2.1.2.2.1 (by decide) rfl ?_
      refine V_iload dec_X11_mirrorBest.2.2.1.2.2.2 5 rfl ?_
      refine V_istore_n (lv' := [(2, (0, x4)), (3, (0, r5)), (5, (0, r5)), (0, (2, x0)), (1, (0, x1)), (4, (0, x4))]) dec_X11_mirrorBest.2.2.2.1.1 (by decide) rfl ?_
      exact V_pick [3, 4, 0, 1, 5] rfl (X11_mirrorBest_b58_s G l rk22 hk22 s6 x0 x1 x4 r5 x4)
theorem X11_mirrorBest_b22_s (G : Gx) (l : Launch) (n : Nat) (s : St) (x0 x1 x2 x3 x4 : Int) : V G l mX11_mirrorBest 22 [(0, (2, x0)), (1, (0, x1)), (2, (0, x2)), (3, (0, x3)), (4, (0, x4))] [] s (X11_mirrorBest_b22 n s x0 x1 x2 x3 x4) :=
  V_iter (LV := fun a : St × Int × Int × Int × Int × Int => [(0, (2, a.2.1)), (1, (0, a.2.2.1)), (2, (0, a.2.2.2.1)), (3, (0, a.2.2.2.2.1)), (4, (0, a.2.2.2.2.2))]) (ST := fun a : St × Int × Int × Int × Int × Int => []) (SS := fun a : St × Int × Int × Int × Int × Int => a.1) (fun rec hrec a => X11_mirrorBest_b22_body_s G l (fun (s : St) (x0 x1 x2 x3 x4 : Int) => rec (s, x0, x1, x2, x3, x4)) (fun (s : St) (x0 x1 x2 x3 x4 : Int) => hrec (s, x0, x1, x2, x3, x4)) a.1 a.2.1 a.2.2.1 a.2.2.2.1 a.2.2.2.2.1 a.2.2.2.2.2) n (s, x0, x1, x2, x3, x4)
def X11_mirrorBest (s : St) (a0 a1 : Int) : Rs :=
  grd (isK s 21 a0) (bnd (X11_isNoDead s a0 a1) (fun r1 s2 => grd (isK s2 21 a0) (bnd (X11_refused s2 a0 r1 0) (fun r3 s4 => if r3 = 0 then (X11_mirrorBest_b22 FU s4 a0 a1 0 (-1) 0) else (some ((-1), s4))))))
set_option maxRecDepth 100000 in
set_option maxHeartbeats 4000000 in
theorem X11_mirrorBest_s (G : Gx) (l : Launch) (s : St) (a0 a1 : Int) : Snd G l mX11_mirrorBest [(2, a0), (0, a1)] s (X11_mirrorBest s a0 a1) := by
  refine Snd.of (by decide +kernel) rfl ?_
  show V G l mX11_mirrorBest 0 [(0, (2, a0)), (1, (0, a1))] [] s _
  unfold X11_mirrorBest
  refine V_aload_n dec_X11_mirrorBest.1.1.1.1.1 0 rfl ?_
  refine V_aload_n dec_X11_mirrorBest.1.1.1.1.2 0 rfl ?_
  refine V_iload_n dec_X11_mirrorBest.1.1.1.2.1 1 rfl ?_
  refine V_callV0 (ci := 11) (a := a0) (As := [(0, a1)]) (st := [(2, a0)]) rfl rfl (X11_isNoDead_s G l s a0 a1) cal_X11_isNoDead rfl ml_X11_160 rfl rfl dec_X11_mirrorBest.1.1.1.2.2 (k_tag (tag := 0) rfl fun r1 s2 => ?_)
  refine V_iconst dec_X11_mirrorBest.1.1.2.1.1 rfl ?_
  refine V_callV0 (ci := 11) (a := a0) (As := [(0, r1), (0, 0)]) (st := []) rfl rfl (X11_refused_s G l s2 a0 r1 0) cal_X11_refused rfl ml_X11_92 rfl rfl dec_X11_mirrorBest.1.1.2.1.2 (k_tag (tag := 0) rfl fun r3 s4 => ?_)
  refine V_if_eq (tgt := 15) dec_X11_mirrorBest.1.1.2.2.1 (by decide) ?_ ?_
  · refine V_iconst dec_X11_mirrorBest.1.2.1.1.1 rfl ?_
    refine V_istore_n (lv' := [(2, (0, 0)), (0, (2, a0)), (1, (0, a1))]) dec_X11_mirrorBest.1.2.1.1.2 (by decide) rfl ?_
    refine V_iconst dec_X11_mirrorBest.1.2.1.2.1 rfl ?_
    refine V_istore_n (lv' := [(3, (0, (-1))), (2, (0, 0)), (0, (2, a0)), (1, (0, a1))]) dec_X11_mirrorBest.1.2.1.2.2 (by decide) rfl ?_
    refine V_iconst dec_X11_mirrorBest.1.2.2.1.1 rfl ?_
    refine V_istore (lv' := [(4, (0, 0)), (3, (0, (-1))), (2, (0, 0)), (0, (2, a0)), (1, (0, a1))]) dec_X11_mirrorBest.1.2.2.1.2 (by decide) rfl ?_
    exact V_pick [3, 4, 2, 1, 0] rfl (X11_mirrorBest_b22_s G l FU s4 a0 a1 0 (-1) 0)
  · refine V_iconst dec_X11_mirrorBest.1.1.2.2.2.1 rfl ?_
    exact V_iret rfl dec_X11_mirrorBest.1.1.2.2.2.2
theorem dec_X11_mirrorFor : (((((decode cX11_mirrorFor 0 = .ok (.aload_n 0, 1) ∧ decode cX11_mirrorFor 1 = .ok (.aload_n 0, 1)) ∧ (decode cX11_mirrorFor 2 = .ok (.iload_n 1, 1) ∧ decode cX11_mirrorFor 3 = .ok (.invokevirtual 160, 3))) ∧ ((decode cX11_mirrorFor 6 = .ok (.iload_n 2, 1) ∧ decode cX11_mirrorFor 7 = .ok (.invokestatic 187, 3)) ∧ (decode cX11_mirrorFor 10 = .ok (.invokevirtual 92, 3) ∧ (decode cX11_mirrorFor 13 = .ok (.ifCond .eq 5, 3) ∧ decode cX11_mirrorFor 16 = .ok (.iconst (-1), 1))))) ∧ (((decode cX11_mirrorFor 17 = .ok (.ireturn, 1) ∧ decode cX11_mirrorFor 18 = .ok (.iconst 0, 1)) ∧ (decode cX11_mirrorFor 19 = .ok (.istore_n 3, 1) ∧ decode cX11_mirrorFor 20 = .ok (.iload_n 3, 1))) ∧ ((decode cX11_mirrorFor 21 = .ok (.aload_n 0, 1) ∧ decode cX11_mirrorFor 22 = .ok (.getfield 27, 3)) ∧ (decode cX11_mirrorFor 25 = .ok (.getfield 228, 3) ∧ (decode cX11_mirrorFor 28 = .ok (.if_icmp .ge 36, 3) ∧ decode cX11_mirrorFor 31 = .ok (.aload_n 0, 1)))))) ∧ ((((decode cX11_mirrorFor 32 = .ok (.getfield 36, 3) ∧ decode cX11_mirrorFor 35 = .ok (.iload_n 1, 1)) ∧ (decode cX11_mirrorFor 36 = .ok (.aload_n 0, 1) ∧ decode cX11_mirrorFor 37 = .ok (.getfield 36, 3))) ∧ ((decode cX11_mirrorFor 40 = .ok (.getfield 143, 3) ∧ decode cX11_mirrorFor 43 = .ok (.getfield 166, 3)) ∧ (decode cX11_mirrorFor 46 = .ok (.iload_n 1, 1) ∧ (decode cX11_mirrorFor 47 = .ok (.iaload, 1) ∧ decode cX11_mirrorFor 48 = .ok (.iload_n 3, 1))))) ∧ (((decode cX11_mirrorFor 49 = .ok (.iload_n 2, 1) ∧ decode cX11_mirrorFor 50 = .ok (.invokevirtual 234, 3)) ∧ (decode cX11_mirrorFor 53 = .ok (.ifCond .eq 5, 3) ∧ decode cX11_mirrorFor 56 = .ok (.iload_n 3, 1))) ∧ ((decode cX11_mirrorFor 57 = .ok (.ireturn, 1) ∧ decode cX11_mirrorFor 58 = .ok (.iinc 3 1, 3)) ∧ (decode cX11_mirrorFor 61 = .ok (.goto (-41), 3) ∧ (decode cX11_mirrorFor 64 = .ok (.bipush (-2), 2) ∧ decode cX11_mirrorFor 66 = .ok (.ireturn, 1))))))) := ⟨⟨by decide +kernel, by decide +kernel⟩, ⟨by decide +kernel, by decide +kernel⟩⟩
def X11_mirrorFor_b20_body (rk20 : St → Int → Int → Int → Int → Rs) (s : St) (x0 x1 x2 x3 : Int) : Rs :=
  grd (isK s 21 x0) (grd (isK s 19 (gR s x0 6)) (if (gI s (gR s x0 6) 0) ≤ x3 then (some ((-2), s)) else (grd (isK s 21 x0) (grd (isK s 21 x0) (grd (isK s 20 (gR s x0 7)) (grd (isK s 16 (gR s (gR s x0 7) 1)) (grd (isK s 1 (gR s (gR s (gR s x0 7) 1) 2) ∧ 0 ≤ x1 ∧ x1 < ln s (gR s (gR s (gR s x0 7) 1) 2)) (grd (isK s 20 (gR s x0 7)) (bnd (X10_isRightWith s (gR s x0 7) x1 (gI s (gR s (gR s (gR s x0 7) 1) 2) x1.toNat) x3 x2) (fun r7 s8 => if r7 = 0 then (rk20 s8 x0 x1 x2 (w32 (x3 + 1))) else (some (x3, s8))))))))))))
def X11_mirrorFor_b20 (n : Nat) (s : St) (x0 x1 x2 x3 : Int) : Rs := iter (fun (rec : St × Int × Int × Int × Int → Rs) (a : St × Int × Int × Int × Int) => X11_mirrorFor_b20_body (fun (s : St) (x0 x1 x2 x3 : Int) => rec (s, x0, x1, x2, x3)) a.1 a.2.1 a.2.2.1 a.2.2.2.1 a.2.2.2.2) n (s, x0, x1, x2, x3)
theorem X11_mirrorFor_b20_0 (s : St) (x0 x1 x2 x3 : Int) : X11_mirrorFor_b20 0 s x0 x1 x2 x3 = none := rfl
theorem X11_mirrorFor_b20_1 (n : Nat) (s : St) (x0 x1 x2 x3 : Int) : X11_mirrorFor_b20 (n + 1) s x0 x1 x2 x3 = X11_mirrorFor_b20_body (X11_mirrorFor_b20 n) s x0 x1 x2 x3 := rfl
set_option maxRecDepth 100000 in
set_option maxHeartbeats 4000000 in
theorem X11_mirrorFor_b20_body_s (G : Gx) (l : Launch) (rk20 : St → Int → Int → Int → Int → Rs) (hk20 : ∀ (s : St) (x0 x1 x2 x3 : Int), V G l mX11_mirrorFor 20 [(0, (2, x0)), (1, (0, x1)), (2, (0, x2)), (3, (0, x3))] [] s (rk20 s x0 x1 x2 x3)) (s : St) (x0 x1 x2 x3 : Int) : V G l mX11_mirrorFor 20 [(0, (2, x0)), (1, (0, x1)), (2, (0, x2)), (3, (0, x3))] [] s (X11_mirrorFor_b20_body rk20 s x0 x1 x2 x3) := by
  unfold X11_mirrorFor_b20_body
  refine V_iload_n dec_X11_mirrorFor.1.2.1.2.2 3 rfl ?_
  refine V_aload_n dec_X11_mirrorFor.1.2.2.1.1 0 rfl ?_
  refine V_getR 11 6 nf_11_6 ft_11_6 fl_X11_27 dec_X11_mirrorFor.1.2.2.1.2 ?_
  refine V_getI 9 0 nf_9_0 ft_9_0 fl_X11_228 dec_X11_mirrorFor.1.2.2.2.1 ?_
  refine V_icmp_ge (tgt := 64) dec_X11_mirrorFor.1.2.2.2.2.1 (by decide) ?_ ?_
  · refine V_bipush dec_X11_mirrorFor.2.2.2.2.2.1 rfl ?_
    exact V_iret rfl dec_X11_mirrorFor.2.2.2.2.2.2
  · refine V_aload_n dec_X11_mirrorFor.1.2.2.2.2.2 0 rfl ?_
    refine V_getR 11 7 nf_11_7 ft_11_7 fl_X11_36 dec_X11_mirrorFor.2.1.1.1.1 ?_
    refine V_iload_n dec_X11_mirrorFor.2.1.1.1.2 1 rfl ?_
    refine V_aload_n dec_X11_mirrorFor.2.1.1.2.1 0 rfl ?_
    refine V_getR 11 7 nf_11_7 ft_11_7 fl_X11_36 dec_X11_mirrorFor.2.1.1.2.2 ?_
    refine V_getR 10 1 nf_10_1 ft_10_1 fl_X11_143 dec_X11_mirrorFor.2.1.2.1.1 ?_
    refine V_getR 6 2 nf_6_2 ft_6_2 fl_X11_166 dec_X11_mirrorFor.2.1.2.1.2 ?_
    refine V_iload_n dec_X11_mirrorFor.2.1.2.2.1 1 rfl ?_
    refine V_iald dec_X11_mirrorFor.2.1.2.2.2.1 ?_
    refine V_iload_n dec_X11_mirrorFor.2.1.2.2.2.2 3 rfl ?_
    refine V_iload_n dec_X11_mirrorFor.2.2.1.1.1 2 rfl ?_
    refine V_callV0 (ci := 10) (a := (gR s x0 7)) (As := [(0, x1), (0, (gI s (gR s (gR s (gR s x0 7) 1) 2) x1.toNat)), (0, x3), (0, x2)]) (st := []) rfl rfl (X10_isRightWith_s G l s (gR s x0 7) x1 (gI s (gR s (gR s (gR s x0 7) 1) 2) x1.toNat) x3 x2) cal_X10_isRightWith rfl ml_X11_234 rfl rfl dec_X11_mirrorFor.2.2.1.1.2 (k_tag (tag := 0) rfl fun r7 s8 => ?_)
    refine V_if_eq (tgt := 58) dec_X11_mirrorFor.2.2.1.2.1 (by decide) ?_ ?_
    · refine V_iinc (lv' := [(3, (0, (w32 (x3 + 1)))), (0, (2, x0)), (1, (0, x1)), (2, (0, x2))]) dec_X11_mirrorFor.2.2.2.1.2 3 rfl (by decide) rfl ?_
      refine V_goto (tgt := 20) dec_X11_mirrorFor.2.2.2.2.1 (by decide) ?_
      exact V_pick [1, 2, 3, 0] rfl (hk20 s8 x0 x1 x2 (w32 (x3 + 1)))
    · refine V_iload_n dec_X11_mirrorFor.2.2.1.2.2 3 rfl ?_
      exact V_iret rfl dec_X11_mirrorFor.2.2.2.1.1
theorem X11_mirrorFor_b20_s (G : Gx) (l : Launch) (n : Nat) (s : St) (x0 x1 x2 x3 : Int) : V G l mX11_mirrorFor 20 [(0, (2, x0)), (1, (0, x1)), (2, (0, x2)), (3, (0, x3))] [] s (X11_mirrorFor_b20 n s x0 x1 x2 x3) :=
  V_iter (LV := fun a : St × Int × Int × Int × Int => [(0, (2, a.2.1)), (1, (0, a.2.2.1)), (2, (0, a.2.2.2.1)), (3, (0, a.2.2.2.2))]) (ST := fun a : St × Int × Int × Int × Int => []) (SS := fun a : St × Int × Int × Int × Int => a.1) (fun rec hrec a => X11_mirrorFor_b20_body_s G l (fun (s : St) (x0 x1 x2 x3 : Int) => rec (s, x0, x1, x2, x3)) (fun (s : St) (x0 x1 x2 x3 : Int) => hrec (s, x0, x1, x2, x3)) a.1 a.2.1 a.2.2.1 a.2.2.2.1 a.2.2.2.2) n (s, x0, x1, x2, x3)
def X11_mirrorFor (s : St) (a0 a1 a2 : Int) : Rs :=
  grd (isK s 21 a0) (bnd (X11_isNoDead s a0 a1) (fun r1 s2 => bnd (X11_isNoNight s2 a2) (fun r3 s4 => grd (isK s4 21 a0) (bnd (X11_refused s4 a0 r1 r3) (fun r5 s6 => if r5 = 0 then (X11_mirrorFor_b20 FU s6 a0 a1 a2 0) else (some ((-1), s6)))))))
set_option maxRecDepth 100000 in
set_option maxHeartbeats 4000000 in
theorem X11_mirrorFor_s (G : Gx) (l : Launch) (s : St) (a0 a1 a2 : Int) : Snd G l mX11_mirrorFor [(2, a0), (0, a1), (0, a2)] s (X11_mirrorFor s a0 a1 a2) := by
  refine Snd.of (by decide +kernel) rfl ?_
  show V G l mX11_mirrorFor 0 [(0, (2, a0)), (1, (0, a1)), (2, (0, a2))] [] s _
  unfold X11_mirrorFor
  refine V_aload_n dec_X11_mirrorFor.1.1.1.1.1 0 rfl ?_
  refine V_aload_n dec_X11_mirrorFor.1.1.1.1.2 0 rfl ?_
  refine V_iload_n dec_X11_mirrorFor.1.1.1.2.1 1 rfl ?_
  refine V_callV0 (ci := 11) (a := a0) (As := [(0, a1)]) (st := [(2, a0)]) rfl rfl (X11_isNoDead_s G l s a0 a1) cal_X11_isNoDead rfl ml_X11_160 rfl rfl dec_X11_mirrorFor.1.1.1.2.2 (k_tag (tag := 0) rfl fun r1 s2 => ?_)
  refine V_iload_n dec_X11_mirrorFor.1.1.2.1.1 2 rfl ?_
  refine V_callS0 (As := [(0, a2)]) (st := [(0, r1), (2, a0)]) (host := "") rfl (X11_isNoNight_s G l s2 a2) cal_X11_isNoNight rfl (Or.inl ml_X11_187) rfl rfl dec_X11_mirrorFor.1.1.2.1.2 (k_tag (tag := 0) rfl fun r3 s4 => ?_)
  refine V_callV0 (ci := 11) (a := a0) (As := [(0, r1), (0, r3)]) (st := []) rfl rfl (X11_refused_s G l s4 a0 r1 r3) cal_X11_refused rfl ml_X11_92 rfl rfl dec_X11_mirrorFor.1.1.2.2.1 (k_tag (tag := 0) rfl fun r5 s6 => ?_)
  refine V_if_eq (tgt := 18) dec_X11_mirrorFor.1.1.2.2.2.1 (by decide) ?_ ?_
  · refine V_iconst dec_X11_mirrorFor.1.2.1.1.2 rfl ?_
    refine V_istore_n (lv' := [(3, (0, 0)), (0, (2, a0)), (1, (0, a1)), (2, (0, a2))]) dec_X11_mirrorFor.1.2.1.2.1 (by decide) rfl ?_
    exact V_pick [1, 2, 3, 0] rfl (X11_mirrorFor_b20_s G l FU s6 a0 a1 a2 0)
  · refine V_iconst dec_X11_mirrorFor.1.1.2.2.2.2 rfl ?_
    exact V_iret rfl dec_X11_mirrorFor.1.2.1.1.1
theorem dec_X2_countWays : ((((((decode cX2_countWays 0 = .ok (.iconst 1, 1) ∧ decode cX2_countWays 1 = .ok (.istore_n 3, 1)) ∧ (decode cX2_countWays 2 = .ok (.iload_n 3, 1) ∧ decode cX2_countWays 3 = .ok (.bipush 6, 2))) ∧ ((decode cX2_countWays 5 = .ok (.if_icmp .gt 16, 3) ∧ decode cX2_countWays 8 = .ok (.aload_n 0, 1)) ∧ (decode cX2_countWays 9 = .ok (.getfield 9, 3) ∧ (decode cX2_countWays 12 = .ok (.iload_n 3, 1) ∧ decode cX2_countWays 13 = .ok (.lconst 0, 1))))) ∧ (((decode cX2_countWays 14 = .ok (.lastore, 1) ∧ decode cX2_countWays 15 = .ok (.iinc 3 1, 3)) ∧ (decode cX2_countWays 18 = .ok (.goto (-16), 3) ∧ (decode cX2_countWays 21 = .ok (.aload_n 0, 1) ∧ decode cX2_countWays 22 = .ok (.getfield 9, 3)))) ∧ ((decode cX2_countWays 25 = .ok (.iconst 0, 1) ∧ decode cX2_countWays 26 = .ok (.lconst 1, 1)) ∧ (decode cX2_countWays 27 = .ok (.lastore, 1) ∧ (decode cX2_countWays 28 = .ok (.iconst 0, 1) ∧ decode cX2_countWays 29 = .ok (.istore_n 3, 1)))))) ∧ ((((decode cX2_countWays 30 = .ok (.iload_n 3, 1) ∧ decode cX2_countWays 31 = .ok (.aload_n 1, 1)) ∧ (decode cX2_countWays 32 = .ok (.getfield 15, 3) ∧ (decode cX2_countWays 35 = .ok (.getfield 34, 3) ∧ decode cX2_countWays 38 = .ok (.if_icmp .ge 92, 3)))) ∧ ((decode cX2_countWays 41 = .ok (.aload_n 0, 1) ∧ decode cX2_countWays 42 = .ok (.aload_n 1, 1)) ∧ (decode cX2_countWays 43 = .ok (.iload_n 3, 1) ∧ (decode cX2_countWays 44 = .ok (.aload_n 1, 1) ∧ decode cX2_countWays 45 = .ok (.getfield 15, 3))))) ∧ (((decode cX2_countWays 48 = .ok (.getfield 37, 3) ∧ decode cX2_countWays 51 = .ok (.iload_n 3, 1)) ∧ (decode cX2_countWays 52 = .ok (.iaload, 1) ∧ (decode cX2_countWays 53 = .ok (.iload_n 2, 1) ∧ decode cX2_countWays 54 = .ok (.invokevirtual 41, 3)))) ∧ ((decode cX2_countWays 57 = .ok (.istore 4, 2) ∧ decode cX2_countWays 59 = .ok (.bipush 6, 2)) ∧ (decode cX2_countWays 61 = .ok (.istore 5, 2) ∧ (decode cX2_countWays 63 = .ok (.iload 5, 2) ∧ decode cX2_countWays 65 = .ok (.ifCond .le 44, 3))))))) ∧ (((((decode cX2_countWays 68 = .ok (.aload_n 0, 1) ∧ decode cX2_countWays 69 = .ok (.getfield 9, 3)) ∧ (decode cX2_countWays 72 = .ok (.iload 5, 2) ∧ decode cX2_countWays 74 = .ok (.aload_n 0, 1))) ∧ ((decode cX2_countWays 75 = .ok (.getfield 9, 3) ∧ decode cX2_countWays 78 = .ok (.iload 5, 2)) ∧ (decode cX2_countWays 80 = .ok (.laload, 1) ∧ (decode cX2_countWays 81 = .ok (.bipush 100, 2) ∧ decode cX2_countWays 83 = .ok (.iload 4, 2))))) ∧ (((decode cX2_countWays 85 = .ok (.isub, 1) ∧ decode cX2_countWays 86 = .ok (.i2l, 1)) ∧ (decode cX2_countWays 87 = .ok (.lmul, 1) ∧ (decode cX2_countWays 88 = .ok (.aload_n 0, 1) ∧ decode cX2_countWays 89 = .ok (.getfield 9, 3)))) ∧ ((decode cX2_countWays 92 = .ok (.iload 5, 2) ∧ decode cX2_countWays 94 = .ok (.iconst 1, 1)) ∧ (decode cX2_countWays 95 = .ok (.isub, 1) ∧ (decode cX2_countWays 96 = .ok (.laload, 1) ∧ decode cX2_countWays 97 = .ok (.iload 4, 2)))))) ∧ ((((decode cX2_countWays 99 = .ok (.i2l, 1) ∧ decode cX2_countWays 100 = .ok (.lmul, 1)) ∧ (decode cX2_countWays 101 = .ok (.ladd, 1) ∧ (decode cX2_countWays 102 = .ok (.lastore, 1) ∧ decode cX2_countWays 103 = .ok (.iinc 5 (-1), 3)))) ∧ ((decode cX2_countWays 106 = .ok (.goto (-43), 3) ∧ decode cX2_countWays 109 = .ok (.aload_n 0, 1)) ∧ (decode cX2_countWays 110 = .ok (.getfield 9, 3) ∧ (decode cX2_countWays 113 = .ok (.iconst 0, 1) ∧ decode cX2_countWays 114 = .ok (.dup2, 1))))) ∧ (((decode cX2_countWays 115 = .ok (.laload, 1) ∧ decode cX2_countWays 116 = .ok (.bipush 100, 2)) ∧ (decode cX2_countWays 118 = .ok (.iload 4, 2) ∧ (decode cX2_countWays 120 = .ok (.isub, 1) ∧ decode cX2_countWays 121 = .ok (.i2l, 1)))) ∧ ((decode cX2_countWays 122 = .ok (.lmul, 1) ∧ decode cX2_countWays 123 = .ok (.lastore, 1)) ∧ (decode cX2_countWays 124 = .ok (.iinc 3 1, 3) ∧ (decode cX2_countWays 127 = .ok (.goto (-97), 3) ∧ decode cX2_countWays 130 = .ok (.return_, 1)))))))) := ⟨⟨⟨by decide +kernel, by decide +kernel⟩, ⟨by decide +kernel, by decide +kernel⟩⟩, ⟨⟨by decide +kernel, by decide +kernel⟩, ⟨by decide +kernel, by decide +kernel⟩⟩⟩
def X2_countWays_b63_body (rk30 : St → Int → Int → Int → Int → Rs) (rk63 : St → Int → Int → Int → Int → Int → Int → Rs) (s : St) (x0 x1 x2 x3 x4 x5 : Int) : Rs :=
  if x5 ≤ 0 then (grd (isK s 12 x0) (grd (isK s 3 (gR s x0 0) ∧ 0 ≤ (0 : Int) ∧ (0 : Int) < ln s (gR s x0 0)) (grd (isK s 3 (gR s x0 0) ∧ 0 ≤ (0 : Int) ∧ (0 : Int) < ln s (gR s x0 0)) (lets (pI s (gR s x0 0) (0 : Int).toNat (w64 ((gI s (gR s x0 0) (0 : Int).toNat) * (w32 (100 - x4))))) (fun s4 => rk30 s4 x0 x1 x2 (w32 (x3 + 1))))))) else (grd (isK s 12 x0) (grd (isK s 12 x0) (grd (isK s 3 (gR s x0 0) ∧ 0 ≤ x5 ∧ x5 < ln s (gR s x0 0)) (grd (isK s 12 x0) (grd (isK s 3 (gR s x0 0) ∧ 0 ≤ (w32 (x5 - 1)) ∧ (w32 (x5 - 1)) < ln s (gR s x0 0)) (grd (isK s 3 (gR s x0 0) ∧ 0 ≤ x5 ∧ x5 < ln s (gR s x0 0)) (lets (pI s (gR s x0 0) x5.toNat (w64 ((w64 ((gI s (gR s x0 0) x5.toNat) * (w32 (100 - x4)))) + (w64 ((gI s (gR s x0 0) (w32 (x5 - 1)).toNat) * x4))))) (fun s5 => rk63 s5 x0 x1 x2 x3 x4 (w32 (x5 + (-1)))))))))))
def X2_countWays_b63 (rk30 : St → Int → Int → Int → Int → Rs) (n : Nat) (s : St) (x0 x1 x2 x3 x4 x5 : Int) : Rs := iter (fun (rec : St × Int × Int × Int × Int × Int × Int → Rs) (a : St × Int × Int × Int × Int × Int × Int) => X2_countWays_b63_body rk30 (fun (s : St) (x0 x1 x2 x3 x4 x5 : Int) => rec (s, x0, x1, x2, x3, x4, x5)) a.1 a.2.1 a.2.2.1 a.2.2.2.1 a.2.2.2.2.1 a.2.2.2.2.2.1 a.2.2.2.2.2.2) n (s, x0, x1, x2, x3, x4, x5)
theorem X2_countWays_b63_0 (rk30 : St → Int → Int → Int → Int → Rs) (s : St) (x0 x1 x2 x3 x4 x5 : Int) : X2_countWays_b63 rk30 0 s x0 x1 x2 x3 x4 x5 = none := rfl
theorem X2_countWays_b63_1 (rk30 : St → Int → Int → Int → Int → Rs) (n : Nat) (s : St) (x0 x1 x2 x3 x4 x5 : Int) : X2_countWays_b63 rk30 (n + 1) s x0 x1 x2 x3 x4 x5 = X2_countWays_b63_body rk30 (X2_countWays_b63 rk30 n) s x0 x1 x2 x3 x4 x5 := rfl
set_option maxRecDepth 100000 in
set_option maxHeartbeats 4000000 in
theorem X2_countWays_b63_body_s (G : Gx) (l : Launch) (rk30 : St → Int → Int → Int → Int → Rs) (rk63 : St → Int → Int → Int → Int → Int → Int → Rs) (hk30 : ∀ (s : St) (x0 x1 x2 x3 : Int), V G l mX2_countWays 30 [(0, (2, x0)), (1, (2, x1)), (2, (0, x2)), (3, (0, x3))] [] s (rk30 s x0 x1 x2 x3)) (hk63 : ∀ (s : St) (x0 x1 x2 x3 x4 x5 : Int), V G l mX2_countWays 63 [(0, (2, x0)), (1, (2, x1)), (2, (0, x2)), (3, (0, x3)), (4, (0, x4)), (5, (0, x5))] [] s (rk63 s x0 x1 x2 x3 x4 x5)) (s : St) (x0 x1 x2 x3 x4 x5 : Int) : V G l mX2_countWays 63 [(0, (2, x0)), (1, (2, x1)), (2, (0, x2)), (3, (0, x3)), (4, (0, x4)), (5, (0, x5))] [] s (X2_countWays_b63_body rk30 rk63 s x0 x1 x2 x3 x4 x5) := by
  unfold X2_countWays_b63_body
  refine V_iload dec_X2_countWays.1.2.2.2.2.2.1 5 rfl ?_
  refine V_if_le (tgt := 109) dec_X2_countWays.1.2.2.2.2.2.2 (by decide) ?_ ?_
  · refine V_aload_n dec_X2_countWays.2.2.1.2.1.2 0 rfl ?_
    refine V_getR 2 0 nf_2_0 ft_2_0 fl_X2_9 dec_X2_countWays.2.2.1.2.2.1 ?_
    refine V_iconst dec_X2_countWays.2.2.1.2.2.2.1 rfl ?_
    refine V_dup2 (nl0 _) (nl2 _) dec_X2_countWays.2.2.1.2.2.2.2 ?_
    refine V_lald dec_X2_countWays.2.2.2.1.1.1 ?_
    refine V_bipush dec_X2_countWays.2.2.2.1.1.2 rfl ?_
    refine V_iload dec_X2_countWays.2.2.2.1.2.1 4 rfl ?_
    refine V_isub dec_X2_countWays.2.2.2.1.2.2.1 ?_
    refine V_i2l dec_X2_countWays.2.2.2.1.2.2.2 ?_
    refine V_lmul dec_X2_countWays.2.2.2.2.1.1 ?_
    refine V_last dec_X2_countWays.2.2.2.2.1.2 ?_
    refine V_lets fun s4 => ?_
    refine V_iinc (lv' := [(3, (0, (w32 (x3 + 1)))), (0, (2, x0)), (1, (2, x1)), (2, (0, x2)), (4, (0, x4)), (5, (0, x5))]) dec_X2_countWays.2.2.2.2.2.1 3 rfl (by decide) rfl ?_
    refine V_goto (tgt := 30) dec_X2_countWays.2.2.2.2.2.2.1 (by decide) ?_
    exact V_pick [1, 2, 3, 0] rfl (hk30 s4 x0 x1 x2 (w32 (x3 + 1)))
  · refine V_aload_n dec_X2_countWays.2.1.1.1.1.1 0 rfl ?_
    refine V_getR 2 0 nf_2_0 ft_2_0 fl_X2_9 dec_X2_countWays.2.1.1.1.1.2 ?_
    refine V_iload dec_X2_countWays.2.1.1.1.2.1 5 rfl ?_
    refine V_aload_n dec_X2_countWays.2.1.1.1.2.2 0 rfl ?_
    refine V_getR 2 0 nf_2_0 ft_2_0 fl_X2_9 dec_X2_countWays.2.1.1.2.1.1 ?_
    refine V_iload dec_X2_countWays.2.1.1.2.1.2 5 rfl ?_
    refine V_lald dec_X2_countWays.2.1.1.2.2.1 ?_
    refine V_bipush dec_X2_countWays.2.1.1.2.2.2.1 rfl ?_
    refine V_iload dec_X2_countWays.2.1.1.2.2.2.2 4 rfl ?_
    refine V_isub dec_X2_countWays.2.1.2.1.1.1 ?_
    refine V_i2l dec_X2_countWays.2.1.2.1.1.2 ?_
    refine V_lmul dec_X2_countWays.2.1.2.1.2.1 ?_
    refine V_aload_n dec_X2_countWays.2.1.2.1.2.2.1 0 rfl ?_
    refine V_getR 2 0 nf_2_0 ft_2_0 fl_X2_9 dec_X2_countWays.2.1.2.1.2.2.2 ?_
    refine V_iload dec_X2_countWays.2.1.2.2.1.1 5 rfl ?_
    refine V_iconst dec_X2_countWays.2.1.2.2.1.2 rfl ?_
    refine V_isub dec_X2_countWays.2.1.2.2.2.1 ?_
    refine V_lald dec_X2_countWays.2.1.2.2.2.2.1 ?_
    refine V_iload dec_X2_countWays.2.1.2.2.2.2.2 4 rfl ?_
    refine V_i2l dec_X2_countWays.2.2.1.1.1.1 ?_
    refine V_lmul dec_X2_countWays.2.2.1.1.1.2 ?_
    refine V_ladd dec_X2_countWays.2.2.1.1.2.1 ?_
    refine V_last dec_X2_countWays.2.2.1.1.2.2.1 ?_
    refine V_lets fun s5 => ?_
    refine V_iinc (lv' := [(5, (0, (w32 (x5 + (-1))))), (0, (2, x0)), (1, (2, x1)), (2, (0, x2)), (3, (0, x3)), (4, (0, x4))]) dec_X2_countWays.2.2.1.1.2.2.2 5 rfl (by decide) rfl ?_
    refine V_goto (tgt := 63) dec_X2_countWays.2.2.1.2.1.1 (by decide) ?_
    exact V_pick [1, 2, 3, 4, 5, 0] rfl (hk63 s5 x0 x1 x2 x3 x4 (w32 (x5 + (-1))))
theorem X2_countWays_b63_s (G : Gx) (l : Launch) (rk30 : St → Int → Int → Int → Int → Rs) (hk30 : ∀ (s : St) (x0 x1 x2 x3 : Int), V G l mX2_countWays 30 [(0, (2, x0)), (1, (2, x1)), (2, (0, x2)), (3, (0, x3))] [] s (rk30 s x0 x1 x2 x3)) (n : Nat) (s : St) (x0 x1 x2 x3 x4 x5 : Int) : V G l mX2_countWays 63 [(0, (2, x0)), (1, (2, x1)), (2, (0, x2)), (3, (0, x3)), (4, (0, x4)), (5, (0, x5))] [] s (X2_countWays_b63 rk30 n s x0 x1 x2 x3 x4 x5) :=
  V_iter (LV := fun a : St × Int × Int × Int × Int × Int × Int => [(0, (2, a.2.1)), (1, (2, a.2.2.1)), (2, (0, a.2.2.2.1)), (3, (0, a.2.2.2.2.1)), (4, (0, a.2.2.2.2.2.1)), (5, (0, a.2.2.2.2.2.2))]) (ST := fun a : St × Int × Int × Int × Int × Int × Int => []) (SS := fun a : St × Int × Int × Int × Int × Int × Int => a.1) (fun rec hrec a => X2_countWays_b63_body_s G l rk30 (fun (s : St) (x0 x1 x2 x3 x4 x5 : Int) => rec (s, x0, x1, x2, x3, x4, x5)) hk30 (fun (s : St) (x0 x1 x2 x3 x4 x5 : Int) => hrec (s, x0, x1, x2, x3, x4, x5)) a.1 a.2.1 a.2.2.1 a.2.2.2.1 a.2.2.2.2.1 a.2.2.2.2.2.1 a.2.2.2.2.2.2) n (s, x0, x1, x2, x3, x4, x5)
def X2_countWays_b30_body (rk30 : St → Int → Int → Int → Int → Rs) (s : St) (x0 x1 x2 x3 : Int) : Rs :=
  grd (isK s 20 x1) (grd (isK s 19 (gR s x1 0)) (if (gI s (gR s x1 0) 3) ≤ x3 then (some (0, s)) else (grd (isK s 20 x1) (grd (isK s 19 (gR s x1 0)) (grd (isK s 1 (gR s (gR s x1 0) 8) ∧ 0 ≤ x3 ∧ x3 < ln s (gR s (gR s x1 0) 8)) (grd (isK s 12 x0) (bnd (X2_hundredths s x0 x1 x3 (gI s (gR s (gR s x1 0) 8) x3.toNat) x2) (fun r2 s3 => X2_countWays_b63 rk30 FU s3 x0 x1 x2 x3 r2 6))))))))
def X2_countWays_b30 (n : Nat) (s : St) (x0 x1 x2 x3 : Int) : Rs := iter (fun (rec : St × Int × Int × Int × Int → Rs) (a : St × Int × Int × Int × Int) => X2_countWays_b30_body (fun (s : St) (x0 x1 x2 x3 : Int) => rec (s, x0, x1, x2, x3)) a.1 a.2.1 a.2.2.1 a.2.2.2.1 a.2.2.2.2) n (s, x0, x1, x2, x3)
theorem X2_countWays_b30_0 (s : St) (x0 x1 x2 x3 : Int) : X2_countWays_b30 0 s x0 x1 x2 x3 = none := rfl
theorem X2_countWays_b30_1 (n : Nat) (s : St) (x0 x1 x2 x3 : Int) : X2_countWays_b30 (n + 1) s x0 x1 x2 x3 = X2_countWays_b30_body (X2_countWays_b30 n) s x0 x1 x2 x3 := rfl
set_option maxRecDepth 100000 in
set_option maxHeartbeats 4000000 in
theorem X2_countWays_b30_body_s (G : Gx) (l : Launch) (rk30 : St → Int → Int → Int → Int → Rs) (hk30 : ∀ (s : St) (x0 x1 x2 x3 : Int), V G l mX2_countWays 30 [(0, (2, x0)), (1, (2, x1)), (2, (0, x2)), (3, (0, x3))] [] s (rk30 s x0 x1 x2 x3)) (s : St) (x0 x1 x2 x3 : Int) : V G l mX2_countWays 30 [(0, (2, x0)), (1, (2, x1)), (2, (0, x2)), (3, (0, x3))] [] s (X2_countWays_b30_body rk30 s x0 x1 x2 x3) := by
  unfold X2_countWays_b30_body
  refine V_iload_n dec_X2_countWays.1.2.1.1.1.1 3 rfl ?_
  refine V_aload_n dec_X2_countWays.1.2.1.1.1.2 1 rfl ?_
  refine V_getR 10 0 nf_10_0 ft_10_0 fl_X2_15 dec_X2_countWays.1.2.1.1.2.1 ?_
  refine V_getI 9 3 nf_9_3 ft_9_3 fl_X2_34 dec_X2_countWays.1.2.1.1.2.2.1 ?_
  refine V_icmp_ge (tgt := 130) dec_X2_countWays.1.2.1.1.2.2.2 (by decide) ?_ ?_
  · exact V_vret rfl dec_X2_countWays.2.2.2.2.2.2.2
  · refine V_aload_n dec_X2_countWays.1.2.1.2.1.1 0 rfl ?_
    refine V_aload_n dec_X2_countWays.1.2.1.2.1.2 1 rfl ?_
    refine V_iload_n dec_X2_countWays.1.2.1.2.2.1 3 rfl ?_
    refine V_aload_n dec_X2_countWays.1.2.1.2.2.2.1 1 rfl ?_
    refine V_getR 10 0 nf_10_0 ft_10_0 fl_X2_15 dec_X2_countWays.1.2.1.2.2.2.2 ?_
    refine V_getR 9 8 nf_9_8 ft_9_8 fl_X2_37 dec_X2_countWays.1.2.2.1.1.1 ?_
    refine V_iload_n dec_X2_countWays.1.2.2.1.1.2 3 rfl ?_
    refine V_iald dec_X2_countWays.1.2.2.1.2.1 ?_
    refine V_iload_n dec_X2_countWays.1.2.2.1.2.2.1 2 rfl ?_
    refine V_callV0 (ci := 2) (a := x0) (As := [(2, x1), (0, x3), (0, (gI s (gR s (gR s x1 0) 8) x3.toNat)), (0, x2)]) (st := []) rfl rfl (X2_hundredths_s G l s x0 x1 x3 (gI s (gR s (gR s x1 0) 8) x3.toNat) x2) cal_X2_hundredths rfl ml_X2_41 rfl rfl dec_X2_countWays.1.2.2.1.2.2.2 (k_tag (tag := 0) rfl fun r2 s3 => ?_)
    refine V_istore (lv' := [(4, (0, r2)), (0, (2, x0)), (1, (2, x1)), (2, (0, x2)), (3, (0, x3))]) dec_X2_countWays.1.2.2.2.1.1 (by decide) rfl ?_
    refine V_bipush dec_X2_countWays.1.2.2.2.1.2 rfl ?_
    refine V_istore (lv' := [(5, (0, 6)), (4, (0, r2)), (0, (2, x0)), (1, (2, x1)), (2, (0, x2)), (3, (0, x3))]) dec_X2_countWays.1.2.2.2.2.1 (by decide) rfl ?_
    exact V_pick [2, 3, 4, 5, 1, 0] rfl (X2_countWays_b63_s G l rk30 hk30 FU s3 x0 x1 x2 x3 r2 6)
theorem X2_countWays_b30_s (G : Gx) (l : Launch) (n : Nat) (s : St) (x0 x1 x2 x3 : Int) : V G l mX2_countWays 30 [(0, (2, x0)), (1, (2, x1)), (2, (0, x2)), (3, (0, x3))] [] s (X2_countWays_b30 n s x0 x1 x2 x3) :=
  V_iter (LV := fun a : St × Int × Int × Int × Int => [(0, (2, a.2.1)), (1, (2, a.2.2.1)), (2, (0, a.2.2.2.1)), (3, (0, a.2.2.2.2))]) (ST := fun a : St × Int × Int × Int × Int => []) (SS := fun a : St × Int × Int × Int × Int => a.1) (fun rec hrec a => X2_countWays_b30_body_s G l (fun (s : St) (x0 x1 x2 x3 : Int) => rec (s, x0, x1, x2, x3)) (fun (s : St) (x0 x1 x2 x3 : Int) => hrec (s, x0, x1, x2, x3)) a.1 a.2.1 a.2.2.1 a.2.2.2.1 a.2.2.2.2) n (s, x0, x1, x2, x3)
def X2_countWays_b2_body (rk2 : St → Int → Int → Int → Int → Rs) (s : St) (x0 x1 x2 x3 : Int) : Rs :=
  if (6 : Int) < x3 then (grd (isK s 12 x0) (grd (isK s 3 (gR s x0 0) ∧ 0 ≤ (0 : Int) ∧ (0 : Int) < ln s (gR s x0 0)) (lets (pI s (gR s x0 0) (0 : Int).toNat 1) (fun s1 => X2_countWays_b30 FU s1 x0 x1 x2 0)))) else (grd (isK s 12 x0) (grd (isK s 3 (gR s x0 0) ∧ 0 ≤ x3 ∧ x3 < ln s (gR s x0 0)) (lets (pI s (gR s x0 0) x3.toNat 0) (fun s6 => rk2 s6 x0 x1 x2 (w32 (x3 + 1))))))
def X2_countWays_b2 (n : Nat) (s : St) (x0 x1 x2 x3 : Int) : Rs := iter (fun (rec : St × Int × Int × Int × Int → Rs) (a : St × Int × Int × Int × Int) => X2_countWays_b2_body (fun (s : St) (x0 x1 x2 x3 : Int) => rec (s, x0, x1, x2, x3)) a.1 a.2.1 a.2.2.1 a.2.2.2.1 a.2.2.2.2) n (s, x0, x1, x2, x3)
theorem X2_countWays_b2_0 (s : St) (x0 x1 x2 x3 : Int) : X2_countWays_b2 0 s x0 x1 x2 x3 = none := rfl
theorem X2_countWays_b2_1 (n : Nat) (s : St) (x0 x1 x2 x3 : Int) : X2_countWays_b2 (n + 1) s x0 x1 x2 x3 = X2_countWays_b2_body (X2_countWays_b2 n) s x0 x1 x2 x3 := rfl
set_option maxRecDepth 100000 in
set_option maxHeartbeats 4000000 in
theorem X2_countWays_b2_body_s (G : Gx) (l : Launch) (rk2 : St → Int → Int → Int → Int → Rs) (hk2 : ∀ (s : St) (x0 x1 x2 x3 : Int), V G l mX2_countWays 2 [(0, (2, x0)), (1, (2, x1)), (2, (0, x2)), (3, (0, x3))] [] s (rk2 s x0 x1 x2 x3)) (s : St) (x0 x1 x2 x3 : Int) : V G l mX2_countWays 2 [(0, (2, x0)), (1, (2, x1)), (2, (0, x2)), (3, (0, x3))] [] s (X2_countWays_b2_body rk2 s x0 x1 x2 x3) := by
  unfold X2_countWays_b2_body
  refine V_iload_n dec_X2_countWays.1.1.1.1.2.1 3 rfl ?_
  refine V_bipush dec_X2_countWays.1.1.1.1.2.2 rfl ?_
  refine V_icmp_gt (tgt := 21) dec_X2_countWays.1.1.1.2.1.1 (by decide) ?_ ?_
  · refine V_aload_n dec_X2_countWays.1.1.2.1.2.2.1 0 rfl ?_
    refine V_getR 2 0 nf_2_0 ft_2_0 fl_X2_9 dec_X2_countWays.1.1.2.1.2.2.2 ?_
    refine V_iconst dec_X2_countWays.1.1.2.2.1.1 rfl ?_
    refine V_lconst (n := 1) dec_X2_countWays.1.1.2.2.1.2 (by decide) ?_
    refine V_last dec_X2_countWays.1.1.2.2.2.1 ?_
    refine V_lets fun s1 => ?_
    refine V_iconst dec_X2_countWays.1.1.2.2.2.2.1 rfl ?_
    refine V_istore_n (lv' := [(3, (0, 0)), (0, (2, x0)), (1, (2, x1)), (2, (0, x2))]) dec_X2_countWays.1.1.2.2.2.2.2 (by decide) rfl ?_
    exact V_pick [1, 2, 3, 0] rfl (X2_countWays_b30_s G l FU s1 x0 x1 x2 0)
  · refine V_aload_n dec_X2_countWays.1.1.1.2.1.2 0 rfl ?_
    refine V_getR 2 0 nf_2_0 ft_2_0 fl_X2_9 dec_X2_countWays.1.1.1.2.2.1 ?_
    refine V_iload_n dec_X2_countWays.1.1.1.2.2.2.1 3 rfl ?_
    refine V_lconst (n := 0) dec_X2_countWays.1.1.1.2.2.2.2 (by decide) ?_
    refine V_last dec_X2_countWays.1.1.2.1.1.1 ?_
    refine V_lets fun s6 => ?_
    refine V_iinc (lv' := [(3, (0, (w32 (x3 + 1)))), (0, (2, x0)), (1, (2, x1)), (2, (0, x2))]) dec_X2_countWays.1.1.2.1.1.2 3 rfl (by decide) rfl ?_
    refine V_goto (tgt := 2) dec_X2_countWays.1.1.2.1.2.1 (by decide) ?_
    exact V_pick [1, 2, 3, 0] rfl (hk2 s6 x0 x1 x2 (w32 (x3 + 1)))
theorem X2_countWays_b2_s (G : Gx) (l : Launch) (n : Nat) (s : St) (x0 x1 x2 x3 : Int) : V G l mX2_countWays 2 [(0, (2, x0)), (1, (2, x1)), (2, (0, x2)), (3, (0, x3))] [] s (X2_countWays_b2 n s x0 x1 x2 x3) :=
  V_iter (LV := fun a : St × Int × Int × Int × Int => [(0, (2, a.2.1)), (1, (2, a.2.2.1)), (2, (0, a.2.2.2.1)), (3, (0, a.2.2.2.2))]) (ST := fun a : St × Int × Int × Int × Int => []) (SS := fun a : St × Int × Int × Int × Int => a.1) (fun rec hrec a => X2_countWays_b2_body_s G l (fun (s : St) (x0 x1 x2 x3 : Int) => rec (s, x0, x1, x2, x3)) (fun (s : St) (x0 x1 x2 x3 : Int) => hrec (s, x0, x1, x2, x3)) a.1 a.2.1 a.2.2.1 a.2.2.2.1 a.2.2.2.2) n (s, x0, x1, x2, x3)
def X2_countWays (s : St) (a0 a1 a2 : Int) : Rs :=
  X2_countWays_b2 FU s a0 a1 a2 1
set_option maxRecDepth 100000 in
set_option maxHeartbeats 4000000 in
theorem X2_countWays_s (G : Gx) (l : Launch) (s : St) (a0 a1 a2 : Int) : Snd G l mX2_countWays [(2, a0), (2, a1), (0, a2)] s (X2_countWays s a0 a1 a2) := by
  refine Snd.of (by decide +kernel) rfl ?_
  show V G l mX2_countWays 0 [(0, (2, a0)), (1, (2, a1)), (2, (0, a2))] [] s _
  unfold X2_countWays
  refine V_iconst dec_X2_countWays.1.1.1.1.1.1 rfl ?_
  refine V_istore_n (lv' := [(3, (0, 1)), (0, (2, a0)), (1, (2, a1)), (2, (0, a2))]) dec_X2_countWays.1.1.1.1.1.2 (by decide) rfl ?_
  exact V_pick [1, 2, 3, 0] rfl (X2_countWays_b2_s G l FU s a0 a1 a2 1)
theorem dec_X2_waysFrom : ((((decode cX2_waysFrom 0 = .ok (.lconst 0, 1) ∧ decode cX2_waysFrom 1 = .ok (.lstore_n 2, 1)) ∧ (decode cX2_waysFrom 2 = .ok (.iload_n 1, 1) ∧ decode cX2_waysFrom 3 = .ok (.istore 4, 2))) ∧ ((decode cX2_waysFrom 5 = .ok (.iload 4, 2) ∧ decode cX2_waysFrom 7 = .ok (.bipush 6, 2)) ∧ (decode cX2_waysFrom 9 = .ok (.if_icmp .gt 19, 3) ∧ (decode cX2_waysFrom 12 = .ok (.lload_n 2, 1) ∧ decode cX2_waysFrom 13 = .ok (.aload_n 0, 1))))) ∧ (((decode cX2_waysFrom 14 = .ok (.getfield 9, 3) ∧ decode cX2_waysFrom 17 = .ok (.iload 4, 2)) ∧ (decode cX2_waysFrom 19 = .ok (.laload, 1) ∧ decode cX2_waysFrom 20 = .ok (.ladd, 1))) ∧ ((decode cX2_waysFrom 21 = .ok (.lstore_n 2, 1) ∧ decode cX2_waysFrom 22 = .ok (.iinc 4 1, 3)) ∧ (decode cX2_waysFrom 25 = .ok (.goto (-20), 3) ∧ (decode cX2_waysFrom 28 = .ok (.lload_n 2, 1) ∧ decode cX2_waysFrom 29 = .ok (.lreturn, 1)))))) := ⟨by decide +kernel, by decide +kernel⟩
def X2_waysFrom_b5_body (rk5 : St → Int → Int → Int → Rs) (s : St) (x0 x2 x4 : Int) : Rs :=
  if (6 : Int) < x4 then (some (x2, s)) else (grd (isK s 12 x0) (grd (isK s 3 (gR s x0 0) ∧ 0 ≤ x4 ∧ x4 < ln s (gR s x0 0)) (letv (w64 (x2 + (gI s (gR s x0 0) x4.toNat))) (fun y1 => rk5 s x0 y1 (w32 (x4 + 1))))))
def X2_waysFrom_b5 (n : Nat) (s : St) (x0 x2 x4 : Int) : Rs := iter (fun (rec : St × Int × Int × Int → Rs) (a : St × Int × Int × Int) => X2_waysFrom_b5_body (fun (s : St) (x0 x2 x4 : Int) => rec (s, x0, x2, x4)) a.1 a.2.1 a.2.2.1 a.2.2.2) n (s, x0, x2, x4)
theorem X2_waysFrom_b5_0 (s : St) (x0 x2 x4 : Int) : X2_waysFrom_b5 0 s x0 x2 x4 = none := rfl
theorem X2_waysFrom_b5_1 (n : Nat) (s : St) (x0 x2 x4 : Int) : X2_waysFrom_b5 (n + 1) s x0 x2 x4 = X2_waysFrom_b5_body (X2_waysFrom_b5 n) s x0 x2 x4 := rfl
set_option maxRecDepth 100000 in
set_option maxHeartbeats 4000000 in
theorem X2_waysFrom_b5_body_s (G : Gx) (l : Launch) (rk5 : St → Int → Int → Int → Rs) (hk5 : ∀ (s : St) (x0 x2 x4 : Int), V G l mX2_waysFrom 5 [(0, (2, x0)), (2, (1, x2)), (4, (0, x4))] [] s (rk5 s x0 x2 x4)) (s : St) (x0 x2 x4 : Int) : V G l mX2_waysFrom 5 [(0, (2, x0)), (2, (1, x2)), (4, (0, x4))] [] s (X2_waysFrom_b5_body rk5 s x0 x2 x4) := by
  unfold X2_waysFrom_b5_body
  refine V_iload dec_X2_waysFrom.1.2.1.1 2 rfl ?_
  refine V_bipush dec_X2_waysFrom.1.2.1.2 rfl ?_
  refine V_icmp_gt (tgt := 28) dec_X2_waysFrom.1.2.2.1 (by decide) ?_ ?_
  · refine V_lload_n dec_X2_waysFrom.2.2.2.2.1 1 rfl ?_
    exact V_lret rfl dec_X2_waysFrom.2.2.2.2.2
  · refine V_lload_n dec_X2_waysFrom.1.2.2.2.1 1 rfl ?_
    refine V_aload_n dec_X2_waysFrom.1.2.2.2.2 0 rfl ?_
    refine V_getR 2 0 nf_2_0 ft_2_0 fl_X2_9 dec_X2_waysFrom.2.1.1.1 ?_
    refine V_iload dec_X2_waysFrom.2.1.1.2 2 rfl ?_
    refine V_lald dec_X2_waysFrom.2.1.2.1 ?_
    refine V_ladd dec_X2_waysFrom.2.1.2.2 ?_
    refine V_letv fun y1 => ?_
    refine V_lstore_n (lv' := [(2, (1, y1)), (0, (2, x0)), (4, (0, x4))]) dec_X2_waysFrom.2.2.1.1 (by decide) rfl ?_
    refine V_iinc (lv' := [(4, (0, (w32 (x4 + 1)))), (2, (1, y1)), (0, (2, x0))]) dec_X2_waysFrom.2.2.1.2 2 rfl (by decide) rfl ?_
    refine V_goto (tgt := 5) dec_X2_waysFrom.2.2.2.1 (by decide) ?_
    exact V_pick [2, 1, 0] rfl (hk5 s x0 y1 (w32 (x4 + 1)))
theorem X2_waysFrom_b5_s (G : Gx) (l : Launch) (n : Nat) (s : St) (x0 x2 x4 : Int) : V G l mX2_waysFrom 5 [(0, (2, x0)), (2, (1, x2)), (4, (0, x4))] [] s (X2_waysFrom_b5 n s x0 x2 x4) :=
  V_iter (LV := fun a : St × Int × Int × Int => [(0, (2, a.2.1)), (2, (1, a.2.2.1)), (4, (0, a.2.2.2))]) (ST := fun a : St × Int × Int × Int => []) (SS := fun a : St × Int × Int × Int => a.1) (fun rec hrec a => X2_waysFrom_b5_body_s G l (fun (s : St) (x0 x2 x4 : Int) => rec (s, x0, x2, x4)) (fun (s : St) (x0 x2 x4 : Int) => hrec (s, x0, x2, x4)) a.1 a.2.1 a.2.2.1 a.2.2.2) n (s, x0, x2, x4)
def X2_waysFrom (s : St) (a0 a1 : Int) : Rs :=
  X2_waysFrom_b5 FU s a0 0 a1
set_option maxRecDepth 100000 in
set_option maxHeartbeats 4000000 in
theorem X2_waysFrom_s (G : Gx) (l : Launch) (s : St) (a0 a1 : Int) : Snd G l mX2_waysFrom [(2, a0), (0, a1)] s (X2_waysFrom s a0 a1) := by
  refine Snd.of (by decide +kernel) rfl ?_
  show V G l mX2_waysFrom 0 [(0, (2, a0)), (1, (0, a1))] [] s _
  unfold X2_waysFrom
  refine V_lconst (n := 0) dec_X2_waysFrom.1.1.1.1 (by decide) ?_
  refine V_lstore_n (lv' := [(2, (1, 0)), (0, (2, a0)), (1, (0, a1))]) dec_X2_waysFrom.1.1.1.2 (by decide) rfl ?_
  refine V_iload_n dec_X2_waysFrom.1.1.2.1 2 rfl ?_
  refine V_istore (lv' := [(4, (0, a1)), (2, (1, 0)), (0, (2, a0)), (1, (0, a1))]) dec_X2_waysFrom.1.1.2.2 (by decide) rfl ?_
  exact V_pick [2, 1, 0] rfl (X2_waysFrom_b5_s G l FU s a0 0 a1)
theorem dec_X11_most : (((((decode cX11_most 0 = .ok (.aload_n 0, 1) ∧ decode cX11_most 1 = .ok (.aload_n 0, 1)) ∧ (decode cX11_most 2 = .ok (.invokevirtual 203, 3) ∧ decode cX11_most 5 = .ok (.iload_n 1, 1))) ∧ ((decode cX11_most 6 = .ok (.ifCond .lt 16, 3) ∧ decode cX11_most 9 = .ok (.iload_n 1, 1)) ∧ (decode cX11_most 10 = .ok (.bipush 6, 2) ∧ decode cX11_most 12 = .ok (.if_icmp .gt 10, 3)))) ∧ (((decode cX11_most 15 = .ok (.iload_n 2, 1) ∧ decode cX11_most 16 = .ok (.invokestatic 187, 3)) ∧ (decode cX11_most 19 = .ok (.ifCond .eq 7, 3) ∧ decode cX11_most 22 = .ok (.iconst 1, 1))) ∧ ((decode cX11_most 23 = .ok (.goto 4, 3) ∧ decode cX11_most 26 = .ok (.iconst 0, 1)) ∧ (decode cX11_most 27 = .ok (.invokevirtual 92, 3) ∧ (decode cX11_most 30 = .ok (.ifCond .eq 7, 3) ∧ decode cX11_most 33 = .ok (.ldc2_w 315, 3)))))) ∧ ((((decode cX11_most 36 = .ok (.lreturn, 1) ∧ decode cX11_most 37 = .ok (.aload_n 0, 1)) ∧ (decode cX11_most 38 = .ok (.getfield 67, 3) ∧ decode cX11_most 41 = .ok (.aload_n 0, 1))) ∧ ((decode cX11_most 42 = .ok (.getfield 36, 3) ∧ decode cX11_most 45 = .ok (.iload_n 2, 1)) ∧ (decode cX11_most 46 = .ok (.invokevirtual 327, 3) ∧ (decode cX11_most 49 = .ok (.aload_n 0, 1) ∧ decode cX11_most 50 = .ok (.getfield 67, 3))))) ∧ (((decode cX11_most 53 = .ok (.iload_n 1, 1) ∧ decode cX11_most 54 = .ok (.invokevirtual 330, 3)) ∧ (decode cX11_most 57 = .ok (.aload_n 0, 1) ∧ decode cX11_most 58 = .ok (.getfield 67, 3))) ∧ ((decode cX11_most 61 = .ok (.iconst 0, 1) ∧ decode cX11_most 62 = .ok (.invokevirtual 330, 3)) ∧ (decode cX11_most 65 = .ok (.iload_n 3, 1) ∧ (decode cX11_most 66 = .ok (.invokestatic 323, 3) ∧ decode cX11_most 69 = .ok (.lreturn, 1))))))) := ⟨⟨by decide +kernel, by decide +kernel⟩, ⟨by decide +kernel, by decide +kernel⟩⟩
def X11_most_b27 (s : St) (x0 x1 x2 x3 k0 k1 k2 : Int) : Rs :=
  grd (isK s 21 k2) (bnd (X11_refused s k2 k1 k0) (fun r3 s4 => if r3 = 0 then (grd (isK s4 21 x0) (grd (isK s4 21 x0) (grd (isK s4 12 (gR s4 x0 12)) (bnd (X2_countWays s4 (gR s4 x0 12) (gR s4 x0 7) x2) (fun r5 s6 => grd (isK s6 21 x0) (grd (isK s6 12 (gR s6 x0 12)) (bnd (X2_waysFrom s6 (gR s6 x0 12) x1) (fun r7 s8 => grd (isK s8 21 x0) (grd (isK s8 12 (gR s8 x0 12)) (bnd (X2_waysFrom s8 (gR s8 x0 12) 0) (fun r9 s10 => bnd (X11_inLowestTerms s10 r7 r9 x3) (fun r11 s12 => some (r11, s12))))))))))))) else (some ((-1), s4))))
set_option maxRecDepth 100000 in
set_option maxHeartbeats 4000000 in
theorem X11_most_b27_s (G : Gx) (l : Launch) (s : St) (x0 x1 x2 x3 k0 k1 k2 : Int) : V G l mX11_most 27 [(0, (2, x0)), (1, (0, x1)), (2, (0, x2)), (3, (0, x3))] [(0, k0), (0, k1), (2, k2)] s (X11_most_b27 s x0 x1 x2 x3 k0 k1 k2) := by
  unfold X11_most_b27
  refine V_callV0 (ci := 11) (a := k2) (As := [(0, k1), (0, k0)]) (st := []) rfl rfl (X11_refused_s G l s k2 k1 k0) cal_X11_refused rfl ml_X11_92 rfl rfl dec_X11_most.1.2.2.2.1 (k_tag (tag := 0) rfl fun r3 s4 => ?_)
  refine V_if_eq (tgt := 37) dec_X11_most.1.2.2.2.2.1 (by decide) ?_ ?_
  · refine V_aload_n dec_X11_most.2.1.1.1.2 0 rfl ?_
    refine V_getR 11 12 nf_11_12 ft_11_12 fl_X11_67 dec_X11_most.2.1.1.2.1 ?_
    refine V_aload_n dec_X11_most.2.1.1.2.2 0 rfl ?_
    refine V_getR 11 7 nf_11_7 ft_11_7 fl_X11_36 dec_X11_most.2.1.2.1.1 ?_
    refine V_iload_n dec_X11_most.2.1.2.1.2 2 rfl ?_
    refine V_callV0 (ci := 2) (a := (gR s4 x0 12)) (As := [(2, (gR s4 x0 7)), (0, x2)]) (st := []) rfl rfl (X2_countWays_s G l s4 (gR s4 x0 12) (gR s4 x0 7) x2) cal_X2_countWays rfl ml_X11_327 rfl rfl dec_X11_most.2.1.2.2.1 (k_void rfl fun r5 s6 => ?_)
    refine V_aload_n dec_X11_most.2.1.2.2.2.1 0 rfl ?_
    refine V_getR 11 12 nf_11_12 ft_11_12 fl_X11_67 dec_X11_most.2.1.2.2.2.2 ?_
    refine V_iload_n dec_X11_most.2.2.1.1.1 1 rfl ?_
    refine V_callV0 (ci := 2) (a := (gR s6 x0 12)) (As := [(0, x1)]) (st := []) rfl rfl (X2_waysFrom_s G l s6 (gR s6 x0 12) x1) cal_X2_waysFrom rfl ml_X11_330 rfl rfl dec_X11_most.2.2.1.1.2 (k_tag (tag := 1) rfl fun r7 s8 => ?_)
    refine V_aload_n dec_X11_most.2.2.1.2.1 0 rfl ?_
    refine V_getR 11 12 nf_11_12 ft_11_12 fl_X11_67 dec_X11_most.2.2.1.2.2 ?_
    refine V_iconst dec_X11_most.2.2.2.1.1 rfl ?_
    refine V_callV0 (ci := 2) (a := (gR s8 x0 12)) (As := [(0, 0)]) (st := [(1, r7)]) rfl rfl (X2_waysFrom_s G l s8 (gR s8 x0 12) 0) cal_X2_waysFrom rfl ml_X11_330 rfl rfl dec_X11_most.2.2.2.1.2 (k_tag (tag := 1) rfl fun r9 s10 => ?_)
    refine V_iload_n dec_X11_most.2.2.2.2.1 3 rfl ?_
    refine V_callS0 (As := [(1, r7), (1, r9), (0, x3)]) (st := []) (host := "") rfl (X11_inLowestTerms_s G l s10 r7 r9 x3) cal_X11_inLowestTerms rfl (Or.inl ml_X11_323) rfl rfl dec_X11_most.2.2.2.2.2.1 (k_tag (tag := 1) rfl fun r11 s12 => ?_)
    exact V_lret rfl dec_X11_most.2.2.2.2.2.2
  · refine V_ldc2 (n := (-1)) cw_X11_315 (by decide) dec_X11_most.1.2.2.2.2.2 ?_
    exact V_lret rfl dec_X11_most.2.1.1.1.1
def X11_most_b22 (s : St) (x0 x1 x2 x3 k0 k1 : Int) : Rs :=
  X11_most_b27 s x0 x1 x2 x3 1 k0 k1
set_option maxRecDepth 100000 in
set_option maxHeartbeats 4000000 in
theorem X11_most_b22_s (G : Gx) (l : Launch) (s : St) (x0 x1 x2 x3 k0 k1 : Int) : V G l mX11_most 22 [(0, (2, x0)), (1, (0, x1)), (2, (0, x2)), (3, (0, x3))] [(0, k0), (2, k1)] s (X11_most_b22 s x0 x1 x2 x3 k0 k1) := by
  unfold X11_most_b22
  refine V_iconst dec_X11_most.1.2.1.2.2 rfl ?_
  refine V_goto (tgt := 27) dec_X11_most.1.2.2.1.1 (by decide) ?_
  exact V_pick [0, 1, 2, 3] rfl (X11_most_b27_s G l s x0 x1 x2 x3 1 k0 k1)
def X11_most (s : St) (a0 a1 a2 a3 : Int) : Rs :=
  grd (isK s 21 a0) (bnd (X11_isNoTown s a0) (fun r1 s2 => if a1 < 0 then (X11_most_b22 s2 a0 a1 a2 a3 r1 a0) else (if (6 : Int) < a1 then (X11_most_b22 s2 a0 a1 a2 a3 r1 a0) else (bnd (X11_isNoNight s2 a2) (fun r13 s14 => if r13 = 0 then (X11_most_b27 s14 a0 a1 a2 a3 0 r1 a0) else (X11_most_b22 s14 a0 a1 a2 a3 r1 a0))))))
set_option maxRecDepth 100000 in
set_option maxHeartbeats 4000000 in
theorem X11_most_s (G : Gx) (l : Launch) (s : St) (a0 a1 a2 a3 : Int) : Snd G l mX11_most [(2, a0), (0, a1), (0, a2), (0, a3)] s (X11_most s a0 a1 a2 a3) := by
  refine Snd.of (by decide +kernel) rfl ?_
  show V G l mX11_most 0 [(0, (2, a0)), (1, (0, a1)), (2, (0, a2)), (3, (0, a3))] [] s _
  unfold X11_most
  refine V_aload_n dec_X11_most.1.1.1.1.1 0 rfl ?_
  refine V_aload_n dec_X11_most.1.1.1.1.2 0 rfl ?_
  refine V_callV0 (ci := 11) (a := a0) (As := []) (st := [(2, a0)]) rfl rfl (X11_isNoTown_s G l s a0) cal_X11_isNoTown rfl ml_X11_203 rfl rfl dec_X11_most.1.1.1.2.1 (k_tag (tag := 0) rfl fun r1 s2 => ?_)
  refine V_iload_n dec_X11_most.1.1.1.2.2 1 rfl ?_
  refine V_if_lt (tgt := 22) dec_X11_most.1.1.2.1.1 (by decide) ?_ ?_
  · exact V_pick [0, 1, 2, 3] rfl (X11_most_b22_s G l s2 a0 a1 a2 a3 r1 a0)
  · refine V_iload_n dec_X11_most.1.1.2.1.2 1 rfl ?_
    refine V_bipush dec_X11_most.1.1.2.2.1 rfl ?_
    refine V_icmp_gt (tgt := 22) dec_X11_most.1.1.2.2.2 (by decide) ?_ ?_
    · exact V_pick [0, 1, 2, 3] rfl (X11_most_b22_s G l s2 a0 a1 a2 a3 r1 a0)
    · refine V_iload_n dec_X11_most.1.2.1.1.1 2 rfl ?_
      refine V_callS0 (As := [(0, a2)]) (st := [(0, r1), (2, a0)]) (host := "") rfl (X11_isNoNight_s G l s2 a2) cal_X11_isNoNight rfl (Or.inl ml_X11_187) rfl rfl dec_X11_most.1.2.1.1.2 (k_tag (tag := 0) rfl fun r13 s14 => ?_)
      refine V_if_eq (tgt := 26) dec_X11_most.1.2.1.2.1 (by decide) ?_ ?_
      · refine V_iconst dec_X11_most.1.2.2.1.2 rfl ?_
        exact V_pick [0, 1, 2, 3] rfl (X11_most_b27_s G l s14 a0 a1 a2 a3 0 r1 a0)
      · exact V_pick [0, 1, 2, 3] rfl (X11_most_b22_s G l s14 a0 a1 a2 a3 r1 a0)
theorem dec_X11_move : (((((decode cX11_move 0 = .ok (.aload_n 0, 1) ∧ (decode cX11_move 1 = .ok (.aload_n 0, 1) ∧ decode cX11_move 2 = .ok (.iload_n 1, 1))) ∧ (decode cX11_move 3 = .ok (.invokevirtual 139, 3) ∧ (decode cX11_move 6 = .ok (.ifCond .ne 11, 3) ∧ decode cX11_move 9 = .ok (.aload_n 0, 1)))) ∧ ((decode cX11_move 10 = .ok (.iload_n 2, 1) ∧ (decode cX11_move 11 = .ok (.invokevirtual 175, 3) ∧ decode cX11_move 14 = .ok (.ifCond .eq 7, 3))) ∧ (decode cX11_move 17 = .ok (.iconst 1, 1) ∧ (decode cX11_move 18 = .ok (.goto 4, 3) ∧ decode cX11_move 21 = .ok (.iconst 0, 1))))) ∧ (((decode cX11_move 22 = .ok (.iconst 0, 1) ∧ (decode cX11_move 23 = .ok (.invokevirtual 92, 3) ∧ decode cX11_move 26 = .ok (.ifCond .eq 5, 3))) ∧ (decode cX11_move 29 = .ok (.iconst (-1), 1) ∧ (decode cX11_move 30 = .ok (.ireturn, 1) ∧ decode cX11_move 31 = .ok (.aload_n 0, 1)))) ∧ ((decode cX11_move 32 = .ok (.getfield 36, 3) ∧ (decode cX11_move 35 = .ok (.getfield 178, 3) ∧ decode cX11_move 38 = .ok (.iload_n 2, 1))) ∧ (decode cX11_move 39 = .ok (.invokevirtual 182, 3) ∧ (decode cX11_move 42 = .ok (.bipush (-2), 2) ∧ decode cX11_move 44 = .ok (.if_icmp .eq 9, 3)))))) ∧ ((((decode cX11_move 47 = .ok (.aload_n 0, 1) ∧ (decode cX11_move 48 = .ok (.iconst 5, 1) ∧ decode cX11_move 49 = .ok (.invokevirtual 105, 3))) ∧ (decode cX11_move 52 = .ok (.ireturn, 1) ∧ (decode cX11_move 53 = .ok (.aload_n 0, 1) ∧ decode cX11_move 54 = .ok (.getfield 36, 3)))) ∧ ((decode cX11_move 57 = .ok (.getfield 143, 3) ∧ (decode cX11_move 60 = .ok (.getfield 146, 3) ∧ decode cX11_move 63 = .ok (.iload_n 1, 1))) ∧ (decode cX11_move 64 = .ok (.iaload, 1) ∧ (decode cX11_move 65 = .ok (.istore_n 3, 1) ∧ decode cX11_move 66 = .ok (.aload_n 0, 1))))) ∧ (((decode cX11_move 67 = .ok (.getfield 74, 3) ∧ (decode cX11_move 70 = .ok (.iconst 1, 1) ∧ decode cX11_move 71 = .ok (.iload_n 1, 1))) ∧ (decode cX11_move 72 = .ok (.iload_n 3, 1) ∧ (decode cX11_move 73 = .ok (.invokevirtual 347, 3) ∧ decode cX11_move 76 = .ok (.aload_n 0, 1)))) ∧ ((decode cX11_move 77 = .ok (.getfield 36, 3) ∧ (decode cX11_move 80 = .ok (.iload_n 1, 1) ∧ decode cX11_move 81 = .ok (.iload_n 2, 1))) ∧ (decode cX11_move 82 = .ok (.invokevirtual 256, 3) ∧ (decode cX11_move 85 = .ok (.iload_n 3, 1) ∧ decode cX11_move 86 = .ok (.ireturn, 1))))))) := ⟨⟨by decide +kernel, by decide +kernel⟩, ⟨by decide +kernel, by decide +kernel⟩⟩
def X11_move_b22 (s : St) (x0 x1 x2 k0 k1 : Int) : Rs :=
  grd (isK s 21 k1) (bnd (X11_refused s k1 k0 0) (fun r3 s4 => if r3 = 0 then (grd (isK s4 21 x0) (grd (isK s4 20 (gR s4 x0 7)) (grd (isK s4 17 (gR s4 (gR s4 x0 7) 2)) (bnd (X7_occupantOf s4 (gR s4 (gR s4 x0 7) 2) x2) (fun r5 s6 => if r5 = ((-2) : Int) then (grd (isK s6 21 x0) (grd (isK s6 20 (gR s6 x0 7)) (grd (isK s6 16 (gR s6 (gR s6 x0 7) 1)) (grd (isK s6 1 (gR s6 (gR s6 (gR s6 x0 7) 1) 1) ∧ 0 ≤ x1 ∧ x1 < ln s6 (gR s6 (gR s6 (gR s6 x0 7) 1) 1)) (letv (gI s6 (gR s6 (gR s6 (gR s6 x0 7) 1) 1) x1.toNat) (fun y7 => grd (isK s6 21 x0) (grd (isK s6 13 (gR s6 x0 13)) (bnd (X3_keep s6 (gR s6 x0 13) 1 x1 y7) (fun r8 s9 => grd (isK s9 21 x0) (grd (isK s9 20 (gR s9 x0 7)) (bnd (X10_putPerson s9 (gR s9 x0 7) x1 x2) (fun r10 s11 => some (y7, s11))))))))))))) else (grd (isK s6 21 x0) (bnd (X11_refuse s6 x0 5) (fun r12 s13 => some (r12, s13))))))))) else (some ((-1), s4))))
set_option maxRecDepth 100000 in
set_option maxHeartbeats 4000000 in
theorem X11_move_b22_s (G : Gx) (l : Launch) (s : St) (x0 x1 x2 k0 k1 : Int) : V G l mX11_move 22 [(0, (2, x0)), (1, (0, x1)), (2, (0, x2))] [(0, k0), (2, k1)] s (X11_move_b22 s x0 x1 x2 k0 k1) := by
  unfold X11_move_b22
  refine V_iconst dec_X11_move.1.2.1.1.1 rfl ?_
  refine V_callV0 (ci := 11) (a := k1) (As := [(0, k0), (0, 0)]) (st := []) rfl rfl (X11_refused_s G l s k1 k0 0) cal_X11_refused rfl ml_X11_92 rfl rfl dec_X11_move.1.2.1.1.2.1 (k_tag (tag := 0) rfl fun r3 s4 => ?_)
  refine V_if_eq (tgt := 31) dec_X11_move.1.2.1.1.2.2 (by decide) ?_ ?_
  · refine V_aload_n dec_X11_move.1.2.1.2.2.2 0 rfl ?_
    refine V_getR 11 7 nf_11_7 ft_11_7 fl_X11_36 dec_X11_move.1.2.2.1.1 ?_
    refine V_getR 10 2 nf_10_2 ft_10_2 fl_X11_178 dec_X11_move.1.2.2.1.2.1 ?_
    refine V_iload_n dec_X11_move.1.2.2.1.2.2 2 rfl ?_
    refine V_callV0 (ci := 7) (a := (gR s4 (gR s4 x0 7) 2)) (As := [(0, x2)]) (st := []) rfl rfl (X7_occupantOf_s G l s4 (gR s4 (gR s4 x0 7) 2) x2) cal_X7_occupantOf rfl ml_X11_182 rfl rfl dec_X11_move.1.2.2.2.1 (k_tag (tag := 0) rfl fun r5 s6 => ?_)
    refine V_bipush dec_X11_move.1.2.2.2.2.1 rfl ?_
    refine V_icmp_eq (tgt := 53) dec_X11_move.1.2.2.2.2.2 (by decide) ?_ ?_
    · refine V_aload_n dec_X11_move.2.1.1.2.2.1 0 rfl ?_
      refine V_getR 11 7 nf_11_7 ft_11_7 fl_X11_36 dec_X11_move.2.1.1.2.2.2 ?_
      refine V_getR 10 1 nf_10_1 ft_10_1 fl_X11_143 dec_X11_move.2.1.2.1.1 ?_
      refine V_getR 6 1 nf_6_1 ft_6_1 fl_X11_146 dec_X11_move.2.1.2.1.2.1 ?_
      refine V_iload_n dec_X11_move.2.1.2.1.2.2 1 rfl ?_
      refine V_iald dec_X11_move.2.1.2.2.1 ?_
      refine V_letv fun y7 => ?_
      refine V_istore_n (lv' := [(3, (0, y7)), (0, (2, x0)), (1, (0, x1)), (2, (0, x2))]) dec_X11_move.2.1.2.2.2.1 (by decide) rfl ?_
      refine V_aload_n dec_X11_move.2.1.2.2.2.2 1 rfl ?_
      refine V_getR 11 13 nf_11_13 ft_11_13 fl_X11_74 dec_X11_move.2.2.1.1.1 ?_
      refine V_iconst dec_X11_move.2.2.1.1.2.1 rfl ?_
      refine V_iload_n dec_X11_move.2.2.1.1.2.2 2 rfl ?_
      refine V_iload_n dec_X11_move.2.2.1.2.1 0 rfl ?_
      refine V_callV0 (ci := 3) (a := (gR s6 x0 13)) (As := [(0, 1), (0, x1), (0, y7)]) (st := []) rfl rfl (X3_keep_s G l s6 (gR s6 x0 13) 1 x1 y7) cal_X3_keep rfl ml_X11_347 rfl rfl dec_X11_move.2.2.1.2.2.1 (k_void rfl fun r8 s9 => ?_)
      refine V_aload_n dec_X11_move.2.2.1.2.2.2 1 rfl ?_
      refine V_getR 11 7 nf_11_7 ft_11_7 fl_X11_36 dec_X11_move.2.2.2.1.1 ?_
      refine V_iload_n dec_X11_move.2.2.2.1.2.1 2 rfl ?_
      refine V_iload_n dec_X11_move.2.2.2.1.2.2 3 rfl ?_
      refine V_callV0 (ci := 10) (a := (gR s9 x0 7)) (As := [(0, x1), (0, x2)]) (st := []) rfl rfl (X10_putPerson_s G l s9 (gR s9 x0 7) x1 x2) cal_X10_putPerson rfl ml_X11_256 rfl rfl dec_X11_move.2.2.2.2.1 (k_void rfl fun r10 s11 => ?_)
      refine V_iload_n dec_X11_move.2.2.2.2.2.1 0 rfl ?_
      exact V_iret rfl dec_X11_move.2.2.2.2.2.2
    · refine V_aload_n dec_X11_move.2.1.1.1.1 0 rfl ?_
      refine V_iconst dec_X11_move.2.1.1.1.2.1 rfl ?_
      refine V_callV0 (ci := 11) (a := x0) (As := [(0, 5)]) (st := []) rfl rfl (X11_refuse_s G l s6 x0 5) cal_X11_refuse rfl ml_X11_105 rfl rfl dec_X11_move.2.1.1.1.2.2 (k_tag (tag := 0) rfl fun r12 s13 => ?_)
      exact V_iret rfl dec_X11_move.2.1.1.2.1
  · refine V_iconst dec_X11_move.1.2.1.2.1 rfl ?_
    exact V_iret rfl dec_X11_move.1.2.1.2.2.1
def X11_move_b17 (s : St) (x0 x1 x2 k0 : Int) : Rs :=
  X11_move_b22 s x0 x1 x2 1 k0
set_option maxRecDepth 100000 in
set_option maxHeartbeats 4000000 in
theorem X11_move_b17_s (G : Gx) (l : Launch) (s : St) (x0 x1 x2 k0 : Int) : V G l mX11_move 17 [(0, (2, x0)), (1, (0, x1)), (2, (0, x2))] [(2, k0)] s (X11_move_b17 s x0 x1 x2 k0) := by
  unfold X11_move_b17
  refine V_iconst dec_X11_move.1.1.2.2.1 rfl ?_
  refine V_goto (tgt := 22) dec_X11_move.1.1.2.2.2.1 (by decide) ?_
  exact V_pick [0, 1, 2] rfl (X11_move_b22_s G l s x0 x1 x2 1 k0)
def X11_move (s : St) (a0 a1 a2 : Int) : Rs :=
  grd (isK s 21 a0) (bnd (X11_isNoPerson s a0 a1) (fun r1 s2 => if ¬ r1 = 0 then (X11_move_b17 s2 a0 a1 a2 a0) else (grd (isK s2 21 a0) (bnd (X11_isNoHouse s2 a0 a2) (fun r14 s15 => if r14 = 0 then (X11_move_b22 s15 a0 a1 a2 0 a0) else (X11_move_b17 s15 a0 a1 a2 a0))))))
set_option maxRecDepth 100000 in
set_option maxHeartbeats 4000000 in
theorem X11_move_s (G : Gx) (l : Launch) (s : St) (a0 a1 a2 : Int) : Snd G l mX11_move [(2, a0), (0, a1), (0, a2)] s (X11_move s a0 a1 a2) := by
  refine Snd.of (by decide +kernel) rfl ?_
  show V G l mX11_move 0 [(0, (2, a0)), (1, (0, a1)), (2, (0, a2))] [] s _
  unfold X11_move
  refine V_aload_n dec_X11_move.1.1.1.1.1 0 rfl ?_
  refine V_aload_n dec_X11_move.1.1.1.1.2.1 0 rfl ?_
  refine V_iload_n dec_X11_move.1.1.1.1.2.2 1 rfl ?_
  refine V_callV0 (ci := 11) (a := a0) (As := [(0, a1)]) (st := [(2, a0)]) rfl rfl (X11_isNoPerson_s G l s a0 a1) cal_X11_isNoPerson rfl ml_X11_139 rfl rfl dec_X11_move.1.1.1.2.1 (k_tag (tag := 0) rfl fun r1 s2 => ?_)
  refine V_if_ne (tgt := 17) dec_X11_move.1.1.1.2.2.1 (by decide) ?_ ?_
  · exact V_pick [0, 1, 2] rfl (X11_move_b17_s G l s2 a0 a1 a2 a0)
  · refine V_aload_n dec_X11_move.1.1.1.2.2.2 0 rfl ?_
    refine V_iload_n dec_X11_move.1.1.2.1.1 2 rfl ?_
    refine V_callV0 (ci := 11) (a := a0) (As := [(0, a2)]) (st := [(2, a0)]) rfl rfl (X11_isNoHouse_s G l s2 a0 a2) cal_X11_isNoHouse rfl ml_X11_175 rfl rfl dec_X11_move.1.1.2.1.2.1 (k_tag (tag := 0) rfl fun r14 s15 => ?_)
    refine V_if_eq (tgt := 21) dec_X11_move.1.1.2.1.2.2 (by decide) ?_ ?_
    · refine V_iconst dec_X11_move.1.1.2.2.2.2 rfl ?_
      exact V_pick [0, 1, 2] rfl (X11_move_b22_s G l s15 a0 a1 a2 0 a0)
    · exact V_pick [0, 1, 2] rfl (X11_move_b17_s G l s15 a0 a1 a2 a0)
theorem dec_X11_moveFor : (((((decode cX11_moveFor 0 = .ok (.aload_n 0, 1) ∧ (decode cX11_moveFor 1 = .ok (.aload_n 0, 1) ∧ decode cX11_moveFor 2 = .ok (.iload_n 1, 1))) ∧ ((decode cX11_moveFor 3 = .ok (.invokevirtual 139, 3) ∧ decode cX11_moveFor 6 = .ok (.iload_n 2, 1)) ∧ (decode cX11_moveFor 7 = .ok (.invokestatic 187, 3) ∧ decode cX11_moveFor 10 = .ok (.invokevirtual 92, 3)))) ∧ ((decode cX11_moveFor 13 = .ok (.ifCond .eq 5, 3) ∧ (decode cX11_moveFor 16 = .ok (.iconst (-1), 1) ∧ decode cX11_moveFor 17 = .ok (.ireturn, 1))) ∧ ((decode cX11_moveFor 18 = .ok (.bipush (-2), 2) ∧ decode cX11_moveFor 20 = .ok (.istore_n 3, 1)) ∧ (decode cX11_moveFor 21 = .ok (.aload_n 0, 1) ∧ decode cX11_moveFor 22 = .ok (.getfield 36, 3))))) ∧ (((decode cX11_moveFor 25 = .ok (.iload_n 2, 1) ∧ (decode cX11_moveFor 26 = .ok (.invokevirtual 222, 3) ∧ decode cX11_moveFor 29 = .ok (.istore 4, 2))) ∧ ((decode cX11_moveFor 31 = .ok (.aload_n 0, 1) ∧ decode cX11_moveFor 32 = .ok (.getfield 40, 3)) ∧ (decode cX11_moveFor 35 = .ok (.aload_n 0, 1) ∧ decode cX11_moveFor 36 = .ok (.getfield 36, 3)))) ∧ (((decode cX11_moveFor 39 = .ok (.getfield 143, 3) ∧ decode cX11_moveFor 42 = .ok (.invokevirtual 119, 3)) ∧ (decode cX11_moveFor 45 = .ok (.iconst 0, 1) ∧ decode cX11_moveFor 46 = .ok (.istore 5, 2))) ∧ ((decode cX11_moveFor 48 = .ok (.iload 5, 2) ∧ decode cX11_moveFor 50 = .ok (.aload_n 0, 1)) ∧ (decode cX11_moveFor 51 = .ok (.getfield 27, 3) ∧ decode cX11_moveFor 54 = .ok (.getfield 228, 3)))))) ∧ ((((decode cX11_moveFor 57 = .ok (.if_icmp .ge 60, 3) ∧ (decode cX11_moveFor 60 = .ok (.aload_n 0, 1) ∧ decode cX11_moveFor 61 = .ok (.getfield 36, 3))) ∧ ((decode cX11_moveFor 64 = .ok (.getfield 178, 3) ∧ decode cX11_moveFor 67 = .ok (.iload 5, 2)) ∧ (decode cX11_moveFor 69 = .ok (.invokevirtual 182, 3) ∧ decode cX11_moveFor 72 = .ok (.bipush (-2), 2)))) ∧ ((decode cX11_moveFor 74 = .ok (.if_icmp .ne 37, 3) ∧ (decode cX11_moveFor 77 = .ok (.aload_n 0, 1) ∧ decode cX11_moveFor 78 = .ok (.getfield 40, 3))) ∧ ((decode cX11_moveFor 81 = .ok (.iload_n 1, 1) ∧ decode cX11_moveFor 82 = .ok (.iload 5, 2)) ∧ (decode cX11_moveFor 84 = .ok (.invokevirtual 256, 3) ∧ decode cX11_moveFor 87 = .ok (.aload_n 0, 1))))) ∧ (((decode cX11_moveFor 88 = .ok (.getfield 40, 3) ∧ (decode cX11_moveFor 91 = .ok (.iload_n 2, 1) ∧ decode cX11_moveFor 92 = .ok (.invokevirtual 222, 3))) ∧ ((decode cX11_moveFor 95 = .ok (.istore 6, 2) ∧ decode cX11_moveFor 97 = .ok (.iload 6, 2)) ∧ (decode cX11_moveFor 99 = .ok (.iload 4, 2) ∧ decode cX11_moveFor 101 = .ok (.if_icmp .le 10, 3)))) ∧ (((decode cX11_moveFor 104 = .ok (.iload 6, 2) ∧ decode cX11_moveFor 106 = .ok (.istore 4, 2)) ∧ (decode cX11_moveFor 108 = .ok (.iload 5, 2) ∧ decode cX11_moveFor 110 = .ok (.istore_n 3, 1))) ∧ ((decode cX11_moveFor 111 = .ok (.iinc 5 1, 3) ∧ decode cX11_moveFor 114 = .ok (.goto (-66), 3)) ∧ (decode cX11_moveFor 117 = .ok (.iload_n 3, 1) ∧ decode cX11_moveFor 118 = .ok (.ireturn, 1))))))) := ⟨⟨⟨by decide +kernel, by decide +kernel⟩, ⟨by decide +kernel, by decide +kernel⟩⟩, ⟨⟨by decide +kernel, by decide +kernel⟩, ⟨by decide +kernel, by decide +kernel⟩⟩⟩
def X11_moveFor_b111 (rk48 : St → Int → Int → Int → Int → Int → Int → Rs) (s : St) (x0 x1 x2 x3 x4 x5 : Int) : Rs :=
  rk48 s x0 x1 x2 x3 x4 (w32 (x5 + 1))
set_option maxRecDepth 100000 in
set_option maxHeartbeats 4000000 in
theorem X11_moveFor_b111_s (G : Gx) (l : Launch) (rk48 : St → Int → Int → Int → Int → Int → Int → Rs) (hk48 : ∀ (s : St) (x0 x1 x2 x3 x4 x5 : Int), V G l mX11_moveFor 48 [(0, (2, x0)), (1, (0, x1)), (2, (0, x2)), (3, (0, x3)), (4, (0, x4)), (5, (0, x5))] [] s (rk48 s x0 x1 x2 x3 x4 x5)) (s : St) (x0 x1 x2 x3 x4 x5 : Int) : V G l mX11_moveFor 111 [(0, (2, x0)), (1, (0, x1)), (2, (0, x2)), (3, (0, x3)), (4, (0, x4)), (5, (0, x5))] [] s (X11_moveFor_b111 rk48 s x0 x1 x2 x3 x4 x5) := by
  unfold X11_moveFor_b111
  refine V_iinc (lv' := [(5, (0, (w32 (x5 + 1)))), (0, (2, x0)), (1, (0, x1)), (2, (0, x2)), (3, (0, x3)), (4, (0, x4))]) dec_X11_moveFor.2.2.2.2.1.1 5 rfl (by decide) rfl ?_
  refine V_goto (tgt := 48) dec_X11_moveFor.2.2.2.2.1.2 (by decide) ?_
  exact V_pick [1, 2, 3, 4, 5, 0] rfl (hk48 s x0 x1 x2 x3 x4 (w32 (x5 + 1)))
def X11_moveFor_b48_body (rk48 : St → Int → Int → Int → Int → Int → Int → Rs) (s : St) (x0 x1 x2 x3 x4 x5 : Int) : Rs :=
  grd (isK s 21 x0) (grd (isK s 19 (gR s x0 6)) (if (gI s (gR s x0 6) 0) ≤ x5 then (some (x3, s)) else (grd (isK s 21 x0) (grd (isK s 20 (gR s x0 7)) (grd (isK s 17 (gR s (gR s x0 7) 2)) (bnd (X7_occupantOf s (gR s (gR s x0 7) 2) x5) (fun r11 s12 => if ¬ r11 = ((-2) : Int) then (X11_moveFor_b111 rk48 s12 x0 x1 x2 x3 x4 x5) else (grd (isK s12 21 x0) (grd (isK s12 20 (gR s12 x0 8)) (bnd (X10_putPerson s12 (gR s12 x0 8) x1 x5) (fun r13 s14 => grd (isK s14 21 x0) (grd (isK s14 20 (gR s14 x0 8)) (bnd (X10_rightCount s14 (gR s14 x0 8) x2) (fun r15 s16 => if r15 ≤ x4 then (X11_moveFor_b111 rk48 s16 x0 x1 x2 x3 x4 x5) else (X11_moveFor_b111 rk48 s16 x0 x1 x2 x5 r15 x5)))))))))))))))
def X11_moveFor_b48 (n : Nat) (s : St) (x0 x1 x2 x3 x4 x5 : Int) : Rs := iter (fun (rec : St × Int × Int × Int × Int × Int × Int → Rs) (a : St × Int × Int × Int × Int × Int × Int) => X11_moveFor_b48_body (fun (s : St) (x0 x1 x2 x3 x4 x5 : Int) => rec (s, x0, x1, x2, x3, x4, x5)) a.1 a.2.1 a.2.2.1 a.2.2.2.1 a.2.2.2.2.1 a.2.2.2.2.2.1 a.2.2.2.2.2.2) n (s, x0, x1, x2, x3, x4, x5)
theorem X11_moveFor_b48_0 (s : St) (x0 x1 x2 x3 x4 x5 : Int) : X11_moveFor_b48 0 s x0 x1 x2 x3 x4 x5 = none := rfl
theorem X11_moveFor_b48_1 (n : Nat) (s : St) (x0 x1 x2 x3 x4 x5 : Int) : X11_moveFor_b48 (n + 1) s x0 x1 x2 x3 x4 x5 = X11_moveFor_b48_body (X11_moveFor_b48 n) s x0 x1 x2 x3 x4 x5 := rfl
set_option maxRecDepth 100000 in
set_option maxHeartbeats 4000000 in
theorem X11_moveFor_b48_body_s (G : Gx) (l : Launch) (rk48 : St → Int → Int → Int → Int → Int → Int → Rs) (hk48 : ∀ (s : St) (x0 x1 x2 x3 x4 x5 : Int), V G l mX11_moveFor 48 [(0, (2, x0)), (1, (0, x1)), (2, (0, x2)), (3, (0, x3)), (4, (0, x4)), (5, (0, x5))] [] s (rk48 s x0 x1 x2 x3 x4 x5)) (s : St) (x0 x1 x2 x3 x4 x5 : Int) : V G l mX11_moveFor 48 [(0, (2, x0)), (1, (0, x1)), (2, (0, x2)), (3, (0, x3)), (4, (0, x4)), (5, (0, x5))] [] s (X11_moveFor_b48_body rk48 s x0 x1 x2 x3 x4 x5) := by
  unfold X11_moveFor_b48_body
  refine V_iload dec_X11_moveFor.1.2.2.2.1.1 5 rfl ?_
  refine V_aload_n dec_X11_moveFor.1.2.2.2.1.2 0 rfl ?_
  refine V_getR 11 6 nf_11_6 ft_11_6 fl_X11_27 dec_X11_moveFor.1.2.2.2.2.1 ?_
  refine V_getI 9 0 nf_9_0 ft_9_0 fl_X11_228 dec_X11_moveFor.1.2.2.2.2.2 ?_
  refine V_icmp_ge (tgt := 117) dec_X11_moveFor.2.1.1.1.1 (by decide) ?_ ?_
  · refine V_iload_n dec_X11_moveFor.2.2.2.2.2.1 3 rfl ?_
    exact V_iret rfl dec_X11_moveFor.2.2.2.2.2.2
  · refine V_aload_n dec_X11_moveFor.2.1.1.1.2.1 0 rfl ?_
    refine V_getR 11 7 nf_11_7 ft_11_7 fl_X11_36 dec_X11_moveFor.2.1.1.1.2.2 ?_
    refine V_getR 10 2 nf_10_2 ft_10_2 fl_X11_178 dec_X11_moveFor.2.1.1.2.1.1 ?_
    refine V_iload dec_X11_moveFor.2.1.1.2.1.2 5 rfl ?_
    refine V_callV0 (ci := 7) (a := (gR s (gR s x0 7) 2)) (As := [(0, x5)]) (st := []) rfl rfl (X7_occupantOf_s G l s (gR s (gR s x0 7) 2) x5) cal_X7_occupantOf rfl ml_X11_182 rfl rfl dec_X11_moveFor.2.1.1.2.2.1 (k_tag (tag := 0) rfl fun r11 s12 => ?_)
    refine V_bipush dec_X11_moveFor.2.1.1.2.2.2 rfl ?_
    refine V_icmp_ne (tgt := 111) dec_X11_moveFor.2.1.2.1.1 (by decide) ?_ ?_
    · exact V_pick [0, 1, 2, 3, 4, 5] rfl (X11_moveFor_b111_s G l rk48 hk48 s12 x0 x1 x2 x3 x4 x5)
    · refine V_aload_n dec_X11_moveFor.2.1.2.1.2.1 0 rfl ?_
      refine V_getR 11 8 nf_11_8 ft_11_8 fl_X11_40 dec_X11_moveFor.2.1.2.1.2.2 ?_
      refine V_iload_n dec_X11_moveFor.2.1.2.2.1.1 1 rfl ?_
      refine V_iload dec_X11_moveFor.2.1.2.2.1.2 5 rfl ?_
      refine V_callV0 (ci := 10) (a := (gR s12 x0 8)) (As := [(0, x1), (0, x5)]) (st := []) rfl rfl (X10_putPerson_s G l s12 (gR s12 x0 8) x1 x5) cal_X10_putPerson rfl ml_X11_256 rfl rfl dec_X11_moveFor.2.1.2.2.2.1 (k_void rfl fun r13 s14 => ?_)
      refine V_aload_n dec_X11_moveFor.2.1.2.2.2.2 0 rfl ?_
      refine V_getR 11 8 nf_11_8 ft_11_8 fl_X11_40 dec_X11_moveFor.2.2.1.1.1 ?_
      refine V_iload_n dec_X11_moveFor.2.2.1.1.2.1 2 rfl ?_
      refine V_callV0 (ci := 10) (a := (gR s14 x0 8)) (As := [(0, x2)]) (st := []) rfl rfl (X10_rightCount_s G l s14 (gR s14 x0 8) x2) cal_X10_rightCount rfl ml_X11_222 rfl rfl dec_X11_moveFor.2.2.1.1.2.2 (k_tag (tag := 0) rfl fun r15 s16 => ?_)
      refine V_istore (lv' := [(6, (0, r15)), (0, (2, x0)), (1, (0, x1)), (2, (0, x2)), (3, (0, x3)), (4, (0, x4)), (5, (0, x5))]) dec_X11_moveFor.2.2.1.2.1.1 (by decide) rfl ?_
      refine V_iload dec_X11_moveFor.2.2.1.2.1.2 0 rfl ?_
      refine V_iload dec_X11_moveFor.2.2.1.2.2.1 5 rfl ?_
      refine V_icmp_le (tgt := 111) dec_X11_moveFor.2.2.1.2.2.2 (by decide) ?_ ?_
      · exact V_pick [1, 2, 3, 4, 5, 6] rfl (X11_moveFor_b111_s G l rk48 hk48 s16 x0 x1 x2 x3 x4 x5)
      · refine V_iload dec_X11_moveFor.2.2.2.1.1.1 0 rfl ?_
        refine V_istore (lv' := [(4, (0, r15)), (6, (0, r15)), (0, (2, x0)), (1, (0, x1)), (2, (0, x2)), (3, (0, x3)), (5, (0, x5))]) dec_X11_moveFor.2.2.2.1.1.2 (by decide) rfl ?_
        refine V_iload dec_X11_moveFor.2.2.2.1.2.1 6 rfl ?_
        refine V_istore_n (lv' := [(3, (0, x5)), (4, (0, r15)), (6, (0, r15)), (0, (2, x0)), (1, (0, x1)), (2, (0, x2)), (5, (0, x5))]) dec_X11_moveFor.2.2.2.1.2.2 (by decide) rfl ?_
        exact V_pick [3, 4, 5, 0, 1, 6] rfl (X11_moveFor_b111_s G l rk48 hk48 s16 x0 x1 x2 x5 r15 x5)
theorem X11_moveFor_b48_s (G : Gx) (l : Launch) (n : Nat) (s : St) (x0 x1 x2 x3 x4 x5 : Int) : V G l mX11_moveFor 48 [(0, (2, x0)), (1, (0, x1)), (2, (0, x2)), (3, (0, x3)), (4, (0, x4)), (5, (0, x5))] [] s (X11_moveFor_b48 n s x0 x1 x2 x3 x4 x5) :=
  V_iter (LV := fun a : St × Int × Int × Int × Int × Int × Int => [(0, (2, a.2.1)), (1, (0, a.2.2.1)), (2, (0, a.2.2.2.1)), (3, (0, a.2.2.2.2.1)), (4, (0, a.2.2.2.2.2.1)), (5, (0, a.2.2.2.2.2.2))]) (ST := fun a : St × Int × Int × Int × Int × Int × Int => []) (SS := fun a : St × Int × Int × Int × Int × Int × Int => a.1) (fun rec hrec a => X11_moveFor_b48_body_s G l (fun (s : St) (x0 x1 x2 x3 x4 x5 : Int) => rec (s, x0, x1, x2, x3, x4, x5)) (fun (s : St) (x0 x1 x2 x3 x4 x5 : Int) => hrec (s, x0, x1, x2, x3, x4, x5)) a.1 a.2.1 a.2.2.1 a.2.2.2.1 a.2.2.2.2.1 a.2.2.2.2.2.1 a.2.2.2.2.2.2) n (s, x0, x1, x2, x3, x4, x5)
def X11_moveFor (s : St) (a0 a1 a2 : Int) : Rs :=
  grd (isK s 21 a0) (bnd (X11_isNoPerson s a0 a1) (fun r1 s2 => bnd (X11_isNoNight s2 a2) (fun r3 s4 => grd (isK s4 21 a0) (bnd (X11_refused s4 a0 r1 r3) (fun r5 s6 => if r5 = 0 then (grd (isK s6 21 a0) (grd (isK s6 20 (gR s6 a0 7)) (bnd (X10_rightCount s6 (gR s6 a0 7) a2) (fun r7 s8 => grd (isK s8 21 a0) (grd (isK s8 21 a0) (grd (isK s8 20 (gR s8 a0 7)) (grd (isK s8 20 (gR s8 a0 8)) (bnd (X10_settle s8 (gR s8 a0 8) (gR s8 (gR s8 a0 7) 1)) (fun r9 s10 => X11_moveFor_b48 FU s10 a0 a1 a2 (-2) r7 0))))))))) else (some ((-1), s6)))))))
set_option maxRecDepth 100000 in
set_option maxHeartbeats 4000000 in
theorem X11_moveFor_s (G : Gx) (l : Launch) (s : St) (a0 a1 a2 : Int) : Snd G l mX11_moveFor [(2, a0), (0, a1), (0, a2)] s (X11_moveFor s a0 a1 a2) := by
  refine Snd.of (by decide +kernel) rfl ?_
  show V G l mX11_moveFor 0 [(0, (2, a0)), (1, (0, a1)), (2, (0, a2))] [] s _
  unfold X11_moveFor
  refine V_aload_n dec_X11_moveFor.1.1.1.1.1 0 rfl ?_
  refine V_aload_n dec_X11_moveFor.1.1.1.1.2.1 0 rfl ?_
  refine V_iload_n dec_X11_moveFor.1.1.1.1.2.2 1 rfl ?_
  refine V_callV0 (ci := 11) (a := a0) (As := [(0, a1)]) (st := [(2, a0)]) rfl rfl (X11_isNoPerson_s G l s a0 a1) cal_X11_isNoPerson rfl ml_X11_139 rfl rfl dec_X11_moveFor.1.1.1.2.1.1 (k_tag (tag := 0) rfl fun r1 s2 => ?_)
  refine V_iload_n dec_X11_moveFor.1.1.1.2.1.2 2 rfl ?_
  refine V_callS0 (As := [(0, a2)]) (st := [(0, r1), (2, a0)]) (host := "") rfl (X11_isNoNight_s G l s2 a2) cal_X11_isNoNight rfl (Or.inl ml_X11_187) rfl rfl dec_X11_moveFor.1.1.1.2.2.1 (k_tag (tag := 0) rfl fun r3 s4 => ?_)
  refine V_callV0 (ci := 11) (a := a0) (As := [(0, r1), (0, r3)]) (st := []) rfl rfl (X11_refused_s G l s4 a0 r1 r3) cal_X11_refused rfl ml_X11_92 rfl rfl dec_X11_moveFor.1.1.1.2.2.2 (k_tag (tag := 0) rfl fun r5 s6 => ?_)
  refine V_if_eq (tgt := 18) dec_X11_moveFor.1.1.2.1.1 (by decide) ?_ ?_
  · refine V_bipush dec_X11_moveFor.1.1.2.2.1.1 rfl ?_
    refine V_istore_n (lv' := [(3, (0, (-2))), (0, (2, a0)), (1, (0, a1)), (2, (0, a2))]) dec_X11_moveFor.1.1.2.2.1.2 (by decide) rfl ?_
    refine V_aload_n dec_X11_moveFor.1.1.2.2.2.1 1 rfl ?_
    refine V_getR 11 7 nf_11_7 ft_11_7 fl_X11_36 dec_X11_moveFor.1.1.2.2.2.2 ?_
    refine V_iload_n dec_X11_moveFor.1.2.1.1.1 3 rfl ?_
    refine V_callV0 (ci := 10) (a := (gR s6 a0 7)) (As := [(0, a2)]) (st := []) rfl rfl (X10_rightCount_s G l s6 (gR s6 a0 7) a2) cal_X10_rightCount rfl ml_X11_222 rfl rfl dec_X11_moveFor.1.2.1.1.2.1 (k_tag (tag := 0) rfl fun r7 s8 => ?_)
    refine V_istore (lv' := [(4, (0, r7)), (3, (0, (-2))), (0, (2, a0)), (1, (0, a1)), (2, (0, a2))]) dec_X11_moveFor.1.2.1.1.2.2 (by decide) rfl ?_
    refine V_aload_n dec_X11_moveFor.1.2.1.2.1.1 2 rfl ?_
    refine V_getR 11 8 nf_11_8 ft_11_8 fl_X11_40 dec_X11_moveFor.1.2.1.2.1.2 ?_
    refine V_aload_n dec_X11_moveFor.1.2.1.2.2.1 2 rfl ?_
    refine V_getR 11 7 nf_11_7 ft_11_7 fl_X11_36 dec_X11_moveFor.1.2.1.2.2.2 ?_
    refine V_getR 10 1 nf_10_1 ft_10_1 fl_X11_143 dec_X11_moveFor.1.2.2.1.1.1 ?_
    refine V_callV0 (ci := 10) (a := (gR s8 a0 8)) (As := [(2, (gR s8 (gR s8 a0 7) 1))]) (st := []) rfl rfl (X10_settle_s G l s8 (gR s8 a0 8) (gR s8 (gR s8 a0 7) 1)) cal_X10_settle rfl ml_X11_119 rfl rfl dec_X11_moveFor.1.2.2.1.1.2 (k_void rfl fun r9 s10 => ?_)
    refine V_iconst dec_X11_moveFor.1.2.2.1.2.1 rfl ?_
    refine V_istore (lv' := [(5, (0, 0)), (4, (0, r7)), (3, (0, (-2))), (0, (2, a0)), (1, (0, a1)), (2, (0, a2))]) dec_X11_moveFor.1.2.2.1.2.2 (by decide) rfl ?_
    exact V_pick [3, 4, 5, 2, 1, 0] rfl (X11_moveFor_b48_s G l FU s10 a0 a1 a2 (-2) r7 0)
  · refine V_iconst dec_X11_moveFor.1.1.2.1.2.1 rfl ?_
    exact V_iret rfl dec_X11_moveFor.1.1.2.1.2.2
theorem dec_X9_firstDeadFor : ((((decode cX9_firstDeadFor 0 = .ok (.iconst 0, 1) ∧ decode cX9_firstDeadFor 1 = .ok (.istore_n 2, 1)) ∧ (decode cX9_firstDeadFor 2 = .ok (.iload_n 2, 1) ∧ decode cX9_firstDeadFor 3 = .ok (.aload_n 0, 1))) ∧ ((decode cX9_firstDeadFor 4 = .ok (.getfield 50, 3) ∧ decode cX9_firstDeadFor 7 = .ok (.if_icmp .ge 21, 3)) ∧ (decode cX9_firstDeadFor 10 = .ok (.aload_n 0, 1) ∧ (decode cX9_firstDeadFor 11 = .ok (.getfield 22, 3) ∧ decode cX9_firstDeadFor 14 = .ok (.iload_n 2, 1))))) ∧ (((decode cX9_firstDeadFor 15 = .ok (.iaload, 1) ∧ decode cX9_firstDeadFor 16 = .ok (.iload_n 1, 1)) ∧ (decode cX9_firstDeadFor 17 = .ok (.if_icmp .ne 5, 3) ∧ decode cX9_firstDeadFor 20 = .ok (.iload_n 2, 1))) ∧ ((decode cX9_firstDeadFor 21 = .ok (.ireturn, 1) ∧ decode cX9_firstDeadFor 22 = .ok (.iinc 2 1, 3)) ∧ (decode cX9_firstDeadFor 25 = .ok (.goto (-23), 3) ∧ (decode cX9_firstDeadFor 28 = .ok (.bipush (-2), 2) ∧ decode cX9_firstDeadFor 30 = .ok (.ireturn, 1)))))) := ⟨by decide +kernel, by decide +kernel⟩
def X9_firstDeadFor_b2_body (rk2 : St → Int → Int → Int → Rs) (s : St) (x0 x1 x2 : Int) : Rs :=
  grd (isK s 19 x0) (if (gI s x0 3) ≤ x2 then (some ((-2), s)) else (grd (isK s 19 x0) (grd (isK s 1 (gR s x0 8) ∧ 0 ≤ x2 ∧ x2 < ln s (gR s x0 8)) (if ¬ (gI s (gR s x0 8) x2.toNat) = x1 then (rk2 s x0 x1 (w32 (x2 + 1))) else (some (x2, s))))))
def X9_firstDeadFor_b2 (n : Nat) (s : St) (x0 x1 x2 : Int) : Rs := iter (fun (rec : St × Int × Int × Int → Rs) (a : St × Int × Int × Int) => X9_firstDeadFor_b2_body (fun (s : St) (x0 x1 x2 : Int) => rec (s, x0, x1, x2)) a.1 a.2.1 a.2.2.1 a.2.2.2) n (s, x0, x1, x2)
theorem X9_firstDeadFor_b2_0 (s : St) (x0 x1 x2 : Int) : X9_firstDeadFor_b2 0 s x0 x1 x2 = none := rfl
theorem X9_firstDeadFor_b2_1 (n : Nat) (s : St) (x0 x1 x2 : Int) : X9_firstDeadFor_b2 (n + 1) s x0 x1 x2 = X9_firstDeadFor_b2_body (X9_firstDeadFor_b2 n) s x0 x1 x2 := rfl
set_option maxRecDepth 100000 in
set_option maxHeartbeats 4000000 in
theorem X9_firstDeadFor_b2_body_s (G : Gx) (l : Launch) (rk2 : St → Int → Int → Int → Rs) (hk2 : ∀ (s : St) (x0 x1 x2 : Int), V G l mX9_firstDeadFor 2 [(0, (2, x0)), (1, (0, x1)), (2, (0, x2))] [] s (rk2 s x0 x1 x2)) (s : St) (x0 x1 x2 : Int) : V G l mX9_firstDeadFor 2 [(0, (2, x0)), (1, (0, x1)), (2, (0, x2))] [] s (X9_firstDeadFor_b2_body rk2 s x0 x1 x2) := by
  unfold X9_firstDeadFor_b2_body
  refine V_iload_n dec_X9_firstDeadFor.1.1.2.1 2 rfl ?_
  refine V_aload_n dec_X9_firstDeadFor.1.1.2.2 0 rfl ?_
  refine V_getI 9 3 nf_9_3 ft_9_3 fl_X9_50 dec_X9_firstDeadFor.1.2.1.1 ?_
  refine V_icmp_ge (tgt := 28) dec_X9_firstDeadFor.1.2.1.2 (by decide) ?_ ?_
  · refine V_bipush dec_X9_firstDeadFor.2.2.2.2.1 rfl ?_
    exact V_iret rfl dec_X9_firstDeadFor.2.2.2.2.2
  · refine V_aload_n dec_X9_firstDeadFor.1.2.2.1 0 rfl ?_
    refine V_getR 9 8 nf_9_8 ft_9_8 fl_X9_22 dec_X9_firstDeadFor.1.2.2.2.1 ?_
    refine V_iload_n dec_X9_firstDeadFor.1.2.2.2.2 2 rfl ?_
    refine V_iald dec_X9_firstDeadFor.2.1.1.1 ?_
    refine V_iload_n dec_X9_firstDeadFor.2.1.1.2 1 rfl ?_
    refine V_icmp_ne (tgt := 22) dec_X9_firstDeadFor.2.1.2.1 (by decide) ?_ ?_
    · refine V_iinc (lv' := [(2, (0, (w32 (x2 + 1)))), (0, (2, x0)), (1, (0, x1))]) dec_X9_firstDeadFor.2.2.1.2 2 rfl (by decide) rfl ?_
      refine V_goto (tgt := 2) dec_X9_firstDeadFor.2.2.2.1 (by decide) ?_
      exact V_pick [1, 2, 0] rfl (hk2 s x0 x1 (w32 (x2 + 1)))
    · refine V_iload_n dec_X9_firstDeadFor.2.1.2.2 2 rfl ?_
      exact V_iret rfl dec_X9_firstDeadFor.2.2.1.1
theorem X9_firstDeadFor_b2_s (G : Gx) (l : Launch) (n : Nat) (s : St) (x0 x1 x2 : Int) : V G l mX9_firstDeadFor 2 [(0, (2, x0)), (1, (0, x1)), (2, (0, x2))] [] s (X9_firstDeadFor_b2 n s x0 x1 x2) :=
  V_iter (LV := fun a : St × Int × Int × Int => [(0, (2, a.2.1)), (1, (0, a.2.2.1)), (2, (0, a.2.2.2))]) (ST := fun a : St × Int × Int × Int => []) (SS := fun a : St × Int × Int × Int => a.1) (fun rec hrec a => X9_firstDeadFor_b2_body_s G l (fun (s : St) (x0 x1 x2 : Int) => rec (s, x0, x1, x2)) (fun (s : St) (x0 x1 x2 : Int) => hrec (s, x0, x1, x2)) a.1 a.2.1 a.2.2.1 a.2.2.2) n (s, x0, x1, x2)
def X9_firstDeadFor (s : St) (a0 a1 : Int) : Rs :=
  X9_firstDeadFor_b2 FU s a0 a1 0
set_option maxRecDepth 100000 in
set_option maxHeartbeats 4000000 in
theorem X9_firstDeadFor_s (G : Gx) (l : Launch) (s : St) (a0 a1 : Int) : Snd G l mX9_firstDeadFor [(2, a0), (0, a1)] s (X9_firstDeadFor s a0 a1) := by
  refine Snd.of (by decide +kernel) rfl ?_
  show V G l mX9_firstDeadFor 0 [(0, (2, a0)), (1, (0, a1))] [] s _
  unfold X9_firstDeadFor
  refine V_iconst dec_X9_firstDeadFor.1.1.1.1 rfl ?_
  refine V_istore_n (lv' := [(2, (0, 0)), (0, (2, a0)), (1, (0, a1))]) dec_X9_firstDeadFor.1.1.1.2 (by decide) rfl ?_
  exact V_pick [1, 2, 0] rfl (X9_firstDeadFor_b2_s G l FU s a0 a1 0)
theorem dec_X11_nextInRing : (((decode cX11_nextInRing 0 = .ok (.aload_n 0, 1) ∧ (decode cX11_nextInRing 1 = .ok (.getfield 27, 3) ∧ decode cX11_nextInRing 4 = .ok (.iload_n 1, 1))) ∧ ((decode cX11_nextInRing 5 = .ok (.invokevirtual 376, 3) ∧ decode cX11_nextInRing 8 = .ok (.istore_n 3, 1)) ∧ (decode cX11_nextInRing 9 = .ok (.iload_n 3, 1) ∧ decode cX11_nextInRing 10 = .ok (.ifCond .ge 8, 3)))) ∧ (((decode cX11_nextInRing 13 = .ok (.bipush (-2), 2) ∧ decode cX11_nextInRing 15 = .ok (.goto 12, 3)) ∧ (decode cX11_nextInRing 18 = .ok (.aload_n 0, 1) ∧ decode cX11_nextInRing 19 = .ok (.getfield 36, 3))) ∧ ((decode cX11_nextInRing 22 = .ok (.iload_n 3, 1) ∧ decode cX11_nextInRing 23 = .ok (.iload_n 2, 1)) ∧ (decode cX11_nextInRing 24 = .ok (.invokevirtual 197, 3) ∧ decode cX11_nextInRing 27 = .ok (.ireturn, 1))))) := ⟨by decide +kernel, by decide +kernel⟩
def X11_nextInRing_b27 (s : St) (k0 : Int) : Rs :=
  some (k0, s)
set_option maxRecDepth 100000 in
set_option maxHeartbeats 4000000 in
theorem X11_nextInRing_b27_s (G : Gx) (l : Launch) (s : St) (k0 : Int) : V G l mX11_nextInRing 27 [] [(0, k0)] s (X11_nextInRing_b27 s k0) := by
  unfold X11_nextInRing_b27
  exact V_iret rfl dec_X11_nextInRing.2.2.2.2
def X11_nextInRing (s : St) (a0 a1 a2 : Int) : Rs :=
  grd (isK s 21 a0) (grd (isK s 19 (gR s a0 6)) (bnd (X9_firstDeadFor s (gR s a0 6) a1) (fun r1 s2 => if 0 ≤ r1 then (grd (isK s2 21 a0) (grd (isK s2 20 (gR s2 a0 7)) (bnd (X10_listener s2 (gR s2 a0 7) r1 a2) (fun r3 s4 => X11_nextInRing_b27 s4 r3)))) else (X11_nextInRing_b27 s2 (-2)))))
set_option maxRecDepth 100000 in
set_option maxHeartbeats 4000000 in
theorem X11_nextInRing_s (G : Gx) (l : Launch) (s : St) (a0 a1 a2 : Int) : Snd G l mX11_nextInRing [(2, a0), (0, a1), (0, a2)] s (X11_nextInRing s a0 a1 a2) := by
  refine Snd.of (by decide +kernel) rfl ?_
  show V G l mX11_nextInRing 0 [(0, (2, a0)), (1, (0, a1)), (2, (0, a2))] [] s _
  unfold X11_nextInRing
  refine V_aload_n dec_X11_nextInRing.1.1.1 0 rfl ?_
  refine V_getR 11 6 nf_11_6 ft_11_6 fl_X11_27 dec_X11_nextInRing.1.1.2.1 ?_
  refine V_iload_n dec_X11_nextInRing.1.1.2.2 1 rfl ?_
  refine V_callV0 (ci := 9) (a := (gR s a0 6)) (As := [(0, a1)]) (st := []) rfl rfl (X9_firstDeadFor_s G l s (gR s a0 6) a1) cal_X9_firstDeadFor rfl ml_X11_376 rfl rfl dec_X11_nextInRing.1.2.1.1 (k_tag (tag := 0) rfl fun r1 s2 => ?_)
  refine V_istore_n (lv' := [(3, (0, r1)), (0, (2, a0)), (1, (0, a1)), (2, (0, a2))]) dec_X11_nextInRing.1.2.1.2 (by decide) rfl ?_
  refine V_iload_n dec_X11_nextInRing.1.2.2.1 0 rfl ?_
  refine V_if_ge (tgt := 18) dec_X11_nextInRing.1.2.2.2 (by decide) ?_ ?_
  · refine V_aload_n dec_X11_nextInRing.2.1.2.1 1 rfl ?_
    refine V_getR 11 7 nf_11_7 ft_11_7 fl_X11_36 dec_X11_nextInRing.2.1.2.2 ?_
    refine V_iload_n dec_X11_nextInRing.2.2.1.1 0 rfl ?_
    refine V_iload_n dec_X11_nextInRing.2.2.1.2 3 rfl ?_
    refine V_callV0 (ci := 10) (a := (gR s2 a0 7)) (As := [(0, r1), (0, a2)]) (st := []) rfl rfl (X10_listener_s G l s2 (gR s2 a0 7) r1 a2) cal_X10_listener rfl ml_X11_197 rfl rfl dec_X11_nextInRing.2.2.2.1 (k_tag (tag := 0) rfl fun r3 s4 => ?_)
    exact V_pick [] rfl (X11_nextInRing_b27_s G l s4 r3)
  · refine V_bipush dec_X11_nextInRing.2.1.1.1 rfl ?_
    refine V_goto (tgt := 27) dec_X11_nextInRing.2.1.1.2 (by decide) ?_
    exact V_pick [] rfl (X11_nextInRing_b27_s G l s2 (-2))
theorem dec_X11_night : (((((decode cX11_night 0 = .ok (.aload_n 0, 1) ∧ decode cX11_night 1 = .ok (.aload_n 0, 1)) ∧ (decode cX11_night 2 = .ok (.invokevirtual 203, 3) ∧ (decode cX11_night 5 = .ok (.iconst 0, 1) ∧ decode cX11_night 6 = .ok (.invokevirtual 92, 3)))) ∧ ((decode cX11_night 9 = .ok (.ifCond .eq 5, 3) ∧ decode cX11_night 12 = .ok (.iconst (-1), 1)) ∧ (decode cX11_night 13 = .ok (.ireturn, 1) ∧ (decode cX11_night 14 = .ok (.aload_n 0, 1) ∧ decode cX11_night 15 = .ok (.getfield 36, 3))))) ∧ (((decode cX11_night 18 = .ok (.getfield 143, 3) ∧ decode cX11_night 21 = .ok (.getfield 153, 3)) ∧ (decode cX11_night 24 = .ok (.istore_n 1, 1) ∧ (decode cX11_night 25 = .ok (.iload_n 1, 1) ∧ decode cX11_night 26 = .ok (.bipush 99, 2)))) ∧ ((decode cX11_night 28 = .ok (.if_icmp .lt 9, 3) ∧ decode cX11_night 31 = .ok (.aload_n 0, 1)) ∧ (decode cX11_night 32 = .ok (.iconst 3, 1) ∧ (decode cX11_night 33 = .ok (.invokevirtual 105, 3) ∧ decode cX11_night 36 = .ok (.ireturn, 1)))))) ∧ ((((decode cX11_night 37 = .ok (.aload_n 0, 1) ∧ decode cX11_night 38 = .ok (.getfield 74, 3)) ∧ (decode cX11_night 41 = .ok (.iconst 0, 1) ∧ (decode cX11_night 42 = .ok (.iconst 0, 1) ∧ decode cX11_night 43 = .ok (.iload_n 1, 1)))) ∧ ((decode cX11_night 44 = .ok (.invokevirtual 347, 3) ∧ decode cX11_night 47 = .ok (.aload_n 0, 1)) ∧ (decode cX11_night 48 = .ok (.getfield 36, 3) ∧ (decode cX11_night 51 = .ok (.getfield 143, 3) ∧ decode cX11_night 54 = .ok (.iload_n 1, 1))))) ∧ (((decode cX11_night 55 = .ok (.iconst 1, 1) ∧ decode cX11_night 56 = .ok (.iadd, 1)) ∧ (decode cX11_night 57 = .ok (.putfield 153, 3) ∧ (decode cX11_night 60 = .ok (.aload_n 0, 1) ∧ decode cX11_night 61 = .ok (.getfield 36, 3)))) ∧ ((decode cX11_night 64 = .ok (.iload_n 1, 1) ∧ decode cX11_night 65 = .ok (.iconst 1, 1)) ∧ (decode cX11_night 66 = .ok (.iadd, 1) ∧ (decode cX11_night 67 = .ok (.invokevirtual 207, 3) ∧ decode cX11_night 70 = .ok (.ireturn, 1))))))) := ⟨⟨by decide +kernel, by decide +kernel⟩, ⟨by decide +kernel, by decide +kernel⟩⟩
def X11_night (s : St) (a0 : Int) : Rs :=
  grd (isK s 21 a0) (bnd (X11_isNoTown s a0) (fun r1 s2 => grd (isK s2 21 a0) (bnd (X11_refused s2 a0 r1 0) (fun r3 s4 => if r3 = 0 then (grd (isK s4 21 a0) (grd (isK s4 20 (gR s4 a0 7)) (grd (isK s4 16 (gR s4 (gR s4 a0 7) 1)) (letv (gI s4 (gR s4 (gR s4 a0 7) 1) 0) (fun y5 => if y5 < (99 : Int) then (grd (isK s4 21 a0) (grd (isK s4 13 (gR s4 a0 13)) (bnd (X3_keep s4 (gR s4 a0 13) 0 0 y5) (fun r6 s7 => grd (isK s7 21 a0) (grd (isK s7 20 (gR s7 a0 7)) (grd (isK s7 16 (gR s7 (gR s7 a0 7) 1)) (lets (pI s7 (gR s7 (gR s7 a0 7) 1) 0 (w32 (y5 + 1))) (fun s8 => grd (isK s8 21 a0) (grd (isK s8 20 (gR s8 a0 7)) (bnd (X10_rightBits s8 (gR s8 a0 7) (w32 (y5 + 1))) (fun r9 s10 => some (r9, s10)))))))))))) else (grd (isK s4 21 a0) (bnd (X11_refuse s4 a0 3) (fun r11 s12 => some (r11, s12))))))))) else (some ((-1), s4))))))
set_option maxRecDepth 100000 in
set_option maxHeartbeats 4000000 in
theorem X11_night_s (G : Gx) (l : Launch) (s : St) (a0 : Int) : Snd G l mX11_night [(2, a0)] s (X11_night s a0) := by
  refine Snd.of (by decide +kernel) rfl ?_
  show V G l mX11_night 0 [(0, (2, a0))] [] s _
  unfold X11_night
  refine V_aload_n dec_X11_night.1.1.1.1.1 0 rfl ?_
  refine V_aload_n dec_X11_night.1.1.1.1.2 0 rfl ?_
  refine V_callV0 (ci := 11) (a := a0) (As := []) (st := [(2, a0)]) rfl rfl (X11_isNoTown_s G l s a0) cal_X11_isNoTown rfl ml_X11_203 rfl rfl dec_X11_night.1.1.1.2.1 (k_tag (tag := 0) rfl fun r1 s2 => ?_)
  refine V_iconst dec_X11_night.1.1.1.2.2.1 rfl ?_
  refine V_callV0 (ci := 11) (a := a0) (As := [(0, r1), (0, 0)]) (st := []) rfl rfl (X11_refused_s G l s2 a0 r1 0) cal_X11_refused rfl ml_X11_92 rfl rfl dec_X11_night.1.1.1.2.2.2 (k_tag (tag := 0) rfl fun r3 s4 => ?_)
  refine V_if_eq (tgt := 14) dec_X11_night.1.1.2.1.1 (by decide) ?_ ?_
  · refine V_aload_n dec_X11_night.1.1.2.2.2.1 0 rfl ?_
    refine V_getR 11 7 nf_11_7 ft_11_7 fl_X11_36 dec_X11_night.1.1.2.2.2.2 ?_
    refine V_getR 10 1 nf_10_1 ft_10_1 fl_X11_143 dec_X11_night.1.2.1.1.1 ?_
    refine V_getI 6 0 nf_6_0 ft_6_0 fl_X11_153 dec_X11_night.1.2.1.1.2 ?_
    refine V_letv fun y5 => ?_
    refine V_istore_n (lv' := [(1, (0, y5)), (0, (2, a0))]) dec_X11_night.1.2.1.2.1 (by decide) rfl ?_
    refine V_iload_n dec_X11_night.1.2.1.2.2.1 0 rfl ?_
    refine V_bipush dec_X11_night.1.2.1.2.2.2 rfl ?_
    refine V_icmp_lt (tgt := 37) dec_X11_night.1.2.2.1.1 (by decide) ?_ ?_
    · refine V_aload_n dec_X11_night.2.1.1.1.1 1 rfl ?_
      refine V_getR 11 13 nf_11_13 ft_11_13 fl_X11_74 dec_X11_night.2.1.1.1.2 ?_
      refine V_iconst dec_X11_night.2.1.1.2.1 rfl ?_
      refine V_iconst dec_X11_night.2.1.1.2.2.1 rfl ?_
      refine V_iload_n dec_X11_night.2.1.1.2.2.2 0 rfl ?_
      refine V_callV0 (ci := 3) (a := (gR s4 a0 13)) (As := [(0, 0), (0, 0), (0, y5)]) (st := []) rfl rfl (X3_keep_s G l s4 (gR s4 a0 13) 0 0 y5) cal_X3_keep rfl ml_X11_347 rfl rfl dec_X11_night.2.1.2.1.1 (k_void rfl fun r6 s7 => ?_)
      refine V_aload_n dec_X11_night.2.1.2.1.2 1 rfl ?_
      refine V_getR 11 7 nf_11_7 ft_11_7 fl_X11_36 dec_X11_night.2.1.2.2.1 ?_
      refine V_getR 10 1 nf_10_1 ft_10_1 fl_X11_143 dec_X11_night.2.1.2.2.2.1 ?_
      refine V_iload_n dec_X11_night.2.1.2.2.2.2 0 rfl ?_
      refine V_iconst dec_X11_night.2.2.1.1.1 rfl ?_
      refine V_iadd dec_X11_night.2.2.1.1.2 ?_
      refine V_putI (host := "") 6 0 nf_6_0 ty_6_0 (Or.inl ⟨fl_X11_153, Or.inl rfl⟩) dec_X11_night.2.2.1.2.1 ?_
      refine V_lets fun s8 => ?_
      refine V_aload_n dec_X11_night.2.2.1.2.2.1 1 rfl ?_
      refine V_getR 11 7 nf_11_7 ft_11_7 fl_X11_36 dec_X11_night.2.2.1.2.2.2 ?_
      refine V_iload_n dec_X11_night.2.2.2.1.1 0 rfl ?_
      refine V_iconst dec_X11_night.2.2.2.1.2 rfl ?_
      refine V_iadd dec_X11_night.2.2.2.2.1 ?_
      refine V_callV0 (ci := 10) (a := (gR s8 a0 7)) (As := [(0, (w32 (y5 + 1)))]) (st := []) rfl rfl (X10_rightBits_s G l s8 (gR s8 a0 7) (w32 (y5 + 1))) cal_X10_rightBits rfl ml_X11_207 rfl rfl dec_X11_night.2.2.2.2.2.1 (k_tag (tag := 0) rfl fun r9 s10 => ?_)
      exact V_iret rfl dec_X11_night.2.2.2.2.2.2
    · refine V_aload_n dec_X11_night.1.2.2.1.2 1 rfl ?_
      refine V_iconst dec_X11_night.1.2.2.2.1 rfl ?_
      refine V_callV0 (ci := 11) (a := a0) (As := [(0, 3)]) (st := []) rfl rfl (X11_refuse_s G l s4 a0 3) cal_X11_refuse rfl ml_X11_105 rfl rfl dec_X11_night.1.2.2.2.2.1 (k_tag (tag := 0) rfl fun r11 s12 => ?_)
      exact V_iret rfl dec_X11_night.1.2.2.2.2.2
  · refine V_iconst dec_X11_night.1.1.2.1.2 rfl ?_
    exact V_iret rfl dec_X11_night.1.1.2.2.1
theorem dec_X11_nightsOf : (((((decode cX11_nightsOf 0 = .ok (.aload_n 0, 1) ∧ decode cX11_nightsOf 1 = .ok (.aload_n 0, 1)) ∧ (decode cX11_nightsOf 2 = .ok (.iload_n 1, 1) ∧ decode cX11_nightsOf 3 = .ok (.invokevirtual 139, 3))) ∧ ((decode cX11_nightsOf 6 = .ok (.ifCond .ne 11, 3) ∧ decode cX11_nightsOf 9 = .ok (.aload_n 0, 1)) ∧ (decode cX11_nightsOf 10 = .ok (.iload_n 2, 1) ∧ (decode cX11_nightsOf 11 = .ok (.invokevirtual 160, 3) ∧ decode cX11_nightsOf 14 = .ok (.ifCond .eq 7, 3))))) ∧ (((decode cX11_nightsOf 17 = .ok (.iconst 1, 1) ∧ decode cX11_nightsOf 18 = .ok (.goto 4, 3)) ∧ (decode cX11_nightsOf 21 = .ok (.iconst 0, 1) ∧ decode cX11_nightsOf 22 = .ok (.iconst 0, 1))) ∧ ((decode cX11_nightsOf 23 = .ok (.invokevirtual 92, 3) ∧ decode cX11_nightsOf 26 = .ok (.ifCond .eq 5, 3)) ∧ (decode cX11_nightsOf 29 = .ok (.iconst (-1), 1) ∧ (decode cX11_nightsOf 30 = .ok (.ireturn, 1) ∧ decode cX11_nightsOf 31 = .ok (.iconst 0, 1)))))) ∧ ((((decode cX11_nightsOf 32 = .ok (.istore_n 3, 1) ∧ decode cX11_nightsOf 33 = .ok (.iconst 0, 1)) ∧ (decode cX11_nightsOf 34 = .ok (.istore 4, 2) ∧ decode cX11_nightsOf 36 = .ok (.iload 4, 2))) ∧ ((decode cX11_nightsOf 38 = .ok (.bipush 99, 2) ∧ decode cX11_nightsOf 40 = .ok (.if_icmp .gt 26, 3)) ∧ (decode cX11_nightsOf 43 = .ok (.aload_n 0, 1) ∧ (decode cX11_nightsOf 44 = .ok (.getfield 36, 3) ∧ decode cX11_nightsOf 47 = .ok (.iload_n 2, 1))))) ∧ (((decode cX11_nightsOf 48 = .ok (.iload 4, 2) ∧ decode cX11_nightsOf 50 = .ok (.invokevirtual 197, 3)) ∧ (decode cX11_nightsOf 53 = .ok (.iload_n 1, 1) ∧ decode cX11_nightsOf 54 = .ok (.if_icmp .ne 6, 3))) ∧ ((decode cX11_nightsOf 57 = .ok (.iinc 3 1, 3) ∧ decode cX11_nightsOf 60 = .ok (.iinc 4 1, 3)) ∧ (decode cX11_nightsOf 63 = .ok (.goto (-27), 3) ∧ (decode cX11_nightsOf 66 = .ok (.iload_n 3, 1) ∧ decode cX11_nightsOf 67 = .ok (.ireturn, 1))))))) := ⟨⟨by decide +kernel, by decide +kernel⟩, ⟨by decide +kernel, by decide +kernel⟩⟩
def X11_nightsOf_b60 (rk36 : St → Int → Int → Int → Int → Int → Rs) (s : St) (x0 x1 x2 x3 x4 : Int) : Rs :=
  rk36 s x0 x1 x2 x3 (w32 (x4 + 1))
set_option maxRecDepth 100000 in
set_option maxHeartbeats 4000000 in
theorem X11_nightsOf_b60_s (G : Gx) (l : Launch) (rk36 : St → Int → Int → Int → Int → Int → Rs) (hk36 : ∀ (s : St) (x0 x1 x2 x3 x4 : Int), V G l mX11_nightsOf 36 [(0, (2, x0)), (1, (0, x1)), (2, (0, x2)), (3, (0, x3)), (4, (0, x4))] [] s (rk36 s x0 x1 x2 x3 x4)) (s : St) (x0 x1 x2 x3 x4 : Int) : V G l mX11_nightsOf 60 [(0, (2, x0)), (1, (0, x1)), (2, (0, x2)), (3, (0, x3)), (4, (0, x4))] [] s (X11_nightsOf_b60 rk36 s x0 x1 x2 x3 x4) := by
  unfold X11_nightsOf_b60
  refine V_iinc (lv' := [(4, (0, (w32 (x4 + 1)))), (0, (2, x0)), (1, (0, x1)), (2, (0, x2)), (3, (0, x3))]) dec_X11_nightsOf.2.2.2.1.2 4 rfl (by decide) rfl ?_
  refine V_goto (tgt := 36) dec_X11_nightsOf.2.2.2.2.1 (by decide) ?_
  exact V_pick [1, 2, 3, 4, 0] rfl (hk36 s x0 x1 x2 x3 (w32 (x4 + 1)))
def X11_nightsOf_b36_body (rk36 : St → Int → Int → Int → Int → Int → Rs) (s : St) (x0 x1 x2 x3 x4 : Int) : Rs :=
  if (99 : Int) < x4 then (some (x3, s)) else (grd (isK s 21 x0) (grd (isK s 20 (gR s x0 7)) (bnd (X10_listener s (gR s x0 7) x2 x4) (fun r5 s6 => if ¬ r5 = x1 then (X11_nightsOf_b60 rk36 s6 x0 x1 x2 x3 x4) else (X11_nightsOf_b60 rk36 s6 x0 x1 x2 (w32 (x3 + 1)) x4)))))
def X11_nightsOf_b36 (n : Nat) (s : St) (x0 x1 x2 x3 x4 : Int) : Rs := iter (fun (rec : St × Int × Int × Int × Int × Int → Rs) (a : St × Int × Int × Int × Int × Int) => X11_nightsOf_b36_body (fun (s : St) (x0 x1 x2 x3 x4 : Int) => rec (s, x0, x1, x2, x3, x4)) a.1 a.2.1 a.2.2.1 a.2.2.2.1 a.2.2.2.2.1 a.2.2.2.2.2) n (s, x0, x1, x2, x3, x4)
theorem X11_nightsOf_b36_0 (s : St) (x0 x1 x2 x3 x4 : Int) : X11_nightsOf_b36 0 s x0 x1 x2 x3 x4 = none := rfl
theorem X11_nightsOf_b36_1 (n : Nat) (s : St) (x0 x1 x2 x3 x4 : Int) : X11_nightsOf_b36 (n + 1) s x0 x1 x2 x3 x4 = X11_nightsOf_b36_body (X11_nightsOf_b36 n) s x0 x1 x2 x3 x4 := rfl
set_option maxRecDepth 100000 in
set_option maxHeartbeats 4000000 in
theorem X11_nightsOf_b36_body_s (G : Gx) (l : Launch) (rk36 : St → Int → Int → Int → Int → Int → Rs) (hk36 : ∀ (s : St) (x0 x1 x2 x3 x4 : Int), V G l mX11_nightsOf 36 [(0, (2, x0)), (1, (0, x1)), (2, (0, x2)), (3, (0, x3)), (4, (0, x4))] [] s (rk36 s x0 x1 x2 x3 x4)) (s : St) (x0 x1 x2 x3 x4 : Int) : V G l mX11_nightsOf 36 [(0, (2, x0)), (1, (0, x1)), (2, (0, x2)), (3, (0, x3)), (4, (0, x4))] [] s (X11_nightsOf_b36_body rk36 s x0 x1 x2 x3 x4) := by
  unfold X11_nightsOf_b36_body
  refine V_iload dec_X11_nightsOf.2.1.1.2.2 4 rfl ?_
  refine V_bipush dec_X11_nightsOf.2.1.2.1.1 rfl ?_
  refine V_icmp_gt (tgt := 66) dec_X11_nightsOf.2.1.2.1.2 (by decide) ?_ ?_
  · refine V_iload_n dec_X11_nightsOf.2.2.2.2.2.1 3 rfl ?_
    exact V_iret rfl dec_X11_nightsOf.2.2.2.2.2.2
  · refine V_aload_n dec_X11_nightsOf.2.1.2.2.1 0 rfl ?_
    refine V_getR 11 7 nf_11_7 ft_11_7 fl_X11_36 dec_X11_nightsOf.2.1.2.2.2.1 ?_
    refine V_iload_n dec_X11_nightsOf.2.1.2.2.2.2 2 rfl ?_
    refine V_iload dec_X11_nightsOf.2.2.1.1.1 4 rfl ?_
    refine V_callV0 (ci := 10) (a := (gR s x0 7)) (As := [(0, x2), (0, x4)]) (st := []) rfl rfl (X10_listener_s G l s (gR s x0 7) x2 x4) cal_X10_listener rfl ml_X11_197 rfl rfl dec_X11_nightsOf.2.2.1.1.2 (k_tag (tag := 0) rfl fun r5 s6 => ?_)
    refine V_iload_n dec_X11_nightsOf.2.2.1.2.1 1 rfl ?_
    refine V_icmp_ne (tgt := 60) dec_X11_nightsOf.2.2.1.2.2 (by decide) ?_ ?_
    · exact V_pick [0, 1, 2, 3, 4] rfl (X11_nightsOf_b60_s G l rk36 hk36 s6 x0 x1 x2 x3 x4)
    · refine V_iinc (lv' := [(3, (0, (w32 (x3 + 1)))), (0, (2, x0)), (1, (0, x1)), (2, (0, x2)), (4, (0, x4))]) dec_X11_nightsOf.2.2.2.1.1 3 rfl (by decide) rfl ?_
      exact V_pick [1, 2, 3, 0, 4] rfl (X11_nightsOf_b60_s G l rk36 hk36 s6 x0 x1 x2 (w32 (x3 + 1)) x4)
theorem X11_nightsOf_b36_s (G : Gx) (l : Launch) (n : Nat) (s : St) (x0 x1 x2 x3 x4 : Int) : V G l mX11_nightsOf 36 [(0, (2, x0)), (1, (0, x1)), (2, (0, x2)), (3, (0, x3)), (4, (0, x4))] [] s (X11_nightsOf_b36 n s x0 x1 x2 x3 x4) :=
  V_iter (LV := fun a : St × Int × Int × Int × Int × Int => [(0, (2, a.2.1)), (1, (0, a.2.2.1)), (2, (0, a.2.2.2.1)), (3, (0, a.2.2.2.2.1)), (4, (0, a.2.2.2.2.2))]) (ST := fun a : St × Int × Int × Int × Int × Int => []) (SS := fun a : St × Int × Int × Int × Int × Int => a.1) (fun rec hrec a => X11_nightsOf_b36_body_s G l (fun (s : St) (x0 x1 x2 x3 x4 : Int) => rec (s, x0, x1, x2, x3, x4)) (fun (s : St) (x0 x1 x2 x3 x4 : Int) => hrec (s, x0, x1, x2, x3, x4)) a.1 a.2.1 a.2.2.1 a.2.2.2.1 a.2.2.2.2.1 a.2.2.2.2.2) n (s, x0, x1, x2, x3, x4)
def X11_nightsOf_b22 (s : St) (x0 x1 x2 k0 k1 : Int) : Rs :=
  grd (isK s 21 k1) (bnd (X11_refused s k1 k0 0) (fun r3 s4 => if r3 = 0 then (X11_nightsOf_b36 FU s4 x0 x1 x2 0 0) else (some ((-1), s4))))
set_option maxRecDepth 100000 in
set_option maxHeartbeats 4000000 in
theorem X11_nightsOf_b22_s (G : Gx) (l : Launch) (s : St) (x0 x1 x2 k0 k1 : Int) : V G l mX11_nightsOf 22 [(0, (2, x0)), (1, (0, x1)), (2, (0, x2))] [(0, k0), (2, k1)] s (X11_nightsOf_b22 s x0 x1 x2 k0 k1) := by
  unfold X11_nightsOf_b22
  refine V_iconst dec_X11_nightsOf.1.2.1.2.2 rfl ?_
  refine V_callV0 (ci := 11) (a := k1) (As := [(0, k0), (0, 0)]) (st := []) rfl rfl (X11_refused_s G l s k1 k0 0) cal_X11_refused rfl ml_X11_92 rfl rfl dec_X11_nightsOf.1.2.2.1.1 (k_tag (tag := 0) rfl fun r3 s4 => ?_)
  refine V_if_eq (tgt := 31) dec_X11_nightsOf.1.2.2.1.2 (by decide) ?_ ?_
  · refine V_iconst dec_X11_nightsOf.1.2.2.2.2.2 rfl ?_
    refine V_istore_n (lv' := [(3, (0, 0)), (0, (2, x0)), (1, (0, x1)), (2, (0, x2))]) dec_X11_nightsOf.2.1.1.1.1 (by decide) rfl ?_
    refine V_iconst dec_X11_nightsOf.2.1.1.1.2 rfl ?_
    refine V_istore (lv' := [(4, (0, 0)), (3, (0, 0)), (0, (2, x0)), (1, (0, x1)), (2, (0, x2))]) dec_X11_nightsOf.2.1.1.2.1 (by decide) rfl ?_
    exact V_pick [2, 3, 4, 1, 0] rfl (X11_nightsOf_b36_s G l FU s4 x0 x1 x2 0 0)
  · refine V_iconst dec_X11_nightsOf.1.2.2.2.1 rfl ?_
    exact V_iret rfl dec_X11_nightsOf.1.2.2.2.2.1
def X11_nightsOf_b17 (s : St) (x0 x1 x2 k0 : Int) : Rs :=
  X11_nightsOf_b22 s x0 x1 x2 1 k0
set_option maxRecDepth 100000 in
set_option maxHeartbeats 4000000 in
theorem X11_nightsOf_b17_s (G : Gx) (l : Launch) (s : St) (x0 x1 x2 k0 : Int) : V G l mX11_nightsOf 17 [(0, (2, x0)), (1, (0, x1)), (2, (0, x2))] [(2, k0)] s (X11_nightsOf_b17 s x0 x1 x2 k0) := by
  unfold X11_nightsOf_b17
  refine V_iconst dec_X11_nightsOf.1.2.1.1.1 rfl ?_
  refine V_goto (tgt := 22) dec_X11_nightsOf.1.2.1.1.2 (by decide) ?_
  exact V_pick [0, 1, 2] rfl (X11_nightsOf_b22_s G l s x0 x1 x2 1 k0)
def X11_nightsOf (s : St) (a0 a1 a2 : Int) : Rs :=
  grd (isK s 21 a0) (bnd (X11_isNoPerson s a0 a1) (fun r1 s2 => if ¬ r1 = 0 then (X11_nightsOf_b17 s2 a0 a1 a2 a0) else (grd (isK s2 21 a0) (bnd (X11_isNoDead s2 a0 a2) (fun r7 s8 => if r7 = 0 then (X11_nightsOf_b22 s8 a0 a1 a2 0 a0) else (X11_nightsOf_b17 s8 a0 a1 a2 a0))))))
set_option maxRecDepth 100000 in
set_option maxHeartbeats 4000000 in
theorem X11_nightsOf_s (G : Gx) (l : Launch) (s : St) (a0 a1 a2 : Int) : Snd G l mX11_nightsOf [(2, a0), (0, a1), (0, a2)] s (X11_nightsOf s a0 a1 a2) := by
  refine Snd.of (by decide +kernel) rfl ?_
  show V G l mX11_nightsOf 0 [(0, (2, a0)), (1, (0, a1)), (2, (0, a2))] [] s _
  unfold X11_nightsOf
  refine V_aload_n dec_X11_nightsOf.1.1.1.1.1 0 rfl ?_
  refine V_aload_n dec_X11_nightsOf.1.1.1.1.2 0 rfl ?_
  refine V_iload_n dec_X11_nightsOf.1.1.1.2.1 1 rfl ?_
  refine V_callV0 (ci := 11) (a := a0) (As := [(0, a1)]) (st := [(2, a0)]) rfl rfl (X11_isNoPerson_s G l s a0 a1) cal_X11_isNoPerson rfl ml_X11_139 rfl rfl dec_X11_nightsOf.1.1.1.2.2 (k_tag (tag := 0) rfl fun r1 s2 => ?_)
  refine V_if_ne (tgt := 17) dec_X11_nightsOf.1.1.2.1.1 (by decide) ?_ ?_
  · exact V_pick [0, 1, 2] rfl (X11_nightsOf_b17_s G l s2 a0 a1 a2 a0)
  · refine V_aload_n dec_X11_nightsOf.1.1.2.1.2 0 rfl ?_
    refine V_iload_n dec_X11_nightsOf.1.1.2.2.1 2 rfl ?_
    refine V_callV0 (ci := 11) (a := a0) (As := [(0, a2)]) (st := [(2, a0)]) rfl rfl (X11_isNoDead_s G l s2 a0 a2) cal_X11_isNoDead rfl ml_X11_160 rfl rfl dec_X11_nightsOf.1.1.2.2.2.1 (k_tag (tag := 0) rfl fun r7 s8 => ?_)
    refine V_if_eq (tgt := 21) dec_X11_nightsOf.1.1.2.2.2.2 (by decide) ?_ ?_
    · refine V_iconst dec_X11_nightsOf.1.2.1.2.1 rfl ?_
      exact V_pick [0, 1, 2] rfl (X11_nightsOf_b22_s G l s8 a0 a1 a2 0 a0)
    · exact V_pick [0, 1, 2] rfl (X11_nightsOf_b17_s G l s8 a0 a1 a2 a0)
theorem dec_X11_odds : ((((decode cX11_odds 0 = .ok (.aload_n 0, 1) ∧ (decode cX11_odds 1 = .ok (.aload_n 0, 1) ∧ decode cX11_odds 2 = .ok (.iload_n 1, 1))) ∧ (decode cX11_odds 3 = .ok (.invokevirtual 160, 3) ∧ (decode cX11_odds 6 = .ok (.iload_n 2, 1) ∧ decode cX11_odds 7 = .ok (.invokestatic 187, 3)))) ∧ ((decode cX11_odds 10 = .ok (.invokevirtual 92, 3) ∧ (decode cX11_odds 13 = .ok (.ifCond .eq 7, 3) ∧ decode cX11_odds 16 = .ok (.ldc2_w 315, 3))) ∧ ((decode cX11_odds 19 = .ok (.lreturn, 1) ∧ decode cX11_odds 20 = .ok (.aload_n 0, 1)) ∧ (decode cX11_odds 21 = .ok (.getfield 67, 3) ∧ decode cX11_odds 24 = .ok (.aload_n 0, 1))))) ∧ (((decode cX11_odds 25 = .ok (.getfield 36, 3) ∧ (decode cX11_odds 28 = .ok (.iload_n 1, 1) ∧ decode cX11_odds 29 = .ok (.aload_n 0, 1))) ∧ ((decode cX11_odds 30 = .ok (.getfield 27, 3) ∧ decode cX11_odds 33 = .ok (.getfield 169, 3)) ∧ (decode cX11_odds 36 = .ok (.iload_n 1, 1) ∧ decode cX11_odds 37 = .ok (.iaload, 1)))) ∧ ((decode cX11_odds 38 = .ok (.iload_n 2, 1) ∧ (decode cX11_odds 39 = .ok (.invokevirtual 317, 3) ∧ decode cX11_odds 42 = .ok (.i2l, 1))) ∧ ((decode cX11_odds 43 = .ok (.ldc2_w 321, 3) ∧ decode cX11_odds 46 = .ok (.iload_n 3, 1)) ∧ (decode cX11_odds 47 = .ok (.invokestatic 323, 3) ∧ decode cX11_odds 50 = .ok (.lreturn, 1)))))) := ⟨⟨by decide +kernel, by decide +kernel⟩, ⟨by decide +kernel, by decide +kernel⟩⟩
def X11_odds (s : St) (a0 a1 a2 a3 : Int) : Rs :=
  grd (isK s 21 a0) (bnd (X11_isNoDead s a0 a1) (fun r1 s2 => bnd (X11_isNoNight s2 a2) (fun r3 s4 => grd (isK s4 21 a0) (bnd (X11_refused s4 a0 r1 r3) (fun r5 s6 => if r5 = 0 then (grd (isK s6 21 a0) (grd (isK s6 21 a0) (grd (isK s6 21 a0) (grd (isK s6 19 (gR s6 a0 6)) (grd (isK s6 1 (gR s6 (gR s6 a0 6) 8) ∧ 0 ≤ a1 ∧ a1 < ln s6 (gR s6 (gR s6 a0 6) 8)) (grd (isK s6 12 (gR s6 a0 12)) (bnd (X2_hundredths s6 (gR s6 a0 12) (gR s6 a0 7) a1 (gI s6 (gR s6 (gR s6 a0 6) 8) a1.toNat) a2) (fun r7 s8 => bnd (X11_inLowestTerms s8 r7 100 a3) (fun r9 s10 => some (r9, s10)))))))))) else (some ((-1), s6)))))))
set_option maxRecDepth 100000 in
set_option maxHeartbeats 4000000 in
theorem X11_odds_s (G : Gx) (l : Launch) (s : St) (a0 a1 a2 a3 : Int) : Snd G l mX11_odds [(2, a0), (0, a1), (0, a2), (0, a3)] s (X11_odds s a0 a1 a2 a3) := by
  refine Snd.of (by decide +kernel) rfl ?_
  show V G l mX11_odds 0 [(0, (2, a0)), (1, (0, a1)), (2, (0, a2)), (3, (0, a3))] [] s _
  unfold X11_odds
  refine V_aload_n dec_X11_odds.1.1.1.1 0 rfl ?_
  refine V_aload_n dec_X11_odds.1.1.1.2.1 0 rfl ?_
  refine V_iload_n dec_X11_odds.1.1.1.2.2 1 rfl ?_
  refine V_callV0 (ci := 11) (a := a0) (As := [(0, a1)]) (st := [(2, a0)]) rfl rfl (X11_isNoDead_s G l s a0 a1) cal_X11_isNoDead rfl ml_X11_160 rfl rfl dec_X11_odds.1.1.2.1 (k_tag (tag := 0) rfl fun r1 s2 => ?_)
  refine V_iload_n dec_X11_odds.1.1.2.2.1 2 rfl ?_
  refine V_callS0 (As := [(0, a2)]) (st := [(0, r1), (2, a0)]) (host := "") rfl (X11_isNoNight_s G l s2 a2) cal_X11_isNoNight rfl (Or.inl ml_X11_187) rfl rfl dec_X11_odds.1.1.2.2.2 (k_tag (tag := 0) rfl fun r3 s4 => ?_)
  refine V_callV0 (ci := 11) (a := a0) (As := [(0, r1), (0, r3)]) (st := []) rfl rfl (X11_refused_s G l s4 a0 r1 r3) cal_X11_refused rfl ml_X11_92 rfl rfl dec_X11_odds.1.2.1.1 (k_tag (tag := 0) rfl fun r5 s6 => ?_)
  refine V_if_eq (tgt := 20) dec_X11_odds.1.2.1.2.1 (by decide) ?_ ?_
  · refine V_aload_n dec_X11_odds.1.2.2.1.2 0 rfl ?_
    refine V_getR 11 12 nf_11_12 ft_11_12 fl_X11_67 dec_X11_odds.1.2.2.2.1 ?_
    refine V_aload_n dec_X11_odds.1.2.2.2.2 0 rfl ?_
    refine V_getR 11 7 nf_11_7 ft_11_7 fl_X11_36 dec_X11_odds.2.1.1.1 ?_
    refine V_iload_n dec_X11_odds.2.1.1.2.1 1 rfl ?_
    refine V_aload_n dec_X11_odds.2.1.1.2.2 0 rfl ?_
    refine V_getR 11 6 nf_11_6 ft_11_6 fl_X11_27 dec_X11_odds.2.1.2.1.1 ?_
    refine V_getR 9 8 nf_9_8 ft_9_8 fl_X11_169 dec_X11_odds.2.1.2.1.2 ?_
    refine V_iload_n dec_X11_odds.2.1.2.2.1 1 rfl ?_
    refine V_iald dec_X11_odds.2.1.2.2.2 ?_
    refine V_iload_n dec_X11_odds.2.2.1.1 2 rfl ?_
    refine V_callV0 (ci := 2) (a := (gR s6 a0 12)) (As := [(2, (gR s6 a0 7)), (0, a1), (0, (gI s6 (gR s6 (gR s6 a0 6) 8) a1.toNat)), (0, a2)]) (st := []) rfl rfl (X2_hundredths_s G l s6 (gR s6 a0 12) (gR s6 a0 7) a1 (gI s6 (gR s6 (gR s6 a0 6) 8) a1.toNat) a2) cal_X2_hundredths rfl ml_X11_317 rfl rfl dec_X11_odds.2.2.1.2.1 (k_tag (tag := 0) rfl fun r7 s8 => ?_)
    refine V_i2l dec_X11_odds.2.2.1.2.2 ?_
    refine V_ldc2 (n := 100) cw_X11_321 (by decide) dec_X11_odds.2.2.2.1.1 ?_
    refine V_iload_n dec_X11_odds.2.2.2.1.2 3 rfl ?_
    refine V_callS0 (As := [(1, r7), (1, 100), (0, a3)]) (st := []) (host := "") rfl (X11_inLowestTerms_s G l s8 r7 100 a3) cal_X11_inLowestTerms rfl (Or.inl ml_X11_323) rfl rfl dec_X11_odds.2.2.2.2.1 (k_tag (tag := 1) rfl fun r9 s10 => ?_)
    exact V_lret rfl dec_X11_odds.2.2.2.2.2
  · refine V_ldc2 (n := (-1)) cw_X11_315 (by decide) dec_X11_odds.1.2.1.2.2 ?_
    exact V_lret rfl dec_X11_odds.1.2.2.1.1
theorem dec_X11_off : (((((decode cX11_off 0 = .ok (.aload_n 0, 1) ∧ decode cX11_off 1 = .ok (.aload_n 0, 1)) ∧ (decode cX11_off 2 = .ok (.iload_n 1, 1) ∧ decode cX11_off 3 = .ok (.invokevirtual 160, 3))) ∧ ((decode cX11_off 6 = .ok (.iload_n 2, 1) ∧ decode cX11_off 7 = .ok (.invokestatic 187, 3)) ∧ (decode cX11_off 10 = .ok (.invokevirtual 92, 3) ∧ (decode cX11_off 13 = .ok (.ifCond .eq 5, 3) ∧ decode cX11_off 16 = .ok (.iconst (-1), 1))))) ∧ (((decode cX11_off 17 = .ok (.ireturn, 1) ∧ decode cX11_off 18 = .ok (.aload_n 0, 1)) ∧ (decode cX11_off 19 = .ok (.getfield 36, 3) ∧ (decode cX11_off 22 = .ok (.iload_n 1, 1) ∧ decode cX11_off 23 = .ok (.iload_n 2, 1)))) ∧ ((decode cX11_off 24 = .ok (.invokevirtual 197, 3) ∧ decode cX11_off 27 = .ok (.istore_n 3, 1)) ∧ (decode cX11_off 28 = .ok (.aload_n 0, 1) ∧ (decode cX11_off 29 = .ok (.iload_n 3, 1) ∧ decode cX11_off 30 = .ok (.invokevirtual 139, 3)))))) ∧ ((((decode cX11_off 33 = .ok (.ifCond .eq 8, 3) ∧ decode cX11_off 36 = .ok (.bipush (-2), 2)) ∧ (decode cX11_off 38 = .ok (.goto 32, 3) ∧ decode cX11_off 41 = .ok (.aload_n 0, 1))) ∧ ((decode cX11_off 42 = .ok (.getfield 27, 3) ∧ decode cX11_off 45 = .ok (.aload_n 0, 1)) ∧ (decode cX11_off 46 = .ok (.getfield 36, 3) ∧ (decode cX11_off 49 = .ok (.getfield 143, 3) ∧ decode cX11_off 52 = .ok (.getfield 146, 3))))) ∧ (((decode cX11_off 55 = .ok (.iload_n 3, 1) ∧ decode cX11_off 56 = .ok (.iaload, 1)) ∧ (decode cX11_off 57 = .ok (.aload_n 0, 1) ∧ (decode cX11_off 58 = .ok (.getfield 36, 3) ∧ decode cX11_off 61 = .ok (.iload_n 1, 1)))) ∧ ((decode cX11_off 62 = .ok (.iload_n 2, 1) ∧ decode cX11_off 63 = .ok (.invokevirtual 190, 3)) ∧ (decode cX11_off 66 = .ok (.isub, 1) ∧ (decode cX11_off 67 = .ok (.invokevirtual 200, 3) ∧ decode cX11_off 70 = .ok (.ireturn, 1))))))) := ⟨⟨by decide +kernel, by decide +kernel⟩, ⟨by decide +kernel, by decide +kernel⟩⟩
def X11_off_b70 (s : St) (k0 : Int) : Rs :=
  some (k0, s)
set_option maxRecDepth 100000 in
set_option maxHeartbeats 4000000 in
theorem X11_off_b70_s (G : Gx) (l : Launch) (s : St) (k0 : Int) : V G l mX11_off 70 [] [(0, k0)] s (X11_off_b70 s k0) := by
  unfold X11_off_b70
  exact V_iret rfl dec_X11_off.2.2.2.2.2.2
def X11_off (s : St) (a0 a1 a2 : Int) : Rs :=
  grd (isK s 21 a0) (bnd (X11_isNoDead s a0 a1) (fun r1 s2 => bnd (X11_isNoNight s2 a2) (fun r3 s4 => grd (isK s4 21 a0) (bnd (X11_refused s4 a0 r1 r3) (fun r5 s6 => if r5 = 0 then (grd (isK s6 21 a0) (grd (isK s6 20 (gR s6 a0 7)) (bnd (X10_listener s6 (gR s6 a0 7) a1 a2) (fun r7 s8 => grd (isK s8 21 a0) (bnd (X11_isNoPerson s8 a0 r7) (fun r9 s10 => if r9 = 0 then (grd (isK s10 21 a0) (grd (isK s10 21 a0) (grd (isK s10 20 (gR s10 a0 7)) (grd (isK s10 16 (gR s10 (gR s10 a0 7) 1)) (grd (isK s10 1 (gR s10 (gR s10 (gR s10 a0 7) 1) 1) ∧ 0 ≤ r7 ∧ r7 < ln s10 (gR s10 (gR s10 (gR s10 a0 7) 1) 1)) (grd (isK s10 21 a0) (grd (isK s10 20 (gR s10 a0 7)) (bnd (X10_landing s10 (gR s10 a0 7) a1 a2) (fun r11 s12 => grd (isK s12 19 (gR s10 a0 6)) (bnd (X9_around s12 (gR s10 a0 6) (w32 ((gI s10 (gR s10 (gR s10 (gR s10 a0 7) 1) 1) r7.toNat) - r11))) (fun r13 s14 => X11_off_b70 s14 r13))))))))))) else (X11_off_b70 s10 (-2)))))))) else (some ((-1), s6)))))))
set_option maxRecDepth 100000 in
set_option maxHeartbeats 4000000 in
theorem X11_off_s (G : Gx) (l : Launch) (s : St) (a0 a1 a2 : Int) : Snd G l mX11_off [(2, a0), (0, a1), (0, a2)] s (X11_off s a0 a1 a2) := by
  refine Snd.of (by decide +kernel) rfl ?_
  show V G l mX11_off 0 [(0, (2, a0)), (1, (0, a1)), (2, (0, a2))] [] s _
  unfold X11_off
  refine V_aload_n dec_X11_off.1.1.1.1.1 0 rfl ?_
  refine V_aload_n dec_X11_off.1.1.1.1.2 0 rfl ?_
  refine V_iload_n dec_X11_off.1.1.1.2.1 1 rfl ?_
  refine V_callV0 (ci := 11) (a := a0) (As := [(0, a1)]) (st := [(2, a0)]) rfl rfl (X11_isNoDead_s G l s a0 a1) cal_X11_isNoDead rfl ml_X11_160 rfl rfl dec_X11_off.1.1.1.2.2 (k_tag (tag := 0) rfl fun r1 s2 => ?_)
  refine V_iload_n dec_X11_off.1.1.2.1.1 2 rfl ?_
  refine V_callS0 (As := [(0, a2)]) (st := [(0, r1), (2, a0)]) (host := "") rfl (X11_isNoNight_s G l s2 a2) cal_X11_isNoNight rfl (Or.inl ml_X11_187) rfl rfl dec_X11_off.1.1.2.1.2 (k_tag (tag := 0) rfl fun r3 s4 => ?_)
  refine V_callV0 (ci := 11) (a := a0) (As := [(0, r1), (0, r3)]) (st := []) rfl rfl (X11_refused_s G l s4 a0 r1 r3) cal_X11_refused rfl ml_X11_92 rfl rfl dec_X11_off.1.1.2.2.1 (k_tag (tag := 0) rfl fun r5 s6 => ?_)
  refine V_if_eq (tgt := 18) dec_X11_off.1.1.2.2.2.1 (by decide) ?_ ?_
  · refine V_aload_n dec_X11_off.1.2.1.1.2 0 rfl ?_
    refine V_getR 11 7 nf_11_7 ft_11_7 fl_X11_36 dec_X11_off.1.2.1.2.1 ?_
    refine V_iload_n dec_X11_off.1.2.1.2.2.1 1 rfl ?_
    refine V_iload_n dec_X11_off.1.2.1.2.2.2 2 rfl ?_
    refine V_callV0 (ci := 10) (a := (gR s6 a0 7)) (As := [(0, a1), (0, a2)]) (st := []) rfl rfl (X10_listener_s G l s6 (gR s6 a0 7) a1 a2) cal_X10_listener rfl ml_X11_197 rfl rfl dec_X11_off.1.2.2.1.1 (k_tag (tag := 0) rfl fun r7 s8 => ?_)
    refine V_istore_n (lv' := [(3, (0, r7)), (0, (2, a0)), (1, (0, a1)), (2, (0, a2))]) dec_X11_off.1.2.2.1.2 (by decide) rfl ?_
    refine V_aload_n dec_X11_off.1.2.2.2.1 1 rfl ?_
    refine V_iload_n dec_X11_off.1.2.2.2.2.1 0 rfl ?_
    refine V_callV0 (ci := 11) (a := a0) (As := [(0, r7)]) (st := []) rfl rfl (X11_isNoPerson_s G l s8 a0 r7) cal_X11_isNoPerson rfl ml_X11_139 rfl rfl dec_X11_off.1.2.2.2.2.2 (k_tag (tag := 0) rfl fun r9 s10 => ?_)
    refine V_if_eq (tgt := 41) dec_X11_off.2.1.1.1.1 (by decide) ?_ ?_
    · refine V_aload_n dec_X11_off.2.1.1.2.2 1 rfl ?_
      refine V_getR 11 6 nf_11_6 ft_11_6 fl_X11_27 dec_X11_off.2.1.2.1.1 ?_
      refine V_aload_n dec_X11_off.2.1.2.1.2 1 rfl ?_
      refine V_getR 11 7 nf_11_7 ft_11_7 fl_X11_36 dec_X11_off.2.1.2.2.1 ?_
      refine V_getR 10 1 nf_10_1 ft_10_1 fl_X11_143 dec_X11_off.2.1.2.2.2.1 ?_
      refine V_getR 6 1 nf_6_1 ft_6_1 fl_X11_146 dec_X11_off.2.1.2.2.2.2 ?_
      refine V_iload_n dec_X11_off.2.2.1.1.1 0 rfl ?_
      refine V_iald dec_X11_off.2.2.1.1.2 ?_
      refine V_aload_n dec_X11_off.2.2.1.2.1 1 rfl ?_
      refine V_getR 11 7 nf_11_7 ft_11_7 fl_X11_36 dec_X11_off.2.2.1.2.2.1 ?_
      refine V_iload_n dec_X11_off.2.2.1.2.2.2 2 rfl ?_
      refine V_iload_n dec_X11_off.2.2.2.1.1 3 rfl ?_
      refine V_callV0 (ci := 10) (a := (gR s10 a0 7)) (As := [(0, a1), (0, a2)]) (st := [(0, (gI s10 (gR s10 (gR s10 (gR s10 a0 7) 1) 1) r7.toNat)), (2, (gR s10 a0 6))]) rfl rfl (X10_landing_s G l s10 (gR s10 a0 7) a1 a2) cal_X10_landing rfl ml_X11_190 rfl rfl dec_X11_off.2.2.2.1.2 (k_tag (tag := 0) rfl fun r11 s12 => ?_)
      refine V_isub dec_X11_off.2.2.2.2.1 ?_
      refine V_callV0 (ci := 9) (a := (gR s10 a0 6)) (As := [(0, (w32 ((gI s10 (gR s10 (gR s10 (gR s10 a0 7) 1) 1) r7.toNat) - r11)))]) (st := []) rfl rfl (X9_around_s G l s12 (gR s10 a0 6) (w32 ((gI s10 (gR s10 (gR s10 (gR s10 a0 7) 1) 1) r7.toNat) - r11))) cal_X9_around rfl ml_X11_200 rfl rfl dec_X11_off.2.2.2.2.2.1 (k_tag (tag := 0) rfl fun r13 s14 => ?_)
      exact V_pick [] rfl (X11_off_b70_s G l s14 r13)
    · refine V_bipush dec_X11_off.2.1.1.1.2 rfl ?_
      refine V_goto (tgt := 70) dec_X11_off.2.1.1.2.1 (by decide) ?_
      exact V_pick [] rfl (X11_off_b70_s G l s10 (-2))
  · refine V_iconst dec_X11_off.1.1.2.2.2.2 rfl ?_
    exact V_iret rfl dec_X11_off.1.2.1.1.1
theorem dec_X11_outIf : ((((decode cX11_outIf 0 = .ok (.aload_n 0, 1) ∧ (decode cX11_outIf 1 = .ok (.aload_n 0, 1) ∧ decode cX11_outIf 2 = .ok (.iload_n 1, 1))) ∧ (decode cX11_outIf 3 = .ok (.invokevirtual 160, 3) ∧ (decode cX11_outIf 6 = .ok (.ifCond .ne 11, 3) ∧ decode cX11_outIf 9 = .ok (.aload_n 0, 1)))) ∧ ((decode cX11_outIf 10 = .ok (.iload_n 2, 1) ∧ (decode cX11_outIf 11 = .ok (.invokevirtual 175, 3) ∧ decode cX11_outIf 14 = .ok (.ifCond .eq 7, 3))) ∧ (decode cX11_outIf 17 = .ok (.iconst 1, 1) ∧ (decode cX11_outIf 18 = .ok (.goto 4, 3) ∧ decode cX11_outIf 21 = .ok (.iconst 0, 1))))) ∧ (((decode cX11_outIf 22 = .ok (.iload_n 3, 1) ∧ (decode cX11_outIf 23 = .ok (.invokestatic 187, 3) ∧ decode cX11_outIf 26 = .ok (.invokevirtual 92, 3))) ∧ (decode cX11_outIf 29 = .ok (.ifCond .eq 5, 3) ∧ (decode cX11_outIf 32 = .ok (.iconst (-1), 1) ∧ decode cX11_outIf 33 = .ok (.ireturn, 1)))) ∧ ((decode cX11_outIf 34 = .ok (.aload_n 0, 1) ∧ (decode cX11_outIf 35 = .ok (.getfield 36, 3) ∧ decode cX11_outIf 38 = .ok (.iload_n 1, 1))) ∧ ((decode cX11_outIf 39 = .ok (.iload_n 2, 1) ∧ decode cX11_outIf 40 = .ok (.iload_n 3, 1)) ∧ (decode cX11_outIf 41 = .ok (.invokevirtual 193, 3) ∧ decode cX11_outIf 44 = .ok (.ireturn, 1)))))) := ⟨by decide +kernel, ⟨by decide +kernel, by decide +kernel⟩⟩
def X11_outIf_b22 (s : St) (x0 x1 x2 x3 k0 k1 : Int) : Rs :=
  bnd (X11_isNoNight s x3) (fun r3 s4 => grd (isK s4 21 k1) (bnd (X11_refused s4 k1 k0 r3) (fun r5 s6 => if r5 = 0 then (grd (isK s6 21 x0) (grd (isK s6 20 (gR s6 x0 7)) (bnd (X10_landingAimed s6 (gR s6 x0 7) x1 x2 x3) (fun r7 s8 => some (r7, s8))))) else (some ((-1), s6)))))
set_option maxRecDepth 100000 in
set_option maxHeartbeats 4000000 in
theorem X11_outIf_b22_s (G : Gx) (l : Launch) (s : St) (x0 x1 x2 x3 k0 k1 : Int) : V G l mX11_outIf 22 [(0, (2, x0)), (1, (0, x1)), (2, (0, x2)), (3, (0, x3))] [(0, k0), (2, k1)] s (X11_outIf_b22 s x0 x1 x2 x3 k0 k1) := by
  unfold X11_outIf_b22
  refine V_iload_n dec_X11_outIf.2.1.1.1 3 rfl ?_
  refine V_callS0 (As := [(0, x3)]) (st := [(0, k0), (2, k1)]) (host := "") rfl (X11_isNoNight_s G l s x3) cal_X11_isNoNight rfl (Or.inl ml_X11_187) rfl rfl dec_X11_outIf.2.1.1.2.1 (k_tag (tag := 0) rfl fun r3 s4 => ?_)
  refine V_callV0 (ci := 11) (a := k1) (As := [(0, k0), (0, r3)]) (st := []) rfl rfl (X11_refused_s G l s4 k1 k0 r3) cal_X11_refused rfl ml_X11_92 rfl rfl dec_X11_outIf.2.1.1.2.2 (k_tag (tag := 0) rfl fun r5 s6 => ?_)
  refine V_if_eq (tgt := 34) dec_X11_outIf.2.1.2.1 (by decide) ?_ ?_
  · refine V_aload_n dec_X11_outIf.2.2.1.1 0 rfl ?_
    refine V_getR 11 7 nf_11_7 ft_11_7 fl_X11_36 dec_X11_outIf.2.2.1.2.1 ?_
    refine V_iload_n dec_X11_outIf.2.2.1.2.2 1 rfl ?_
    refine V_iload_n dec_X11_outIf.2.2.2.1.1 2 rfl ?_
    refine V_iload_n dec_X11_outIf.2.2.2.1.2 3 rfl ?_
    refine V_callV0 (ci := 10) (a := (gR s6 x0 7)) (As := [(0, x1), (0, x2), (0, x3)]) (st := []) rfl rfl (X10_landingAimed_s G l s6 (gR s6 x0 7) x1 x2 x3) cal_X10_landingAimed rfl ml_X11_193 rfl rfl dec_X11_outIf.2.2.2.2.1 (k_tag (tag := 0) rfl fun r7 s8 => ?_)
    exact V_iret rfl dec_X11_outIf.2.2.2.2.2
  · refine V_iconst dec_X11_outIf.2.1.2.2.1 rfl ?_
    exact V_iret rfl dec_X11_outIf.2.1.2.2.2
def X11_outIf_b17 (s : St) (x0 x1 x2 x3 k0 : Int) : Rs :=
  X11_outIf_b22 s x0 x1 x2 x3 1 k0
set_option maxRecDepth 100000 in
set_option maxHeartbeats 4000000 in
theorem X11_outIf_b17_s (G : Gx) (l : Launch) (s : St) (x0 x1 x2 x3 k0 : Int) : V G l mX11_outIf 17 [(0, (2, x0)), (1, (0, x1)), (2, (0, x2)), (3, (0, x3))] [(2, k0)] s (X11_outIf_b17 s x0 x1 x2 x3 k0) := by
  unfold X11_outIf_b17
  refine V_iconst dec_X11_outIf.1.2.2.1 rfl ?_
  refine V_goto (tgt := 22) dec_X11_outIf.1.2.2.2.1 (by decide) ?_
  exact V_pick [0, 1, 2, 3] rfl (X11_outIf_b22_s G l s x0 x1 x2 x3 1 k0)
def X11_outIf (s : St) (a0 a1 a2 a3 : Int) : Rs :=
  grd (isK s 21 a0) (bnd (X11_isNoDead s a0 a1) (fun r1 s2 => if ¬ r1 = 0 then (X11_outIf_b17 s2 a0 a1 a2 a3 a0) else (grd (isK s2 21 a0) (bnd (X11_isNoHouse s2 a0 a2) (fun r9 s10 => if r9 = 0 then (X11_outIf_b22 s10 a0 a1 a2 a3 0 a0) else (X11_outIf_b17 s10 a0 a1 a2 a3 a0))))))
set_option maxRecDepth 100000 in
set_option maxHeartbeats 4000000 in
theorem X11_outIf_s (G : Gx) (l : Launch) (s : St) (a0 a1 a2 a3 : Int) : Snd G l mX11_outIf [(2, a0), (0, a1), (0, a2), (0, a3)] s (X11_outIf s a0 a1 a2 a3) := by
  refine Snd.of (by decide +kernel) rfl ?_
  show V G l mX11_outIf 0 [(0, (2, a0)), (1, (0, a1)), (2, (0, a2)), (3, (0, a3))] [] s _
  unfold X11_outIf
  refine V_aload_n dec_X11_outIf.1.1.1.1 0 rfl ?_
  refine V_aload_n dec_X11_outIf.1.1.1.2.1 0 rfl ?_
  refine V_iload_n dec_X11_outIf.1.1.1.2.2 1 rfl ?_
  refine V_callV0 (ci := 11) (a := a0) (As := [(0, a1)]) (st := [(2, a0)]) rfl rfl (X11_isNoDead_s G l s a0 a1) cal_X11_isNoDead rfl ml_X11_160 rfl rfl dec_X11_outIf.1.1.2.1 (k_tag (tag := 0) rfl fun r1 s2 => ?_)
  refine V_if_ne (tgt := 17) dec_X11_outIf.1.1.2.2.1 (by decide) ?_ ?_
  · exact V_pick [0, 1, 2, 3] rfl (X11_outIf_b17_s G l s2 a0 a1 a2 a3 a0)
  · refine V_aload_n dec_X11_outIf.1.1.2.2.2 0 rfl ?_
    refine V_iload_n dec_X11_outIf.1.2.1.1 2 rfl ?_
    refine V_callV0 (ci := 11) (a := a0) (As := [(0, a2)]) (st := [(2, a0)]) rfl rfl (X11_isNoHouse_s G l s2 a0 a2) cal_X11_isNoHouse rfl ml_X11_175 rfl rfl dec_X11_outIf.1.2.1.2.1 (k_tag (tag := 0) rfl fun r9 s10 => ?_)
    refine V_if_eq (tgt := 21) dec_X11_outIf.1.2.1.2.2 (by decide) ?_ ?_
    · refine V_iconst dec_X11_outIf.1.2.2.2.2 rfl ?_
      exact V_pick [0, 1, 2, 3] rfl (X11_outIf_b22_s G l s10 a0 a1 a2 a3 0 a0)
    · exact V_pick [0, 1, 2, 3] rfl (X11_outIf_b17_s G l s10 a0 a1 a2 a3 a0)
theorem dec_X11_perfect : ((((decode cX11_perfect 0 = .ok (.aload_n 0, 1) ∧ (decode cX11_perfect 1 = .ok (.aload_n 0, 1) ∧ decode cX11_perfect 2 = .ok (.invokevirtual 203, 3))) ∧ ((decode cX11_perfect 5 = .ok (.iconst 0, 1) ∧ decode cX11_perfect 6 = .ok (.invokevirtual 92, 3)) ∧ (decode cX11_perfect 9 = .ok (.ifCond .eq 5, 3) ∧ decode cX11_perfect 12 = .ok (.iconst (-1), 1)))) ∧ ((decode cX11_perfect 13 = .ok (.ireturn, 1) ∧ (decode cX11_perfect 14 = .ok (.iconst 0, 1) ∧ decode cX11_perfect 15 = .ok (.istore_n 1, 1))) ∧ ((decode cX11_perfect 16 = .ok (.iconst 0, 1) ∧ decode cX11_perfect 17 = .ok (.istore_n 2, 1)) ∧ (decode cX11_perfect 18 = .ok (.iload_n 2, 1) ∧ decode cX11_perfect 19 = .ok (.bipush 99, 2))))) ∧ (((decode cX11_perfect 21 = .ok (.if_icmp .gt 30, 3) ∧ (decode cX11_perfect 24 = .ok (.aload_n 0, 1) ∧ decode cX11_perfect 25 = .ok (.getfield 36, 3))) ∧ ((decode cX11_perfect 28 = .ok (.iload_n 2, 1) ∧ decode cX11_perfect 29 = .ok (.invokevirtual 222, 3)) ∧ (decode cX11_perfect 32 = .ok (.aload_n 0, 1) ∧ decode cX11_perfect 33 = .ok (.getfield 27, 3)))) ∧ ((decode cX11_perfect 36 = .ok (.getfield 225, 3) ∧ (decode cX11_perfect 39 = .ok (.if_icmp .ne 6, 3) ∧ decode cX11_perfect 42 = .ok (.iinc 1 1, 3))) ∧ ((decode cX11_perfect 45 = .ok (.iinc 2 1, 3) ∧ decode cX11_perfect 48 = .ok (.goto (-30), 3)) ∧ (decode cX11_perfect 51 = .ok (.iload_n 1, 1) ∧ decode cX11_perfect 52 = .ok (.ireturn, 1)))))) := ⟨⟨by decide +kernel, by decide +kernel⟩, ⟨by decide +kernel, by decide +kernel⟩⟩
def X11_perfect_b45 (rk18 : St → Int → Int → Int → Rs) (s : St) (x0 x1 x2 : Int) : Rs :=
  rk18 s x0 x1 (w32 (x2 + 1))
set_option maxRecDepth 100000 in
set_option maxHeartbeats 4000000 in
theorem X11_perfect_b45_s (G : Gx) (l : Launch) (rk18 : St → Int → Int → Int → Rs) (hk18 : ∀ (s : St) (x0 x1 x2 : Int), V G l mX11_perfect 18 [(0, (2, x0)), (1, (0, x1)), (2, (0, x2))] [] s (rk18 s x0 x1 x2)) (s : St) (x0 x1 x2 : Int) : V G l mX11_perfect 45 [(0, (2, x0)), (1, (0, x1)), (2, (0, x2))] [] s (X11_perfect_b45 rk18 s x0 x1 x2) := by
  unfold X11_perfect_b45
  refine V_iinc (lv' := [(2, (0, (w32 (x2 + 1)))), (0, (2, x0)), (1, (0, x1))]) dec_X11_perfect.2.2.2.1.1 2 rfl (by decide) rfl ?_
  refine V_goto (tgt := 18) dec_X11_perfect.2.2.2.1.2 (by decide) ?_
  exact V_pick [1, 2, 0] rfl (hk18 s x0 x1 (w32 (x2 + 1)))
def X11_perfect_b18_body (rk18 : St → Int → Int → Int → Rs) (s : St) (x0 x1 x2 : Int) : Rs :=
  if (99 : Int) < x2 then (some (x1, s)) else (grd (isK s 21 x0) (grd (isK s 20 (gR s x0 7)) (bnd (X10_rightCount s (gR s x0 7) x2) (fun r5 s6 => grd (isK s6 21 x0) (grd (isK s6 19 (gR s6 x0 6)) (if ¬ r5 = (gI s6 (gR s6 x0 6) 3) then (X11_perfect_b45 rk18 s6 x0 x1 x2) else (X11_perfect_b45 rk18 s6 x0 (w32 (x1 + 1)) x2)))))))
def X11_perfect_b18 (n : Nat) (s : St) (x0 x1 x2 : Int) : Rs := iter (fun (rec : St × Int × Int × Int → Rs) (a : St × Int × Int × Int) => X11_perfect_b18_body (fun (s : St) (x0 x1 x2 : Int) => rec (s, x0, x1, x2)) a.1 a.2.1 a.2.2.1 a.2.2.2) n (s, x0, x1, x2)
theorem X11_perfect_b18_0 (s : St) (x0 x1 x2 : Int) : X11_perfect_b18 0 s x0 x1 x2 = none := rfl
theorem X11_perfect_b18_1 (n : Nat) (s : St) (x0 x1 x2 : Int) : X11_perfect_b18 (n + 1) s x0 x1 x2 = X11_perfect_b18_body (X11_perfect_b18 n) s x0 x1 x2 := rfl
set_option maxRecDepth 100000 in
set_option maxHeartbeats 4000000 in
theorem X11_perfect_b18_body_s (G : Gx) (l : Launch) (rk18 : St → Int → Int → Int → Rs) (hk18 : ∀ (s : St) (x0 x1 x2 : Int), V G l mX11_perfect 18 [(0, (2, x0)), (1, (0, x1)), (2, (0, x2))] [] s (rk18 s x0 x1 x2)) (s : St) (x0 x1 x2 : Int) : V G l mX11_perfect 18 [(0, (2, x0)), (1, (0, x1)), (2, (0, x2))] [] s (X11_perfect_b18_body rk18 s x0 x1 x2) := by
  unfold X11_perfect_b18_body
  refine V_iload_n dec_X11_perfect.1.2.2.2.1 2 rfl ?_
  refine V_bipush dec_X11_perfect.1.2.2.2.2 rfl ?_
  refine V_icmp_gt (tgt := 51) dec_X11_perfect.2.1.1.1 (by decide) ?_ ?_
  · refine V_iload_n dec_X11_perfect.2.2.2.2.1 1 rfl ?_
    exact V_iret rfl dec_X11_perfect.2.2.2.2.2
  · refine V_aload_n dec_X11_perfect.2.1.1.2.1 0 rfl ?_
    refine V_getR 11 7 nf_11_7 ft_11_7 fl_X11_36 dec_X11_perfect.2.1.1.2.2 ?_
    refine V_iload_n dec_X11_perfect.2.1.2.1.1 2 rfl ?_
    refine V_callV0 (ci := 10) (a := (gR s x0 7)) (As := [(0, x2)]) (st := []) rfl rfl (X10_rightCount_s G l s (gR s x0 7) x2) cal_X10_rightCount rfl ml_X11_222 rfl rfl dec_X11_perfect.2.1.2.1.2 (k_tag (tag := 0) rfl fun r5 s6 => ?_)
    refine V_aload_n dec_X11_perfect.2.1.2.2.1 0 rfl ?_
    refine V_getR 11 6 nf_11_6 ft_11_6 fl_X11_27 dec_X11_perfect.2.1.2.2.2 ?_
    refine V_getI 9 3 nf_9_3 ft_9_3 fl_X11_225 dec_X11_perfect.2.2.1.1 ?_
    refine V_icmp_ne (tgt := 45) dec_X11_perfect.2.2.1.2.1 (by decide) ?_ ?_
    · exact V_pick [0, 1, 2] rfl (X11_perfect_b45_s G l rk18 hk18 s6 x0 x1 x2)
    · refine V_iinc (lv' := [(1, (0, (w32 (x1 + 1)))), (0, (2, x0)), (2, (0, x2))]) dec_X11_perfect.2.2.1.2.2 1 rfl (by decide) rfl ?_
      exact V_pick [1, 0, 2] rfl (X11_perfect_b45_s G l rk18 hk18 s6 x0 (w32 (x1 + 1)) x2)
theorem X11_perfect_b18_s (G : Gx) (l : Launch) (n : Nat) (s : St) (x0 x1 x2 : Int) : V G l mX11_perfect 18 [(0, (2, x0)), (1, (0, x1)), (2, (0, x2))] [] s (X11_perfect_b18 n s x0 x1 x2) :=
  V_iter (LV := fun a : St × Int × Int × Int => [(0, (2, a.2.1)), (1, (0, a.2.2.1)), (2, (0, a.2.2.2))]) (ST := fun a : St × Int × Int × Int => []) (SS := fun a : St × Int × Int × Int => a.1) (fun rec hrec a => X11_perfect_b18_body_s G l (fun (s : St) (x0 x1 x2 : Int) => rec (s, x0, x1, x2)) (fun (s : St) (x0 x1 x2 : Int) => hrec (s, x0, x1, x2)) a.1 a.2.1 a.2.2.1 a.2.2.2) n (s, x0, x1, x2)
def X11_perfect (s : St) (a0 : Int) : Rs :=
  grd (isK s 21 a0) (bnd (X11_isNoTown s a0) (fun r1 s2 => grd (isK s2 21 a0) (bnd (X11_refused s2 a0 r1 0) (fun r3 s4 => if r3 = 0 then (X11_perfect_b18 FU s4 a0 0 0) else (some ((-1), s4))))))
set_option maxRecDepth 100000 in
set_option maxHeartbeats 4000000 in
theorem X11_perfect_s (G : Gx) (l : Launch) (s : St) (a0 : Int) : Snd G l mX11_perfect [(2, a0)] s (X11_perfect s a0) := by
  refine Snd.of (by decide +kernel) rfl ?_
  show V G l mX11_perfect 0 [(0, (2, a0))] [] s _
  unfold X11_perfect
  refine V_aload_n dec_X11_perfect.1.1.1.1 0 rfl ?_
  refine V_aload_n dec_X11_perfect.1.1.1.2.1 0 rfl ?_
  refine V_callV0 (ci := 11) (a := a0) (As := []) (st := [(2, a0)]) rfl rfl (X11_isNoTown_s G l s a0) cal_X11_isNoTown rfl ml_X11_203 rfl rfl dec_X11_perfect.1.1.1.2.2 (k_tag (tag := 0) rfl fun r1 s2 => ?_)
  refine V_iconst dec_X11_perfect.1.1.2.1.1 rfl ?_
  refine V_callV0 (ci := 11) (a := a0) (As := [(0, r1), (0, 0)]) (st := []) rfl rfl (X11_refused_s G l s2 a0 r1 0) cal_X11_refused rfl ml_X11_92 rfl rfl dec_X11_perfect.1.1.2.1.2 (k_tag (tag := 0) rfl fun r3 s4 => ?_)
  refine V_if_eq (tgt := 14) dec_X11_perfect.1.1.2.2.1 (by decide) ?_ ?_
  · refine V_iconst dec_X11_perfect.1.2.1.2.1 rfl ?_
    refine V_istore_n (lv' := [(1, (0, 0)), (0, (2, a0))]) dec_X11_perfect.1.2.1.2.2 (by decide) rfl ?_
    refine V_iconst dec_X11_perfect.1.2.2.1.1 rfl ?_
    refine V_istore_n (lv' := [(2, (0, 0)), (1, (0, 0)), (0, (2, a0))]) dec_X11_perfect.1.2.2.1.2 (by decide) rfl ?_
    exact V_pick [2, 1, 0] rfl (X11_perfect_b18_s G l FU s4 a0 0 0)
  · refine V_iconst dec_X11_perfect.1.1.2.2.2 rfl ?_
    exact V_iret rfl dec_X11_perfect.1.2.1.1
theorem dec_X9_deadFor : ((((decode cX9_deadFor 0 = .ok (.iconst 0, 1) ∧ (decode cX9_deadFor 1 = .ok (.istore_n 2, 1) ∧ decode cX9_deadFor 2 = .ok (.iconst 0, 1))) ∧ (decode cX9_deadFor 3 = .ok (.istore_n 3, 1) ∧ (decode cX9_deadFor 4 = .ok (.iload_n 3, 1) ∧ decode cX9_deadFor 5 = .ok (.aload_n 0, 1)))) ∧ ((decode cX9_deadFor 6 = .ok (.getfield 50, 3) ∧ (decode cX9_deadFor 9 = .ok (.if_icmp .ge 25, 3) ∧ decode cX9_deadFor 12 = .ok (.aload_n 0, 1))) ∧ (decode cX9_deadFor 13 = .ok (.getfield 22, 3) ∧ (decode cX9_deadFor 16 = .ok (.iload_n 3, 1) ∧ decode cX9_deadFor 17 = .ok (.iaload, 1))))) ∧ (((decode cX9_deadFor 18 = .ok (.iload_n 1, 1) ∧ (decode cX9_deadFor 19 = .ok (.if_icmp .ne 9, 3) ∧ decode cX9_deadFor 22 = .ok (.iload_n 2, 1))) ∧ (decode cX9_deadFor 23 = .ok (.iconst 1, 1) ∧ (decode cX9_deadFor 24 = .ok (.iload_n 3, 1) ∧ decode cX9_deadFor 25 = .ok (.ishl, 1)))) ∧ ((decode cX9_deadFor 26 = .ok (.ior, 1) ∧ (decode cX9_deadFor 27 = .ok (.istore_n 2, 1) ∧ decode cX9_deadFor 28 = .ok (.iinc 3 1, 3))) ∧ (decode cX9_deadFor 31 = .ok (.goto (-27), 3) ∧ (decode cX9_deadFor 34 = .ok (.iload_n 2, 1) ∧ decode cX9_deadFor 35 = .ok (.ireturn, 1)))))) := ⟨by decide +kernel, by decide +kernel⟩
def X9_deadFor_b28 (rk4 : St → Int → Int → Int → Int → Rs) (s : St) (x0 x1 x2 x3 : Int) : Rs :=
  rk4 s x0 x1 x2 (w32 (x3 + 1))
set_option maxRecDepth 100000 in
set_option maxHeartbeats 4000000 in
theorem X9_deadFor_b28_s (G : Gx) (l : Launch) (rk4 : St → Int → Int → Int → Int → Rs) (hk4 : ∀ (s : St) (x0 x1 x2 x3 : Int), V G l mX9_deadFor 4 [(0, (2, x0)), (1, (0, x1)), (2, (0, x2)), (3, (0, x3))] [] s (rk4 s x0 x1 x2 x3)) (s : St) (x0 x1 x2 x3 : Int) : V G l mX9_deadFor 28 [(0, (2, x0)), (1, (0, x1)), (2, (0, x2)), (3, (0, x3))] [] s (X9_deadFor_b28 rk4 s x0 x1 x2 x3) := by
  unfold X9_deadFor_b28
  refine V_iinc (lv' := [(3, (0, (w32 (x3 + 1)))), (0, (2, x0)), (1, (0, x1)), (2, (0, x2))]) dec_X9_deadFor.2.2.1.2.2 3 rfl (by decide) rfl ?_
  refine V_goto (tgt := 4) dec_X9_deadFor.2.2.2.1 (by decide) ?_
  exact V_pick [1, 2, 3, 0] rfl (hk4 s x0 x1 x2 (w32 (x3 + 1)))
def X9_deadFor_b4_body (rk4 : St → Int → Int → Int → Int → Rs) (s : St) (x0 x1 x2 x3 : Int) : Rs :=
  grd (isK s 19 x0) (if (gI s x0 3) ≤ x3 then (some (x2, s)) else (grd (isK s 19 x0) (grd (isK s 1 (gR s x0 8) ∧ 0 ≤ x3 ∧ x3 < ln s (gR s x0 8)) (if ¬ (gI s (gR s x0 8) x3.toNat) = x1 then (X9_deadFor_b28 rk4 s x0 x1 x2 x3) else (X9_deadFor_b28 rk4 s x0 x1 (or32 x2 (shl32 1 x3)) x3)))))
def X9_deadFor_b4 (n : Nat) (s : St) (x0 x1 x2 x3 : Int) : Rs := iter (fun (rec : St × Int × Int × Int × Int → Rs) (a : St × Int × Int × Int × Int) => X9_deadFor_b4_body (fun (s : St) (x0 x1 x2 x3 : Int) => rec (s, x0, x1, x2, x3)) a.1 a.2.1 a.2.2.1 a.2.2.2.1 a.2.2.2.2) n (s, x0, x1, x2, x3)
theorem X9_deadFor_b4_0 (s : St) (x0 x1 x2 x3 : Int) : X9_deadFor_b4 0 s x0 x1 x2 x3 = none := rfl
theorem X9_deadFor_b4_1 (n : Nat) (s : St) (x0 x1 x2 x3 : Int) : X9_deadFor_b4 (n + 1) s x0 x1 x2 x3 = X9_deadFor_b4_body (X9_deadFor_b4 n) s x0 x1 x2 x3 := rfl
set_option maxRecDepth 100000 in
set_option maxHeartbeats 4000000 in
theorem X9_deadFor_b4_body_s (G : Gx) (l : Launch) (rk4 : St → Int → Int → Int → Int → Rs) (hk4 : ∀ (s : St) (x0 x1 x2 x3 : Int), V G l mX9_deadFor 4 [(0, (2, x0)), (1, (0, x1)), (2, (0, x2)), (3, (0, x3))] [] s (rk4 s x0 x1 x2 x3)) (s : St) (x0 x1 x2 x3 : Int) : V G l mX9_deadFor 4 [(0, (2, x0)), (1, (0, x1)), (2, (0, x2)), (3, (0, x3))] [] s (X9_deadFor_b4_body rk4 s x0 x1 x2 x3) := by
  unfold X9_deadFor_b4_body
  refine V_iload_n dec_X9_deadFor.1.1.2.2.1 3 rfl ?_
  refine V_aload_n dec_X9_deadFor.1.1.2.2.2 0 rfl ?_
  refine V_getI 9 3 nf_9_3 ft_9_3 fl_X9_50 dec_X9_deadFor.1.2.1.1 ?_
  refine V_icmp_ge (tgt := 34) dec_X9_deadFor.1.2.1.2.1 (by decide) ?_ ?_
  · refine V_iload_n dec_X9_deadFor.2.2.2.2.1 2 rfl ?_
    exact V_iret rfl dec_X9_deadFor.2.2.2.2.2
  · refine V_aload_n dec_X9_deadFor.1.2.1.2.2 0 rfl ?_
    refine V_getR 9 8 nf_9_8 ft_9_8 fl_X9_22 dec_X9_deadFor.1.2.2.1 ?_
    refine V_iload_n dec_X9_deadFor.1.2.2.2.1 3 rfl ?_
    refine V_iald dec_X9_deadFor.1.2.2.2.2 ?_
    refine V_iload_n dec_X9_deadFor.2.1.1.1 1 rfl ?_
    refine V_icmp_ne (tgt := 28) dec_X9_deadFor.2.1.1.2.1 (by decide) ?_ ?_
    · exact V_pick [0, 1, 2, 3] rfl (X9_deadFor_b28_s G l rk4 hk4 s x0 x1 x2 x3)
    · refine V_iload_n dec_X9_deadFor.2.1.1.2.2 2 rfl ?_
      refine V_iconst dec_X9_deadFor.2.1.2.1 rfl ?_
      refine V_iload_n dec_X9_deadFor.2.1.2.2.1 3 rfl ?_
      refine V_ishl dec_X9_deadFor.2.1.2.2.2 ?_
      refine V_ior dec_X9_deadFor.2.2.1.1 ?_
      refine V_istore_n (lv' := [(2, (0, (or32 x2 (shl32 1 x3)))), (0, (2, x0)), (1, (0, x1)), (3, (0, x3))]) dec_X9_deadFor.2.2.1.2.1 (by decide) rfl ?_
      exact V_pick [1, 2, 0, 3] rfl (X9_deadFor_b28_s G l rk4 hk4 s x0 x1 (or32 x2 (shl32 1 x3)) x3)
theorem X9_deadFor_b4_s (G : Gx) (l : Launch) (n : Nat) (s : St) (x0 x1 x2 x3 : Int) : V G l mX9_deadFor 4 [(0, (2, x0)), (1, (0, x1)), (2, (0, x2)), (3, (0, x3))] [] s (X9_deadFor_b4 n s x0 x1 x2 x3) :=
  V_iter (LV := fun a : St × Int × Int × Int × Int => [(0, (2, a.2.1)), (1, (0, a.2.2.1)), (2, (0, a.2.2.2.1)), (3, (0, a.2.2.2.2))]) (ST := fun a : St × Int × Int × Int × Int => []) (SS := fun a : St × Int × Int × Int × Int => a.1) (fun rec hrec a => X9_deadFor_b4_body_s G l (fun (s : St) (x0 x1 x2 x3 : Int) => rec (s, x0, x1, x2, x3)) (fun (s : St) (x0 x1 x2 x3 : Int) => hrec (s, x0, x1, x2, x3)) a.1 a.2.1 a.2.2.1 a.2.2.2.1 a.2.2.2.2) n (s, x0, x1, x2, x3)
def X9_deadFor (s : St) (a0 a1 : Int) : Rs :=
  X9_deadFor_b4 FU s a0 a1 0 0
set_option maxRecDepth 100000 in
set_option maxHeartbeats 4000000 in
theorem X9_deadFor_s (G : Gx) (l : Launch) (s : St) (a0 a1 : Int) : Snd G l mX9_deadFor [(2, a0), (0, a1)] s (X9_deadFor s a0 a1) := by
  refine Snd.of (by decide +kernel) rfl ?_
  show V G l mX9_deadFor 0 [(0, (2, a0)), (1, (0, a1))] [] s _
  unfold X9_deadFor
  refine V_iconst dec_X9_deadFor.1.1.1.1 rfl ?_
  refine V_istore_n (lv' := [(2, (0, 0)), (0, (2, a0)), (1, (0, a1))]) dec_X9_deadFor.1.1.1.2.1 (by decide) rfl ?_
  refine V_iconst dec_X9_deadFor.1.1.1.2.2 rfl ?_
  refine V_istore_n (lv' := [(3, (0, 0)), (2, (0, 0)), (0, (2, a0)), (1, (0, a1))]) dec_X9_deadFor.1.1.2.1 (by decide) rfl ?_
  exact V_pick [2, 3, 1, 0] rfl (X9_deadFor_b4_s G l FU s a0 a1 0 0)
theorem dec_X11_person : (((((decode cX11_person 0 = .ok (.aload_n 0, 1) ∧ decode cX11_person 1 = .ok (.aload_n 0, 1)) ∧ (decode cX11_person 2 = .ok (.iload_n 1, 1) ∧ (decode cX11_person 3 = .ok (.invokevirtual 139, 3) ∧ decode cX11_person 6 = .ok (.ifCond .ne 12, 3)))) ∧ ((decode cX11_person 9 = .ok (.iload_n 2, 1) ∧ (decode cX11_person 10 = .ok (.ifCond .lt 8, 3) ∧ decode cX11_person 13 = .ok (.iload_n 2, 1))) ∧ (decode cX11_person 14 = .ok (.iconst 2, 1) ∧ (decode cX11_person 15 = .ok (.if_icmp .le 7, 3) ∧ decode cX11_person 18 = .ok (.iconst 1, 1))))) ∧ (((decode cX11_person 19 = .ok (.goto 4, 3) ∧ decode cX11_person 22 = .ok (.iconst 0, 1)) ∧ (decode cX11_person 23 = .ok (.iconst 0, 1) ∧ (decode cX11_person 24 = .ok (.invokevirtual 92, 3) ∧ decode cX11_person 27 = .ok (.ifCond .eq 5, 3)))) ∧ ((decode cX11_person 30 = .ok (.iconst (-1), 1) ∧ (decode cX11_person 31 = .ok (.ireturn, 1) ∧ decode cX11_person 32 = .ok (.iload_n 2, 1))) ∧ (decode cX11_person 33 = .ok (.ifCond .ne 16, 3) ∧ (decode cX11_person 36 = .ok (.aload_n 0, 1) ∧ decode cX11_person 37 = .ok (.getfield 36, 3)))))) ∧ ((((decode cX11_person 40 = .ok (.getfield 143, 3) ∧ decode cX11_person 43 = .ok (.getfield 146, 3)) ∧ (decode cX11_person 46 = .ok (.iload_n 1, 1) ∧ (decode cX11_person 47 = .ok (.iaload, 1) ∧ decode cX11_person 48 = .ok (.ireturn, 1)))) ∧ ((decode cX11_person 49 = .ok (.iload_n 2, 1) ∧ (decode cX11_person 50 = .ok (.iconst 1, 1) ∧ decode cX11_person 51 = .ok (.if_icmp .ne 14, 3))) ∧ (decode cX11_person 54 = .ok (.aload_n 0, 1) ∧ (decode cX11_person 55 = .ok (.getfield 27, 3) ∧ decode cX11_person 58 = .ok (.iload_n 1, 1))))) ∧ (((decode cX11_person 59 = .ok (.invokevirtual 150, 3) ∧ decode cX11_person 62 = .ok (.goto 21, 3)) ∧ (decode cX11_person 65 = .ok (.aload_n 0, 1) ∧ (decode cX11_person 66 = .ok (.getfield 36, 3) ∧ decode cX11_person 69 = .ok (.iload_n 1, 1)))) ∧ ((decode cX11_person 70 = .ok (.aload_n 0, 1) ∧ (decode cX11_person 71 = .ok (.getfield 36, 3) ∧ decode cX11_person 74 = .ok (.getfield 143, 3))) ∧ (decode cX11_person 77 = .ok (.getfield 153, 3) ∧ (decode cX11_person 80 = .ok (.invokevirtual 156, 3) ∧ decode cX11_person 83 = .ok (.ireturn, 1))))))) := ⟨⟨by decide +kernel, by decide +kernel⟩, ⟨by decide +kernel, by decide +kernel⟩⟩
def X11_person_b83 (s : St) (k0 : Int) : Rs :=
  some (k0, s)
set_option maxRecDepth 100000 in
set_option maxHeartbeats 4000000 in
theorem X11_person_b83_s (G : Gx) (l : Launch) (s : St) (k0 : Int) : V G l mX11_person 83 [] [(0, k0)] s (X11_person_b83 s k0) := by
  unfold X11_person_b83
  exact V_iret rfl dec_X11_person.2.2.2.2.2.2
def X11_person_b23 (s : St) (x0 x1 x2 k0 k1 : Int) : Rs :=
  grd (isK s 21 k1) (bnd (X11_refused s k1 k0 0) (fun r3 s4 => if r3 = 0 then (if ¬ x2 = 0 then (if ¬ x2 = (1 : Int) then (grd (isK s4 21 x0) (grd (isK s4 21 x0) (grd (isK s4 20 (gR s4 x0 7)) (grd (isK s4 16 (gR s4 (gR s4 x0 7) 1)) (grd (isK s4 20 (gR s4 x0 7)) (bnd (X10_heardBits s4 (gR s4 x0 7) x1 (gI s4 (gR s4 (gR s4 x0 7) 1) 0)) (fun r5 s6 => X11_person_b83 s6 r5))))))) else (grd (isK s4 21 x0) (grd (isK s4 19 (gR s4 x0 6)) (bnd (X9_deadFor s4 (gR s4 x0 6) x1) (fun r7 s8 => X11_person_b83 s8 r7))))) else (grd (isK s4 21 x0) (grd (isK s4 20 (gR s4 x0 7)) (grd (isK s4 16 (gR s4 (gR s4 x0 7) 1)) (grd (isK s4 1 (gR s4 (gR s4 (gR s4 x0 7) 1) 1) ∧ 0 ≤ x1 ∧ x1 < ln s4 (gR s4 (gR s4 (gR s4 x0 7) 1) 1)) (some ((gI s4 (gR s4 (gR s4 (gR s4 x0 7) 1) 1) x1.toNat), s4))))))) else (some ((-1), s4))))
set_option maxRecDepth 100000 in
set_option maxHeartbeats 4000000 in
theorem X11_person_b23_s (G : Gx) (l : Launch) (s : St) (x0 x1 x2 k0 k1 : Int) : V G l mX11_person 23 [(0, (2, x0)), (1, (0, x1)), (2, (0, x2))] [(0, k0), (2, k1)] s (X11_person_b23 s x0 x1 x2 k0 k1) := by
  unfold X11_person_b23
  refine V_iconst dec_X11_person.1.2.1.2.1 rfl ?_
  refine V_callV0 (ci := 11) (a := k1) (As := [(0, k0), (0, 0)]) (st := []) rfl rfl (X11_refused_s G l s k1 k0 0) cal_X11_refused rfl ml_X11_92 rfl rfl dec_X11_person.1.2.1.2.2.1 (k_tag (tag := 0) rfl fun r3 s4 => ?_)
  refine V_if_eq (tgt := 32) dec_X11_person.1.2.1.2.2.2 (by decide) ?_ ?_
  · refine V_iload_n dec_X11_person.1.2.2.1.2.2 2 rfl ?_
    refine V_if_ne (tgt := 49) dec_X11_person.1.2.2.2.1 (by decide) ?_ ?_
    · refine V_iload_n dec_X11_person.2.1.2.1.1 2 rfl ?_
      refine V_iconst dec_X11_person.2.1.2.1.2.1 rfl ?_
      refine V_icmp_ne (tgt := 65) dec_X11_person.2.1.2.1.2.2 (by decide) ?_ ?_
      · refine V_aload_n dec_X11_person.2.2.1.2.1 0 rfl ?_
        refine V_getR 11 7 nf_11_7 ft_11_7 fl_X11_36 dec_X11_person.2.2.1.2.2.1 ?_
        refine V_iload_n dec_X11_person.2.2.1.2.2.2 1 rfl ?_
        refine V_aload_n dec_X11_person.2.2.2.1.1 0 rfl ?_
        refine V_getR 11 7 nf_11_7 ft_11_7 fl_X11_36 dec_X11_person.2.2.2.1.2.1 ?_
        refine V_getR 10 1 nf_10_1 ft_10_1 fl_X11_143 dec_X11_person.2.2.2.1.2.2 ?_
        refine V_getI 6 0 nf_6_0 ft_6_0 fl_X11_153 dec_X11_person.2.2.2.2.1 ?_
        refine V_callV0 (ci := 10) (a := (gR s4 x0 7)) (As := [(0, x1), (0, (gI s4 (gR s4 (gR s4 x0 7) 1) 0))]) (st := []) rfl rfl (X10_heardBits_s G l s4 (gR s4 x0 7) x1 (gI s4 (gR s4 (gR s4 x0 7) 1) 0)) cal_X10_heardBits rfl ml_X11_156 rfl rfl dec_X11_person.2.2.2.2.2.1 (k_tag (tag := 0) rfl fun r5 s6 => ?_)
        exact V_pick [] rfl (X11_person_b83_s G l s6 r5)
      · refine V_aload_n dec_X11_person.2.1.2.2.1 0 rfl ?_
        refine V_getR 11 6 nf_11_6 ft_11_6 fl_X11_27 dec_X11_person.2.1.2.2.2.1 ?_
        refine V_iload_n dec_X11_person.2.1.2.2.2.2 1 rfl ?_
        refine V_callV0 (ci := 9) (a := (gR s4 x0 6)) (As := [(0, x1)]) (st := []) rfl rfl (X9_deadFor_s G l s4 (gR s4 x0 6) x1) cal_X9_deadFor rfl ml_X11_150 rfl rfl dec_X11_person.2.2.1.1.1 (k_tag (tag := 0) rfl fun r7 s8 => ?_)
        refine V_goto (tgt := 83) dec_X11_person.2.2.1.1.2 (by decide) ?_
        exact V_pick [] rfl (X11_person_b83_s G l s8 r7)
    · refine V_aload_n dec_X11_person.1.2.2.2.2.1 0 rfl ?_
      refine V_getR 11 7 nf_11_7 ft_11_7 fl_X11_36 dec_X11_person.1.2.2.2.2.2 ?_
      refine V_getR 10 1 nf_10_1 ft_10_1 fl_X11_143 dec_X11_person.2.1.1.1.1 ?_
      refine V_getR 6 1 nf_6_1 ft_6_1 fl_X11_146 dec_X11_person.2.1.1.1.2 ?_
      refine V_iload_n dec_X11_person.2.1.1.2.1 1 rfl ?_
      refine V_iald dec_X11_person.2.1.1.2.2.1 ?_
      exact V_iret rfl dec_X11_person.2.1.1.2.2.2
  · refine V_iconst dec_X11_person.1.2.2.1.1 rfl ?_
    exact V_iret rfl dec_X11_person.1.2.2.1.2.1
def X11_person_b18 (s : St) (x0 x1 x2 k0 : Int) : Rs :=
  X11_person_b23 s x0 x1 x2 1 k0
set_option maxRecDepth 100000 in
set_option maxHeartbeats 4000000 in
theorem X11_person_b18_s (G : Gx) (l : Launch) (s : St) (x0 x1 x2 k0 : Int) : V G l mX11_person 18 [(0, (2, x0)), (1, (0, x1)), (2, (0, x2))] [(2, k0)] s (X11_person_b18 s x0 x1 x2 k0) := by
  unfold X11_person_b18
  refine V_iconst dec_X11_person.1.1.2.2.2.2 rfl ?_
  refine V_goto (tgt := 23) dec_X11_person.1.2.1.1.1 (by decide) ?_
  exact V_pick [0, 1, 2] rfl (X11_person_b23_s G l s x0 x1 x2 1 k0)
def X11_person (s : St) (a0 a1 a2 : Int) : Rs :=
  grd (isK s 21 a0) (bnd (X11_isNoPerson s a0 a1) (fun r1 s2 => if ¬ r1 = 0 then (X11_person_b18 s2 a0 a1 a2 a0) else (if a2 < 0 then (X11_person_b18 s2 a0 a1 a2 a0) else (if a2 ≤ (2 : Int) then (X11_person_b23 s2 a0 a1 a2 0 a0) else (X11_person_b18 s2 a0 a1 a2 a0)))))
set_option maxRecDepth 100000 in
set_option maxHeartbeats 4000000 in
theorem X11_person_s (G : Gx) (l : Launch) (s : St) (a0 a1 a2 : Int) : Snd G l mX11_person [(2, a0), (0, a1), (0, a2)] s (X11_person s a0 a1 a2) := by
  refine Snd.of (by decide +kernel) rfl ?_
  show V G l mX11_person 0 [(0, (2, a0)), (1, (0, a1)), (2, (0, a2))] [] s _
  unfold X11_person
  refine V_aload_n dec_X11_person.1.1.1.1.1 0 rfl ?_
  refine V_aload_n dec_X11_person.1.1.1.1.2 0 rfl ?_
  refine V_iload_n dec_X11_person.1.1.1.2.1 1 rfl ?_
  refine V_callV0 (ci := 11) (a := a0) (As := [(0, a1)]) (st := [(2, a0)]) rfl rfl (X11_isNoPerson_s G l s a0 a1) cal_X11_isNoPerson rfl ml_X11_139 rfl rfl dec_X11_person.1.1.1.2.2.1 (k_tag (tag := 0) rfl fun r1 s2 => ?_)
  refine V_if_ne (tgt := 18) dec_X11_person.1.1.1.2.2.2 (by decide) ?_ ?_
  · exact V_pick [0, 1, 2] rfl (X11_person_b18_s G l s2 a0 a1 a2 a0)
  · refine V_iload_n dec_X11_person.1.1.2.1.1 2 rfl ?_
    refine V_if_lt (tgt := 18) dec_X11_person.1.1.2.1.2.1 (by decide) ?_ ?_
    · exact V_pick [0, 1, 2] rfl (X11_person_b18_s G l s2 a0 a1 a2 a0)
    · refine V_iload_n dec_X11_person.1.1.2.1.2.2 2 rfl ?_
      refine V_iconst dec_X11_person.1.1.2.2.1 rfl ?_
      refine V_icmp_le (tgt := 22) dec_X11_person.1.1.2.2.2.1 (by decide) ?_ ?_
      · refine V_iconst dec_X11_person.1.2.1.1.2 rfl ?_
        exact V_pick [0, 1, 2] rfl (X11_person_b23_s G l s2 a0 a1 a2 0 a0)
      · exact V_pick [0, 1, 2] rfl (X11_person_b18_s G l s2 a0 a1 a2 a0)
theorem dec_X11_rest : (((((decode cX11_rest 0 = .ok (.aload_n 0, 1) ∧ decode cX11_rest 1 = .ok (.aload_n 0, 1)) ∧ (decode cX11_rest 2 = .ok (.invokevirtual 203, 3) ∧ decode cX11_rest 5 = .ok (.iload_n 1, 1))) ∧ ((decode cX11_rest 6 = .ok (.invokestatic 299, 3) ∧ decode cX11_rest 9 = .ok (.invokevirtual 92, 3)) ∧ (decode cX11_rest 12 = .ok (.ifCond .eq 5, 3) ∧ (decode cX11_rest 15 = .ok (.iconst (-1), 1) ∧ decode cX11_rest 16 = .ok (.ireturn, 1))))) ∧ (((decode cX11_rest 17 = .ok (.iconst 0, 1) ∧ decode cX11_rest 18 = .ok (.istore_n 2, 1)) ∧ (decode cX11_rest 19 = .ok (.iload_n 2, 1) ∧ decode cX11_rest 20 = .ok (.iconst 4, 1))) ∧ ((decode cX11_rest 21 = .ok (.if_icmp .ge 44, 3) ∧ decode cX11_rest 24 = .ok (.iload_n 2, 1)) ∧ (decode cX11_rest 25 = .ok (.iload_n 1, 1) ∧ (decode cX11_rest 26 = .ok (.invokestatic 306, 3) ∧ decode cX11_rest 29 = .ok (.ifCond .eq 30, 3)))))) ∧ ((((decode cX11_rest 32 = .ok (.iload_n 2, 1) ∧ decode cX11_rest 33 = .ok (.invokestatic 309, 3)) ∧ (decode cX11_rest 36 = .ok (.ifCond .eq 8, 3) ∧ decode cX11_rest 39 = .ok (.bipush 10, 2))) ∧ ((decode cX11_rest 41 = .ok (.goto 4, 3) ∧ decode cX11_rest 44 = .ok (.iconst 0, 1)) ∧ (decode cX11_rest 45 = .ok (.iload_n 2, 1) ∧ (decode cX11_rest 46 = .ok (.invokestatic 312, 3) ∧ decode cX11_rest 49 = .ok (.ifCond .eq 7, 3))))) ∧ (((decode cX11_rest 52 = .ok (.iconst 1, 1) ∧ decode cX11_rest 53 = .ok (.goto 4, 3)) ∧ (decode cX11_rest 56 = .ok (.iconst 0, 1) ∧ decode cX11_rest 57 = .ok (.iadd, 1))) ∧ ((decode cX11_rest 58 = .ok (.ireturn, 1) ∧ decode cX11_rest 59 = .ok (.iinc 2 1, 3)) ∧ (decode cX11_rest 62 = .ok (.goto (-43), 3) ∧ (decode cX11_rest 65 = .ok (.bipush (-2), 2) ∧ decode cX11_rest 67 = .ok (.ireturn, 1))))))) := ⟨⟨by decide +kernel, by decide +kernel⟩, ⟨by decide +kernel, by decide +kernel⟩⟩
def X11_rest_b57 (s : St) (k0 k1 : Int) : Rs :=
  some ((w32 (k1 + k0)), s)
set_option maxRecDepth 100000 in
set_option maxHeartbeats 4000000 in
theorem X11_rest_b57_s (G : Gx) (l : Launch) (s : St) (k0 k1 : Int) : V G l mX11_rest 57 [] [(0, k0), (0, k1)] s (X11_rest_b57 s k0 k1) := by
  unfold X11_rest_b57
  refine V_iadd dec_X11_rest.2.2.1.2.2 ?_
  exact V_iret rfl dec_X11_rest.2.2.2.1.1
def X11_rest_b45 (s : St) (x2 k0 : Int) : Rs :=
  bnd (X11_sweepTalks s x2) (fun r11 s12 => if r11 = 0 then (X11_rest_b57 s12 0 k0) else (X11_rest_b57 s12 1 k0))
set_option maxRecDepth 100000 in
set_option maxHeartbeats 4000000 in
theorem X11_rest_b45_s (G : Gx) (l : Launch) (s : St) (x2 k0 : Int) : V G l mX11_rest 45 [(2, (0, x2))] [(0, k0)] s (X11_rest_b45 s x2 k0) := by
  unfold X11_rest_b45
  refine V_iload_n dec_X11_rest.2.1.2.2.1 0 rfl ?_
  refine V_callS0 (As := [(0, x2)]) (st := [(0, k0)]) (host := "") rfl (X11_sweepTalks_s G l s x2) cal_X11_sweepTalks rfl (Or.inl ml_X11_312) rfl rfl dec_X11_rest.2.1.2.2.2.1 (k_tag (tag := 0) rfl fun r11 s12 => ?_)
  refine V_if_eq (tgt := 56) dec_X11_rest.2.1.2.2.2.2 (by decide) ?_ ?_
  · refine V_iconst dec_X11_rest.2.2.1.2.1 rfl ?_
    exact V_pick [] rfl (X11_rest_b57_s G l s12 0 k0)
  · refine V_iconst dec_X11_rest.2.2.1.1.1 rfl ?_
    refine V_goto (tgt := 57) dec_X11_rest.2.2.1.1.2 (by decide) ?_
    exact V_pick [] rfl (X11_rest_b57_s G l s12 1 k0)
def X11_rest_b19_body (rk19 : St → Int → Int → Rs) (s : St) (x1 x2 : Int) : Rs :=
  if (4 : Int) ≤ x2 then (some ((-2), s)) else (bnd (X11_isRest s x2 x1) (fun r7 s8 => if r7 = 0 then (rk19 s8 x1 (w32 (x2 + 1))) else (bnd (X11_bishopTalks s8 x2) (fun r9 s10 => if r9 = 0 then (X11_rest_b45 s10 x2 0) else (X11_rest_b45 s10 x2 10)))))
def X11_rest_b19 (n : Nat) (s : St) (x1 x2 : Int) : Rs := iter (fun (rec : St × Int × Int → Rs) (a : St × Int × Int) => X11_rest_b19_body (fun (s : St) (x1 x2 : Int) => rec (s, x1, x2)) a.1 a.2.1 a.2.2) n (s, x1, x2)
theorem X11_rest_b19_0 (s : St) (x1 x2 : Int) : X11_rest_b19 0 s x1 x2 = none := rfl
theorem X11_rest_b19_1 (n : Nat) (s : St) (x1 x2 : Int) : X11_rest_b19 (n + 1) s x1 x2 = X11_rest_b19_body (X11_rest_b19 n) s x1 x2 := rfl
set_option maxRecDepth 100000 in
set_option maxHeartbeats 4000000 in
theorem X11_rest_b19_body_s (G : Gx) (l : Launch) (rk19 : St → Int → Int → Rs) (hk19 : ∀ (s : St) (x1 x2 : Int), V G l mX11_rest 19 [(1, (0, x1)), (2, (0, x2))] [] s (rk19 s x1 x2)) (s : St) (x1 x2 : Int) : V G l mX11_rest 19 [(1, (0, x1)), (2, (0, x2))] [] s (X11_rest_b19_body rk19 s x1 x2) := by
  unfold X11_rest_b19_body
  refine V_iload_n dec_X11_rest.1.2.1.2.1 1 rfl ?_
  refine V_iconst dec_X11_rest.1.2.1.2.2 rfl ?_
  refine V_icmp_ge (tgt := 65) dec_X11_rest.1.2.2.1.1 (by decide) ?_ ?_
  · refine V_bipush dec_X11_rest.2.2.2.2.2.1 rfl ?_
    exact V_iret rfl dec_X11_rest.2.2.2.2.2.2
  · refine V_iload_n dec_X11_rest.1.2.2.1.2 1 rfl ?_
    refine V_iload_n dec_X11_rest.1.2.2.2.1 0 rfl ?_
    refine V_callS0 (As := [(0, x2), (0, x1)]) (st := []) (host := "") rfl (X11_isRest_s G l s x2 x1) cal_X11_isRest rfl (Or.inl ml_X11_306) rfl rfl dec_X11_rest.1.2.2.2.2.1 (k_tag (tag := 0) rfl fun r7 s8 => ?_)
    refine V_if_eq (tgt := 59) dec_X11_rest.1.2.2.2.2.2 (by decide) ?_ ?_
    · refine V_iinc (lv' := [(2, (0, (w32 (x2 + 1)))), (1, (0, x1))]) dec_X11_rest.2.2.2.1.2 1 rfl (by decide) rfl ?_
      refine V_goto (tgt := 19) dec_X11_rest.2.2.2.2.1 (by decide) ?_
      exact V_pick [1, 0] rfl (hk19 s8 x1 (w32 (x2 + 1)))
    · refine V_iload_n dec_X11_rest.2.1.1.1.1 1 rfl ?_
      refine V_callS0 (As := [(0, x2)]) (st := []) (host := "") rfl (X11_bishopTalks_s G l s8 x2) cal_X11_bishopTalks rfl (Or.inl ml_X11_309) rfl rfl dec_X11_rest.2.1.1.1.2 (k_tag (tag := 0) rfl fun r9 s10 => ?_)
      refine V_if_eq (tgt := 44) dec_X11_rest.2.1.1.2.1 (by decide) ?_ ?_
      · refine V_iconst dec_X11_rest.2.1.2.1.2 rfl ?_
        exact V_pick [1] rfl (X11_rest_b45_s G l s10 x2 0)
      · refine V_bipush dec_X11_rest.2.1.1.2.2 rfl ?_
        refine V_goto (tgt := 45) dec_X11_rest.2.1.2.1.1 (by decide) ?_
        exact V_pick [1] rfl (X11_rest_b45_s G l s10 x2 10)
theorem X11_rest_b19_s (G : Gx) (l : Launch) (n : Nat) (s : St) (x1 x2 : Int) : V G l mX11_rest 19 [(1, (0, x1)), (2, (0, x2))] [] s (X11_rest_b19 n s x1 x2) :=
  V_iter (LV := fun a : St × Int × Int => [(1, (0, a.2.1)), (2, (0, a.2.2))]) (ST := fun a : St × Int × Int => []) (SS := fun a : St × Int × Int => a.1) (fun rec hrec a => X11_rest_b19_body_s G l (fun (s : St) (x1 x2 : Int) => rec (s, x1, x2)) (fun (s : St) (x1 x2 : Int) => hrec (s, x1, x2)) a.1 a.2.1 a.2.2) n (s, x1, x2)
def X11_rest (s : St) (a0 a1 : Int) : Rs :=
  grd (isK s 21 a0) (bnd (X11_isNoTown s a0) (fun r1 s2 => bnd (X11_isNoSoot s2 a1) (fun r3 s4 => grd (isK s4 21 a0) (bnd (X11_refused s4 a0 r1 r3) (fun r5 s6 => if r5 = 0 then (X11_rest_b19 FU s6 a1 0) else (some ((-1), s6)))))))
set_option maxRecDepth 100000 in
set_option maxHeartbeats 4000000 in
theorem X11_rest_s (G : Gx) (l : Launch) (s : St) (a0 a1 : Int) : Snd G l mX11_rest [(2, a0), (0, a1)] s (X11_rest s a0 a1) := by
  refine Snd.of (by decide +kernel) rfl ?_
  show V G l mX11_rest 0 [(0, (2, a0)), (1, (0, a1))] [] s _
  unfold X11_rest
  refine V_aload_n dec_X11_rest.1.1.1.1.1 0 rfl ?_
  refine V_aload_n dec_X11_rest.1.1.1.1.2 0 rfl ?_
  refine V_callV0 (ci := 11) (a := a0) (As := []) (st := [(2, a0)]) rfl rfl (X11_isNoTown_s G l s a0) cal_X11_isNoTown rfl ml_X11_203 rfl rfl dec_X11_rest.1.1.1.2.1 (k_tag (tag := 0) rfl fun r1 s2 => ?_)
  refine V_iload_n dec_X11_rest.1.1.1.2.2 1 rfl ?_
  refine V_callS0 (As := [(0, a1)]) (st := [(0, r1), (2, a0)]) (host := "") rfl (X11_isNoSoot_s G l s2 a1) cal_X11_isNoSoot rfl (Or.inl ml_X11_299) rfl rfl dec_X11_rest.1.1.2.1.1 (k_tag (tag := 0) rfl fun r3 s4 => ?_)
  refine V_callV0 (ci := 11) (a := a0) (As := [(0, r1), (0, r3)]) (st := []) rfl rfl (X11_refused_s G l s4 a0 r1 r3) cal_X11_refused rfl ml_X11_92 rfl rfl dec_X11_rest.1.1.2.1.2 (k_tag (tag := 0) rfl fun r5 s6 => ?_)
  refine V_if_eq (tgt := 17) dec_X11_rest.1.1.2.2.1 (by decide) ?_ ?_
  · refine V_iconst dec_X11_rest.1.2.1.1.1 rfl ?_
    refine V_istore_n (lv' := [(2, (0, 0)), (0, (2, a0)), (1, (0, a1))]) dec_X11_rest.1.2.1.1.2 (by decide) rfl ?_
    exact V_pick [2, 0] rfl (X11_rest_b19_s G l FU s6 a1 0)
  · refine V_iconst dec_X11_rest.1.1.2.2.2.1 rfl ?_
    exact V_iret rfl dec_X11_rest.1.1.2.2.2.2
theorem dec_X11_restless : (((((decode cX11_restless 0 = .ok (.aload_n 0, 1) ∧ decode cX11_restless 1 = .ok (.aload_n 0, 1)) ∧ (decode cX11_restless 2 = .ok (.invokevirtual 203, 3) ∧ (decode cX11_restless 5 = .ok (.iload_n 1, 1) ∧ decode cX11_restless 6 = .ok (.invokestatic 187, 3)))) ∧ ((decode cX11_restless 9 = .ok (.invokevirtual 92, 3) ∧ (decode cX11_restless 12 = .ok (.ifCond .eq 5, 3) ∧ decode cX11_restless 15 = .ok (.iconst (-1), 1))) ∧ (decode cX11_restless 16 = .ok (.ireturn, 1) ∧ (decode cX11_restless 17 = .ok (.aload_n 0, 1) ∧ decode cX11_restless 18 = .ok (.getfield 46, 3))))) ∧ (((decode cX11_restless 21 = .ok (.aload_n 0, 1) ∧ (decode cX11_restless 22 = .ok (.getfield 36, 3) ∧ decode cX11_restless 25 = .ok (.iload_n 1, 1))) ∧ (decode cX11_restless 26 = .ok (.invokevirtual 241, 3) ∧ (decode cX11_restless 29 = .ok (.iconst 0, 1) ∧ decode cX11_restless 30 = .ok (.istore_n 2, 1)))) ∧ ((decode cX11_restless 31 = .ok (.iconst 0, 1) ∧ (decode cX11_restless 32 = .ok (.istore_n 3, 1) ∧ decode cX11_restless 33 = .ok (.iload_n 3, 1))) ∧ (decode cX11_restless 34 = .ok (.aload_n 0, 1) ∧ (decode cX11_restless 35 = .ok (.getfield 27, 3) ∧ decode cX11_restless 38 = .ok (.getfield 133, 3)))))) ∧ ((((decode cX11_restless 41 = .ok (.if_icmp .ge 48, 3) ∧ decode cX11_restless 44 = .ok (.iload_n 3, 1)) ∧ (decode cX11_restless 45 = .ok (.iconst 1, 1) ∧ (decode cX11_restless 46 = .ok (.iadd, 1) ∧ decode cX11_restless 47 = .ok (.istore 4, 2)))) ∧ ((decode cX11_restless 49 = .ok (.iload 4, 2) ∧ (decode cX11_restless 51 = .ok (.aload_n 0, 1) ∧ decode cX11_restless 52 = .ok (.getfield 27, 3))) ∧ (decode cX11_restless 55 = .ok (.getfield 133, 3) ∧ (decode cX11_restless 58 = .ok (.if_icmp .ge 25, 3) ∧ decode cX11_restless 61 = .ok (.aload_n 0, 1))))) ∧ (((decode cX11_restless 62 = .ok (.getfield 46, 3) ∧ (decode cX11_restless 65 = .ok (.iload_n 3, 1) ∧ decode cX11_restless 66 = .ok (.iload 4, 2))) ∧ (decode cX11_restless 68 = .ok (.invokevirtual 253, 3) ∧ (decode cX11_restless 71 = .ok (.ifCond .eq 6, 3) ∧ decode cX11_restless 74 = .ok (.iinc 2 1, 3)))) ∧ ((decode cX11_restless 77 = .ok (.iinc 4 1, 3) ∧ (decode cX11_restless 80 = .ok (.goto (-31), 3) ∧ decode cX11_restless 83 = .ok (.iinc 3 1, 3))) ∧ (decode cX11_restless 86 = .ok (.goto (-53), 3) ∧ (decode cX11_restless 89 = .ok (.iload_n 2, 1) ∧ decode cX11_restless 90 = .ok (.ireturn, 1))))))) := ⟨⟨by decide +kernel, by decide +kernel⟩, ⟨by decide +kernel, by decide +kernel⟩⟩
def X11_restless_b77 (rk33 : St → Int → Int → Int → Rs) (rk49 : St → Int → Int → Int → Int → Rs) (s : St) (x0 x2 x3 x4 : Int) : Rs :=
  rk49 s x0 x2 x3 (w32 (x4 + 1))
set_option maxRecDepth 100000 in
set_option maxHeartbeats 4000000 in
theorem X11_restless_b77_s (G : Gx) (l : Launch) (rk33 : St → Int → Int → Int → Rs) (rk49 : St → Int → Int → Int → Int → Rs) (hk33 : ∀ (s : St) (x0 x2 x3 : Int), V G l mX11_restless 33 [(0, (2, x0)), (2, (0, x2)), (3, (0, x3))] [] s (rk33 s x0 x2 x3)) (hk49 : ∀ (s : St) (x0 x2 x3 x4 : Int), V G l mX11_restless 49 [(0, (2, x0)), (2, (0, x2)), (3, (0, x3)), (4, (0, x4))] [] s (rk49 s x0 x2 x3 x4)) (s : St) (x0 x2 x3 x4 : Int) : V G l mX11_restless 77 [(0, (2, x0)), (2, (0, x2)), (3, (0, x3)), (4, (0, x4))] [] s (X11_restless_b77 rk33 rk49 s x0 x2 x3 x4) := by
  unfold X11_restless_b77
  refine V_iinc (lv' := [(4, (0, (w32 (x4 + 1)))), (0, (2, x0)), (2, (0, x2)), (3, (0, x3))]) dec_X11_restless.2.2.2.1.1 3 rfl (by decide) rfl ?_
  refine V_goto (tgt := 49) dec_X11_restless.2.2.2.1.2.1 (by decide) ?_
  exact V_pick [1, 2, 3, 0] rfl (hk49 s x0 x2 x3 (w32 (x4 + 1)))
def X11_restless_b49_body (rk33 : St → Int → Int → Int → Rs) (rk49 : St → Int → Int → Int → Int → Rs) (s : St) (x0 x2 x3 x4 : Int) : Rs :=
  grd (isK s 21 x0) (grd (isK s 19 (gR s x0 6)) (if (gI s (gR s x0 6) 2) ≤ x4 then (rk33 s x0 x2 (w32 (x3 + 1))) else (grd (isK s 21 x0) (grd (isK s 15 (gR s x0 9)) (bnd (X5_isLiked s (gR s x0 9) x3 x4) (fun r9 s10 => if r9 = 0 then (X11_restless_b77 rk33 rk49 s10 x0 x2 x3 x4) else (X11_restless_b77 rk33 rk49 s10 x0 (w32 (x2 + 1)) x3 x4)))))))
def X11_restless_b49 (rk33 : St → Int → Int → Int → Rs) (n : Nat) (s : St) (x0 x2 x3 x4 : Int) : Rs := iter (fun (rec : St × Int × Int × Int × Int → Rs) (a : St × Int × Int × Int × Int) => X11_restless_b49_body rk33 (fun (s : St) (x0 x2 x3 x4 : Int) => rec (s, x0, x2, x3, x4)) a.1 a.2.1 a.2.2.1 a.2.2.2.1 a.2.2.2.2) n (s, x0, x2, x3, x4)
theorem X11_restless_b49_0 (rk33 : St → Int → Int → Int → Rs) (s : St) (x0 x2 x3 x4 : Int) : X11_restless_b49 rk33 0 s x0 x2 x3 x4 = none := rfl
theorem X11_restless_b49_1 (rk33 : St → Int → Int → Int → Rs) (n : Nat) (s : St) (x0 x2 x3 x4 : Int) : X11_restless_b49 rk33 (n + 1) s x0 x2 x3 x4 = X11_restless_b49_body rk33 (X11_restless_b49 rk33 n) s x0 x2 x3 x4 := rfl
set_option maxRecDepth 100000 in
set_option maxHeartbeats 4000000 in
theorem X11_restless_b49_body_s (G : Gx) (l : Launch) (rk33 : St → Int → Int → Int → Rs) (rk49 : St → Int → Int → Int → Int → Rs) (hk33 : ∀ (s : St) (x0 x2 x3 : Int), V G l mX11_restless 33 [(0, (2, x0)), (2, (0, x2)), (3, (0, x3))] [] s (rk33 s x0 x2 x3)) (hk49 : ∀ (s : St) (x0 x2 x3 x4 : Int), V G l mX11_restless 49 [(0, (2, x0)), (2, (0, x2)), (3, (0, x3)), (4, (0, x4))] [] s (rk49 s x0 x2 x3 x4)) (s : St) (x0 x2 x3 x4 : Int) : V G l mX11_restless 49 [(0, (2, x0)), (2, (0, x2)), (3, (0, x3)), (4, (0, x4))] [] s (X11_restless_b49_body rk33 rk49 s x0 x2 x3 x4) := by
  unfold X11_restless_b49_body
  refine V_iload dec_X11_restless.2.1.2.1.1 3 rfl ?_
  refine V_aload_n dec_X11_restless.2.1.2.1.2.1 0 rfl ?_
  refine V_getR 11 6 nf_11_6 ft_11_6 fl_X11_27 dec_X11_restless.2.1.2.1.2.2 ?_
  refine V_getI 9 2 nf_9_2 ft_9_2 fl_X11_133 dec_X11_restless.2.1.2.2.1 ?_
  refine V_icmp_ge (tgt := 83) dec_X11_restless.2.1.2.2.2.1 (by decide) ?_ ?_
  · refine V_iinc (lv' := [(3, (0, (w32 (x3 + 1)))), (0, (2, x0)), (2, (0, x2)), (4, (0, x4))]) dec_X11_restless.2.2.2.1.2.2 2 rfl (by decide) rfl ?_
    refine V_goto (tgt := 33) dec_X11_restless.2.2.2.2.1 (by decide) ?_
    exact V_pick [1, 2, 0] rfl (hk33 s x0 x2 (w32 (x3 + 1)))
  · refine V_aload_n dec_X11_restless.2.1.2.2.2.2 0 rfl ?_
    refine V_getR 11 9 nf_11_9 ft_11_9 fl_X11_46 dec_X11_restless.2.2.1.1.1 ?_
    refine V_iload_n dec_X11_restless.2.2.1.1.2.1 2 rfl ?_
    refine V_iload dec_X11_restless.2.2.1.1.2.2 3 rfl ?_
    refine V_callV0 (ci := 5) (a := (gR s x0 9)) (As := [(0, x3), (0, x4)]) (st := []) rfl rfl (X5_isLiked_s G l s (gR s x0 9) x3 x4) cal_X5_isLiked rfl ml_X11_253 rfl rfl dec_X11_restless.2.2.1.2.1 (k_tag (tag := 0) rfl fun r9 s10 => ?_)
    refine V_if_eq (tgt := 77) dec_X11_restless.2.2.1.2.2.1 (by decide) ?_ ?_
    · exact V_pick [0, 1, 2, 3] rfl (X11_restless_b77_s G l rk33 rk49 hk33 hk49 s10 x0 x2 x3 x4)
    · refine V_iinc (lv' := [(2, (0, (w32 (x2 + 1)))), (0, (2, x0)), (3, (0, x3)), (4, (0, x4))]) dec_X11_restless.2.2.1.2.2.2 1 rfl (by decide) rfl ?_
      exact V_pick [1, 0, 2, 3] rfl (X11_restless_b77_s G l rk33 rk49 hk33 hk49 s10 x0 (w32 (x2 + 1)) x3 x4)
theorem X11_restless_b49_s (G : Gx) (l : Launch) (rk33 : St → Int → Int → Int → Rs) (hk33 : ∀ (s : St) (x0 x2 x3 : Int), V G l mX11_restless 33 [(0, (2, x0)), (2, (0, x2)), (3, (0, x3))] [] s (rk33 s x0 x2 x3)) (n : Nat) (s : St) (x0 x2 x3 x4 : Int) : V G l mX11_restless 49 [(0, (2, x0)), (2, (0, x2)), (3, (0, x3)), (4, (0, x4))] [] s (X11_restless_b49 rk33 n s x0 x2 x3 x4) :=
  V_iter (LV := fun a : St × Int × Int × Int × Int => [(0, (2, a.2.1)), (2, (0, a.2.2.1)), (3, (0, a.2.2.2.1)), (4, (0, a.2.2.2.2))]) (ST := fun a : St × Int × Int × Int × Int => []) (SS := fun a : St × Int × Int × Int × Int => a.1) (fun rec hrec a => X11_restless_b49_body_s G l rk33 (fun (s : St) (x0 x2 x3 x4 : Int) => rec (s, x0, x2, x3, x4)) hk33 (fun (s : St) (x0 x2 x3 x4 : Int) => hrec (s, x0, x2, x3, x4)) a.1 a.2.1 a.2.2.1 a.2.2.2.1 a.2.2.2.2) n (s, x0, x2, x3, x4)
def X11_restless_b33_body (rk33 : St → Int → Int → Int → Rs) (s : St) (x0 x2 x3 : Int) : Rs :=
  grd (isK s 21 x0) (grd (isK s 19 (gR s x0 6)) (if (gI s (gR s x0 6) 2) ≤ x3 then (some (x2, s)) else (X11_restless_b49 rk33 FU s x0 x2 x3 (w32 (x3 + 1)))))
def X11_restless_b33 (n : Nat) (s : St) (x0 x2 x3 : Int) : Rs := iter (fun (rec : St × Int × Int × Int → Rs) (a : St × Int × Int × Int) => X11_restless_b33_body (fun (s : St) (x0 x2 x3 : Int) => rec (s, x0, x2, x3)) a.1 a.2.1 a.2.2.1 a.2.2.2) n (s, x0, x2, x3)
theorem X11_restless_b33_0 (s : St) (x0 x2 x3 : Int) : X11_restless_b33 0 s x0 x2 x3 = none := rfl
theorem X11_restless_b33_1 (n : Nat) (s : St) (x0 x2 x3 : Int) : X11_restless_b33 (n + 1) s x0 x2 x3 = X11_restless_b33_body (X11_restless_b33 n) s x0 x2 x3 := rfl
set_option maxRecDepth 100000 in
set_option maxHeartbeats 4000000 in
theorem X11_restless_b33_body_s (G : Gx) (l : Launch) (rk33 : St → Int → Int → Int → Rs) (hk33 : ∀ (s : St) (x0 x2 x3 : Int), V G l mX11_restless 33 [(0, (2, x0)), (2, (0, x2)), (3, (0, x3))] [] s (rk33 s x0 x2 x3)) (s : St) (x0 x2 x3 : Int) : V G l mX11_restless 33 [(0, (2, x0)), (2, (0, x2)), (3, (0, x3))] [] s (X11_restless_b33_body rk33 s x0 x2 x3) := by
  unfold X11_restless_b33_body
  refine V_iload_n dec_X11_restless.1.2.2.1.2.2 2 rfl ?_
  refine V_aload_n dec_X11_restless.1.2.2.2.1 0 rfl ?_
  refine V_getR 11 6 nf_11_6 ft_11_6 fl_X11_27 dec_X11_restless.1.2.2.2.2.1 ?_
  refine V_getI 9 2 nf_9_2 ft_9_2 fl_X11_133 dec_X11_restless.1.2.2.2.2.2 ?_
  refine V_icmp_ge (tgt := 89) dec_X11_restless.2.1.1.1.1 (by decide) ?_ ?_
  · refine V_iload_n dec_X11_restless.2.2.2.2.2.1 1 rfl ?_
    exact V_iret rfl dec_X11_restless.2.2.2.2.2.2
  · refine V_iload_n dec_X11_restless.2.1.1.1.2 2 rfl ?_
    refine V_iconst dec_X11_restless.2.1.1.2.1 rfl ?_
    refine V_iadd dec_X11_restless.2.1.1.2.2.1 ?_
    refine V_istore (lv' := [(4, (0, (w32 (x3 + 1)))), (0, (2, x0)), (2, (0, x2)), (3, (0, x3))]) dec_X11_restless.2.1.1.2.2.2 (by decide) rfl ?_
    exact V_pick [1, 2, 3, 0] rfl (X11_restless_b49_s G l rk33 hk33 FU s x0 x2 x3 (w32 (x3 + 1)))
theorem X11_restless_b33_s (G : Gx) (l : Launch) (n : Nat) (s : St) (x0 x2 x3 : Int) : V G l mX11_restless 33 [(0, (2, x0)), (2, (0, x2)), (3, (0, x3))] [] s (X11_restless_b33 n s x0 x2 x3) :=
  V_iter (LV := fun a : St × Int × Int × Int => [(0, (2, a.2.1)), (2, (0, a.2.2.1)), (3, (0, a.2.2.2))]) (ST := fun a : St × Int × Int × Int => []) (SS := fun a : St × Int × Int × Int => a.1) (fun rec hrec a => X11_restless_b33_body_s G l (fun (s : St) (x0 x2 x3 : Int) => rec (s, x0, x2, x3)) (fun (s : St) (x0 x2 x3 : Int) => hrec (s, x0, x2, x3)) a.1 a.2.1 a.2.2.1 a.2.2.2) n (s, x0, x2, x3)
def X11_restless (s : St) (a0 a1 : Int) : Rs :=
  grd (isK s 21 a0) (bnd (X11_isNoTown s a0) (fun r1 s2 => bnd (X11_isNoNight s2 a1) (fun r3 s4 => grd (isK s4 21 a0) (bnd (X11_refused s4 a0 r1 r3) (fun r5 s6 => if r5 = 0 then (grd (isK s6 21 a0) (grd (isK s6 21 a0) (grd (isK s6 15 (gR s6 a0 9)) (bnd (X5_weigh s6 (gR s6 a0 9) (gR s6 a0 7) a1) (fun r7 s8 => X11_restless_b33 FU s8 a0 0 0))))) else (some ((-1), s6)))))))
set_option maxRecDepth 100000 in
set_option maxHeartbeats 4000000 in
theorem X11_restless_s (G : Gx) (l : Launch) (s : St) (a0 a1 : Int) : Snd G l mX11_restless [(2, a0), (0, a1)] s (X11_restless s a0 a1) := by
  refine Snd.of (by decide +kernel) rfl ?_
  show V G l mX11_restless 0 [(0, (2, a0)), (1, (0, a1))] [] s _
  unfold X11_restless
  refine V_aload_n dec_X11_restless.1.1.1.1.1 0 rfl ?_
  refine V_aload_n dec_X11_restless.1.1.1.1.2 0 rfl ?_
  refine V_callV0 (ci := 11) (a := a0) (As := []) (st := [(2, a0)]) rfl rfl (X11_isNoTown_s G l s a0) cal_X11_isNoTown rfl ml_X11_203 rfl rfl dec_X11_restless.1.1.1.2.1 (k_tag (tag := 0) rfl fun r1 s2 => ?_)
  refine V_iload_n dec_X11_restless.1.1.1.2.2.1 1 rfl ?_
  refine V_callS0 (As := [(0, a1)]) (st := [(0, r1), (2, a0)]) (host := "") rfl (X11_isNoNight_s G l s2 a1) cal_X11_isNoNight rfl (Or.inl ml_X11_187) rfl rfl dec_X11_restless.1.1.1.2.2.2 (k_tag (tag := 0) rfl fun r3 s4 => ?_)
  refine V_callV0 (ci := 11) (a := a0) (As := [(0, r1), (0, r3)]) (st := []) rfl rfl (X11_refused_s G l s4 a0 r1 r3) cal_X11_refused rfl ml_X11_92 rfl rfl dec_X11_restless.1.1.2.1.1 (k_tag (tag := 0) rfl fun r5 s6 => ?_)
  refine V_if_eq (tgt := 17) dec_X11_restless.1.1.2.1.2.1 (by decide) ?_ ?_
  · refine V_aload_n dec_X11_restless.1.1.2.2.2.1 0 rfl ?_
    refine V_getR 11 9 nf_11_9 ft_11_9 fl_X11_46 dec_X11_restless.1.1.2.2.2.2 ?_
    refine V_aload_n dec_X11_restless.1.2.1.1.1 0 rfl ?_
    refine V_getR 11 7 nf_11_7 ft_11_7 fl_X11_36 dec_X11_restless.1.2.1.1.2.1 ?_
    refine V_iload_n dec_X11_restless.1.2.1.1.2.2 1 rfl ?_
    refine V_callV0 (ci := 5) (a := (gR s6 a0 9)) (As := [(2, (gR s6 a0 7)), (0, a1)]) (st := []) rfl rfl (X5_weigh_s G l s6 (gR s6 a0 9) (gR s6 a0 7) a1) cal_X5_weigh rfl ml_X11_241 rfl rfl dec_X11_restless.1.2.1.2.1 (k_void rfl fun r7 s8 => ?_)
    refine V_iconst dec_X11_restless.1.2.1.2.2.1 rfl ?_
    refine V_istore_n (lv' := [(2, (0, 0)), (0, (2, a0)), (1, (0, a1))]) dec_X11_restless.1.2.1.2.2.2 (by decide) rfl ?_
    refine V_iconst dec_X11_restless.1.2.2.1.1 rfl ?_
    refine V_istore_n (lv' := [(3, (0, 0)), (2, (0, 0)), (0, (2, a0)), (1, (0, a1))]) dec_X11_restless.1.2.2.1.2.1 (by decide) rfl ?_
    exact V_pick [2, 1, 0] rfl (X11_restless_b33_s G l FU s8 a0 0 0)
  · refine V_iconst dec_X11_restless.1.1.2.1.2.2 rfl ?_
    exact V_iret rfl dec_X11_restless.1.1.2.2.1
