theorem dec_X11_refused : ((((decode cX11_refused 0 = .ok (.aload_n 0, 1) ∧ decode cX11_refused 1 = .ok (.iload_n 1, 1)) ∧ (decode cX11_refused 2 = .ok (.ifCond .eq 7, 3) ∧ decode cX11_refused 5 = .ok (.iconst 1, 1))) ∧ ((decode cX11_refused 6 = .ok (.goto 12, 3) ∧ decode cX11_refused 9 = .ok (.iload_n 2, 1)) ∧ (decode cX11_refused 10 = .ok (.ifCond .eq 7, 3) ∧ (decode cX11_refused 13 = .ok (.iconst 2, 1) ∧ decode cX11_refused 14 = .ok (.goto 4, 3))))) ∧ (((decode cX11_refused 17 = .ok (.iconst 0, 1) ∧ decode cX11_refused 18 = .ok (.putfield 136, 3)) ∧ (decode cX11_refused 21 = .ok (.aload_n 0, 1) ∧ decode cX11_refused 22 = .ok (.getfield 136, 3))) ∧ ((decode cX11_refused 25 = .ok (.ifCond .eq 7, 3) ∧ decode cX11_refused 28 = .ok (.iconst 1, 1)) ∧ (decode cX11_refused 29 = .ok (.goto 4, 3) ∧ (decode cX11_refused 32 = .ok (.iconst 0, 1) ∧ decode cX11_refused 33 = .ok (.ireturn, 1)))))) := ⟨by decide +kernel, by decide +kernel⟩
def X11_refused_b33 (s : St) (k0 : Int) : Rs :=
  grd (k0 = 0 ∨ k0 = 1) (some (k0, s))
set_option maxRecDepth 100000 in
set_option maxHeartbeats 4000000 in
theorem X11_refused_b33_s (G : Gx) (l : Launch) (s : St) (k0 : Int) : V G l mX11_refused 33 [] [(0, k0)] s (X11_refused_b33 s k0) := by
  unfold X11_refused_b33
  exact V_zret rfl dec_X11_refused.2.2.2.2.2
def X11_refused_b18 (s : St) (x0 k0 k1 : Int) : Rs :=
  grd (isK s 21 k1) (lets (pI s k1 2 k0) (fun s1 => grd (isK s1 21 x0) (if (gI s1 x0 2) = 0 then (X11_refused_b33 s1 0) else (X11_refused_b33 s1 1))))
set_option maxRecDepth 100000 in
set_option maxHeartbeats 4000000 in
theorem X11_refused_b18_s (G : Gx) (l : Launch) (s : St) (x0 k0 k1 : Int) : V G l mX11_refused 18 [(0, (2, x0))] [(0, k0), (2, k1)] s (X11_refused_b18 s x0 k0 k1) := by
  unfold X11_refused_b18
  refine V_putI (host := "") 11 2 nf_11_2 ty_11_2 (Or.inl ⟨fl_X11_136, Or.inl rfl⟩) dec_X11_refused.2.1.1.2 ?_
  refine V_lets fun s1 => ?_
  refine V_aload_n dec_X11_refused.2.1.2.1 0 rfl ?_
  refine V_getI 11 2 nf_11_2 ft_11_2 fl_X11_136 dec_X11_refused.2.1.2.2 ?_
  refine V_if_eq (tgt := 32) dec_X11_refused.2.2.1.1 (by decide) ?_ ?_
  · refine V_iconst dec_X11_refused.2.2.2.2.1 rfl ?_
    exact V_pick [] rfl (X11_refused_b33_s G l s1 0)
  · refine V_iconst dec_X11_refused.2.2.1.2 rfl ?_
    refine V_goto (tgt := 33) dec_X11_refused.2.2.2.1 (by decide) ?_
    exact V_pick [] rfl (X11_refused_b33_s G l s1 1)
def X11_refused (s : St) (a0 a1 a2 : Int) : Rs :=
  if a1 = 0 then (if a2 = 0 then (X11_refused_b18 s a0 0 a0) else (X11_refused_b18 s a0 2 a0)) else (X11_refused_b18 s a0 1 a0)
set_option maxRecDepth 100000 in
set_option maxHeartbeats 4000000 in
theorem X11_refused_s (G : Gx) (l : Launch) (s : St) (a0 a1 a2 : Int) : Snd G l mX11_refused [(2, a0), (0, a1), (0, a2)] s (X11_refused s a0 a1 a2) := by
  refine Snd.of (by decide +kernel) rfl ?_
  show V G l mX11_refused 0 [(0, (2, a0)), (1, (0, a1)), (2, (0, a2))] [] s _
  unfold X11_refused
  refine V_aload_n dec_X11_refused.1.1.1.1 0 rfl ?_
  refine V_iload_n dec_X11_refused.1.1.1.2 1 rfl ?_
  refine V_if_eq (tgt := 9) dec_X11_refused.1.1.2.1 (by decide) ?_ ?_
  · refine V_iload_n dec_X11_refused.1.2.1.2 2 rfl ?_
    refine V_if_eq (tgt := 17) dec_X11_refused.1.2.2.1 (by decide) ?_ ?_
    · refine V_iconst dec_X11_refused.2.1.1.1 rfl ?_
      exact V_pick [0] rfl (X11_refused_b18_s G l s a0 0 a0)
    · refine V_iconst dec_X11_refused.1.2.2.2.1 rfl ?_
      refine V_goto (tgt := 18) dec_X11_refused.1.2.2.2.2 (by decide) ?_
      exact V_pick [0] rfl (X11_refused_b18_s G l s a0 2 a0)
  · refine V_iconst dec_X11_refused.1.1.2.2 rfl ?_
    refine V_goto (tgt := 18) dec_X11_refused.1.2.1.1 (by decide) ?_
    exact V_pick [0] rfl (X11_refused_b18_s G l s a0 1 a0)
theorem dec_X11_aimFor : (((((decode cX11_aimFor 0 = .ok (.aload_n 0, 1) ∧ decode cX11_aimFor 1 = .ok (.aload_n 0, 1)) ∧ (decode cX11_aimFor 2 = .ok (.iload_n 1, 1) ∧ decode cX11_aimFor 3 = .ok (.invokevirtual 160, 3))) ∧ ((decode cX11_aimFor 6 = .ok (.ifCond .ne 11, 3) ∧ decode cX11_aimFor 9 = .ok (.aload_n 0, 1)) ∧ (decode cX11_aimFor 10 = .ok (.iload_n 2, 1) ∧ (decode cX11_aimFor 11 = .ok (.invokevirtual 139, 3) ∧ decode cX11_aimFor 14 = .ok (.ifCond .eq 7, 3))))) ∧ (((decode cX11_aimFor 17 = .ok (.iconst 1, 1) ∧ decode cX11_aimFor 18 = .ok (.goto 4, 3)) ∧ (decode cX11_aimFor 21 = .ok (.iconst 0, 1) ∧ (decode cX11_aimFor 22 = .ok (.iload_n 3, 1) ∧ decode cX11_aimFor 23 = .ok (.invokestatic 187, 3)))) ∧ ((decode cX11_aimFor 26 = .ok (.invokevirtual 92, 3) ∧ decode cX11_aimFor 29 = .ok (.ifCond .eq 5, 3)) ∧ (decode cX11_aimFor 32 = .ok (.iconst (-1), 1) ∧ (decode cX11_aimFor 33 = .ok (.ireturn, 1) ∧ decode cX11_aimFor 34 = .ok (.iconst 0, 1)))))) ∧ ((((decode cX11_aimFor 35 = .ok (.istore 4, 2) ∧ decode cX11_aimFor 37 = .ok (.iload 4, 2)) ∧ (decode cX11_aimFor 39 = .ok (.aload_n 0, 1) ∧ (decode cX11_aimFor 40 = .ok (.getfield 27, 3) ∧ decode cX11_aimFor 43 = .ok (.getfield 228, 3)))) ∧ ((decode cX11_aimFor 46 = .ok (.if_icmp .ge 27, 3) ∧ decode cX11_aimFor 49 = .ok (.aload_n 0, 1)) ∧ (decode cX11_aimFor 50 = .ok (.getfield 36, 3) ∧ (decode cX11_aimFor 53 = .ok (.iload_n 1, 1) ∧ decode cX11_aimFor 54 = .ok (.iload 4, 2))))) ∧ (((decode cX11_aimFor 56 = .ok (.iload_n 3, 1) ∧ decode cX11_aimFor 57 = .ok (.invokevirtual 231, 3)) ∧ (decode cX11_aimFor 60 = .ok (.iload_n 2, 1) ∧ (decode cX11_aimFor 61 = .ok (.if_icmp .ne 6, 3) ∧ decode cX11_aimFor 64 = .ok (.iload 4, 2)))) ∧ ((decode cX11_aimFor 66 = .ok (.ireturn, 1) ∧ decode cX11_aimFor 67 = .ok (.iinc 4 1, 3)) ∧ (decode cX11_aimFor 70 = .ok (.goto (-33), 3) ∧ (decode cX11_aimFor 73 = .ok (.bipush (-2), 2) ∧ decode cX11_aimFor 75 = .ok (.ireturn, 1))))))) := ⟨⟨by decide +kernel, by decide +kernel⟩, ⟨by decide +kernel, by decide +kernel⟩⟩
def X11_aimFor_b37_body (rk37 : St → Int → Int → Int → Int → Int → Rs) (s : St) (x0 x1 x2 x3 x4 : Int) : Rs :=
  grd (isK s 21 x0) (grd (isK s 19 (gR s x0 6)) (if (gI s (gR s x0 6) 0) ≤ x4 then (some ((-2), s)) else (grd (isK s 21 x0) (grd (isK s 20 (gR s x0 7)) (bnd (X10_listenerAimed s (gR s x0 7) x1 x4 x3) (fun r7 s8 => if ¬ r7 = x2 then (rk37 s8 x0 x1 x2 x3 (w32 (x4 + 1))) else (some (x4, s8))))))))
def X11_aimFor_b37 (n : Nat) (s : St) (x0 x1 x2 x3 x4 : Int) : Rs := iter (fun (rec : St × Int × Int × Int × Int × Int → Rs) (a : St × Int × Int × Int × Int × Int) => X11_aimFor_b37_body (fun (s : St) (x0 x1 x2 x3 x4 : Int) => rec (s, x0, x1, x2, x3, x4)) a.1 a.2.1 a.2.2.1 a.2.2.2.1 a.2.2.2.2.1 a.2.2.2.2.2) n (s, x0, x1, x2, x3, x4)
theorem X11_aimFor_b37_0 (s : St) (x0 x1 x2 x3 x4 : Int) : X11_aimFor_b37 0 s x0 x1 x2 x3 x4 = none := rfl
theorem X11_aimFor_b37_1 (n : Nat) (s : St) (x0 x1 x2 x3 x4 : Int) : X11_aimFor_b37 (n + 1) s x0 x1 x2 x3 x4 = X11_aimFor_b37_body (X11_aimFor_b37 n) s x0 x1 x2 x3 x4 := rfl
set_option maxRecDepth 100000 in
set_option maxHeartbeats 4000000 in
theorem X11_aimFor_b37_body_s (G : Gx) (l : Launch) (rk37 : St → Int → Int → Int → Int → Int → Rs) (hk37 : ∀ (s : St) (x0 x1 x2 x3 x4 : Int), V G l mX11_aimFor 37 [(0, (2, x0)), (1, (0, x1)), (2, (0, x2)), (3, (0, x3)), (4, (0, x4))] [] s (rk37 s x0 x1 x2 x3 x4)) (s : St) (x0 x1 x2 x3 x4 : Int) : V G l mX11_aimFor 37 [(0, (2, x0)), (1, (0, x1)), (2, (0, x2)), (3, (0, x3)), (4, (0, x4))] [] s (X11_aimFor_b37_body rk37 s x0 x1 x2 x3 x4) := by
  unfold X11_aimFor_b37_body
  refine V_iload dec_X11_aimFor.2.1.1.1.2 4 rfl ?_
  refine V_aload_n dec_X11_aimFor.2.1.1.2.1 0 rfl ?_
  refine V_getR 11 6 nf_11_6 ft_11_6 fl_X11_27 dec_X11_aimFor.2.1.1.2.2.1 ?_
  refine V_getI 9 0 nf_9_0 ft_9_0 fl_X11_228 dec_X11_aimFor.2.1.1.2.2.2 ?_
  refine V_icmp_ge (tgt := 73) dec_X11_aimFor.2.1.2.1.1 (by decide) ?_ ?_
  · refine V_bipush dec_X11_aimFor.2.2.2.2.2.1 rfl ?_
    exact V_iret rfl dec_X11_aimFor.2.2.2.2.2.2
  · refine V_aload_n dec_X11_aimFor.2.1.2.1.2 0 rfl ?_
    refine V_getR 11 7 nf_11_7 ft_11_7 fl_X11_36 dec_X11_aimFor.2.1.2.2.1 ?_
    refine V_iload_n dec_X11_aimFor.2.1.2.2.2.1 1 rfl ?_
    refine V_iload dec_X11_aimFor.2.1.2.2.2.2 4 rfl ?_
    refine V_iload_n dec_X11_aimFor.2.2.1.1.1 3 rfl ?_
    refine V_callV0 (ci := 10) (a := (gR s x0 7)) (As := [(0, x1), (0, x4), (0, x3)]) (st := []) rfl rfl (X10_listenerAimed_s G l s (gR s x0 7) x1 x4 x3) cal_X10_listenerAimed rfl ml_X11_231 rfl rfl dec_X11_aimFor.2.2.1.1.2 (k_tag (tag := 0) rfl fun r7 s8 => ?_)
    refine V_iload_n dec_X11_aimFor.2.2.1.2.1 2 rfl ?_
    refine V_icmp_ne (tgt := 67) dec_X11_aimFor.2.2.1.2.2.1 (by decide) ?_ ?_
    · refine V_iinc (lv' := [(4, (0, (w32 (x4 + 1)))), (0, (2, x0)), (1, (0, x1)), (2, (0, x2)), (3, (0, x3))]) dec_X11_aimFor.2.2.2.1.2 4 rfl (by decide) rfl ?_
      refine V_goto (tgt := 37) dec_X11_aimFor.2.2.2.2.1 (by decide) ?_
      exact V_pick [1, 2, 3, 4, 0] rfl (hk37 s8 x0 x1 x2 x3 (w32 (x4 + 1)))
    · refine V_iload dec_X11_aimFor.2.2.1.2.2.2 4 rfl ?_
      exact V_iret rfl dec_X11_aimFor.2.2.2.1.1
theorem X11_aimFor_b37_s (G : Gx) (l : Launch) (n : Nat) (s : St) (x0 x1 x2 x3 x4 : Int) : V G l mX11_aimFor 37 [(0, (2, x0)), (1, (0, x1)), (2, (0, x2)), (3, (0, x3)), (4, (0, x4))] [] s (X11_aimFor_b37 n s x0 x1 x2 x3 x4) :=
  V_iter (LV := fun a : St × Int × Int × Int × Int × Int => [(0, (2, a.2.1)), (1, (0, a.2.2.1)), (2, (0, a.2.2.2.1)), (3, (0, a.2.2.2.2.1)), (4, (0, a.2.2.2.2.2))]) (ST := fun a : St × Int × Int × Int × Int × Int => []) (SS := fun a : St × Int × Int × Int × Int × Int => a.1) (fun rec hrec a => X11_aimFor_b37_body_s G l (fun (s : St) (x0 x1 x2 x3 x4 : Int) => rec (s, x0, x1, x2, x3, x4)) (fun (s : St) (x0 x1 x2 x3 x4 : Int) => hrec (s, x0, x1, x2, x3, x4)) a.1 a.2.1 a.2.2.1 a.2.2.2.1 a.2.2.2.2.1 a.2.2.2.2.2) n (s, x0, x1, x2, x3, x4)
def X11_aimFor_b22 (s : St) (x0 x1 x2 x3 k0 k1 : Int) : Rs :=
  bnd (X11_isNoNight s x3) (fun r3 s4 => grd (isK s4 21 k1) (bnd (X11_refused s4 k1 k0 r3) (fun r5 s6 => if r5 = 0 then (X11_aimFor_b37 FU s6 x0 x1 x2 x3 0) else (some ((-1), s6)))))
set_option maxRecDepth 100000 in
set_option maxHeartbeats 4000000 in
theorem X11_aimFor_b22_s (G : Gx) (l : Launch) (s : St) (x0 x1 x2 x3 k0 k1 : Int) : V G l mX11_aimFor 22 [(0, (2, x0)), (1, (0, x1)), (2, (0, x2)), (3, (0, x3))] [(0, k0), (2, k1)] s (X11_aimFor_b22 s x0 x1 x2 x3 k0 k1) := by
  unfold X11_aimFor_b22
  refine V_iload_n dec_X11_aimFor.1.2.1.2.2.1 3 rfl ?_
  refine V_callS0 (As := [(0, x3)]) (st := [(0, k0), (2, k1)]) (host := "") rfl (X11_isNoNight_s G l s x3) cal_X11_isNoNight rfl (Or.inl ml_X11_187) rfl rfl dec_X11_aimFor.1.2.1.2.2.2 (k_tag (tag := 0) rfl fun r3 s4 => ?_)
  refine V_callV0 (ci := 11) (a := k1) (As := [(0, k0), (0, r3)]) (st := []) rfl rfl (X11_refused_s G l s4 k1 k0 r3) cal_X11_refused rfl ml_X11_92 rfl rfl dec_X11_aimFor.1.2.2.1.1 (k_tag (tag := 0) rfl fun r5 s6 => ?_)
  refine V_if_eq (tgt := 34) dec_X11_aimFor.1.2.2.1.2 (by decide) ?_ ?_
  · refine V_iconst dec_X11_aimFor.1.2.2.2.2.2 rfl ?_
    refine V_istore (lv' := [(4, (0, 0)), (0, (2, x0)), (1, (0, x1)), (2, (0, x2)), (3, (0, x3))]) dec_X11_aimFor.2.1.1.1.1 (by decide) rfl ?_
    exact V_pick [1, 2, 3, 4, 0] rfl (X11_aimFor_b37_s G l FU s6 x0 x1 x2 x3 0)
  · refine V_iconst dec_X11_aimFor.1.2.2.2.1 rfl ?_
    exact V_iret rfl dec_X11_aimFor.1.2.2.2.2.1
def X11_aimFor_b17 (s : St) (x0 x1 x2 x3 k0 : Int) : Rs :=
  X11_aimFor_b22 s x0 x1 x2 x3 1 k0
set_option maxRecDepth 100000 in
set_option maxHeartbeats 4000000 in
theorem X11_aimFor_b17_s (G : Gx) (l : Launch) (s : St) (x0 x1 x2 x3 k0 : Int) : V G l mX11_aimFor 17 [(0, (2, x0)), (1, (0, x1)), (2, (0, x2)), (3, (0, x3))] [(2, k0)] s (X11_aimFor_b17 s x0 x1 x2 x3 k0) := by
  unfold X11_aimFor_b17
  refine V_iconst dec_X11_aimFor.1.2.1.1.1 rfl ?_
  refine V_goto (tgt := 22) dec_X11_aimFor.1.2.1.1.2 (by decide) ?_
  exact V_pick [0, 1, 2, 3] rfl (X11_aimFor_b22_s G l s x0 x1 x2 x3 1 k0)
def X11_aimFor (s : St) (a0 a1 a2 a3 : Int) : Rs :=
  grd (isK s 21 a0) (bnd (X11_isNoDead s a0 a1) (fun r1 s2 => if ¬ r1 = 0 then (X11_aimFor_b17 s2 a0 a1 a2 a3 a0) else (grd (isK s2 21 a0) (bnd (X11_isNoPerson s2 a0 a2) (fun r9 s10 => if r9 = 0 then (X11_aimFor_b22 s10 a0 a1 a2 a3 0 a0) else (X11_aimFor_b17 s10 a0 a1 a2 a3 a0))))))
set_option maxRecDepth 100000 in
set_option maxHeartbeats 4000000 in
theorem X11_aimFor_s (G : Gx) (l : Launch) (s : St) (a0 a1 a2 a3 : Int) : Snd G l mX11_aimFor [(2, a0), (0, a1), (0, a2), (0, a3)] s (X11_aimFor s a0 a1 a2 a3) := by
  refine Snd.of (by decide +kernel) rfl ?_
  show V G l mX11_aimFor 0 [(0, (2, a0)), (1, (0, a1)), (2, (0, a2)), (3, (0, a3))] [] s _
  unfold X11_aimFor
  refine V_aload_n dec_X11_aimFor.1.1.1.1.1 0 rfl ?_
  refine V_aload_n dec_X11_aimFor.1.1.1.1.2 0 rfl ?_
  refine V_iload_n dec_X11_aimFor.1.1.1.2.1 1 rfl ?_
  refine V_callV0 (ci := 11) (a := a0) (As := [(0, a1)]) (st := [(2, a0)]) rfl rfl (X11_isNoDead_s G l s a0 a1) cal_X11_isNoDead rfl ml_X11_160 rfl rfl dec_X11_aimFor.1.1.1.2.2 (k_tag (tag := 0) rfl fun r1 s2 => ?_)
  refine V_if_ne (tgt := 17) dec_X11_aimFor.1.1.2.1.1 (by decide) ?_ ?_
  · exact V_pick [0, 1, 2, 3] rfl (X11_aimFor_b17_s G l s2 a0 a1 a2 a3 a0)
  · refine V_aload_n dec_X11_aimFor.1.1.2.1.2 0 rfl ?_
    refine V_iload_n dec_X11_aimFor.1.1.2.2.1 2 rfl ?_
    refine V_callV0 (ci := 11) (a := a0) (As := [(0, a2)]) (st := [(2, a0)]) rfl rfl (X11_isNoPerson_s G l s2 a0 a2) cal_X11_isNoPerson rfl ml_X11_139 rfl rfl dec_X11_aimFor.1.1.2.2.2.1 (k_tag (tag := 0) rfl fun r9 s10 => ?_)
    refine V_if_eq (tgt := 21) dec_X11_aimFor.1.1.2.2.2.2 (by decide) ?_ ?_
    · refine V_iconst dec_X11_aimFor.1.2.1.2.1 rfl ?_
      exact V_pick [0, 1, 2, 3] rfl (X11_aimFor_b22_s G l s10 a0 a1 a2 a3 0 a0)
    · exact V_pick [0, 1, 2, 3] rfl (X11_aimFor_b17_s G l s10 a0 a1 a2 a3 a0)
theorem dec_X11_aims : (((((decode cX11_aims 0 = .ok (.aload_n 0, 1) ∧ decode cX11_aims 1 = .ok (.aload_n 0, 1)) ∧ (decode cX11_aims 2 = .ok (.iload_n 1, 1) ∧ (decode cX11_aims 3 = .ok (.invokevirtual 160, 3) ∧ decode cX11_aims 6 = .ok (.ifCond .ne 11, 3)))) ∧ ((decode cX11_aims 9 = .ok (.aload_n 0, 1) ∧ decode cX11_aims 10 = .ok (.iload_n 2, 1)) ∧ (decode cX11_aims 11 = .ok (.invokevirtual 139, 3) ∧ (decode cX11_aims 14 = .ok (.ifCond .eq 7, 3) ∧ decode cX11_aims 17 = .ok (.iconst 1, 1))))) ∧ (((decode cX11_aims 18 = .ok (.goto 4, 3) ∧ decode cX11_aims 21 = .ok (.iconst 0, 1)) ∧ (decode cX11_aims 22 = .ok (.iload_n 3, 1) ∧ (decode cX11_aims 23 = .ok (.invokestatic 187, 3) ∧ decode cX11_aims 26 = .ok (.invokevirtual 92, 3)))) ∧ ((decode cX11_aims 29 = .ok (.ifCond .eq 5, 3) ∧ decode cX11_aims 32 = .ok (.iconst (-1), 1)) ∧ (decode cX11_aims 33 = .ok (.ireturn, 1) ∧ (decode cX11_aims 34 = .ok (.iconst 0, 1) ∧ decode cX11_aims 35 = .ok (.istore 4, 2)))))) ∧ ((((decode cX11_aims 37 = .ok (.iconst 0, 1) ∧ decode cX11_aims 38 = .ok (.istore 5, 2)) ∧ (decode cX11_aims 40 = .ok (.iload 5, 2) ∧ (decode cX11_aims 42 = .ok (.aload_n 0, 1) ∧ decode cX11_aims 43 = .ok (.getfield 27, 3)))) ∧ ((decode cX11_aims 46 = .ok (.getfield 228, 3) ∧ decode cX11_aims 49 = .ok (.if_icmp .ge 27, 3)) ∧ (decode cX11_aims 52 = .ok (.aload_n 0, 1) ∧ (decode cX11_aims 53 = .ok (.getfield 36, 3) ∧ decode cX11_aims 56 = .ok (.iload_n 1, 1))))) ∧ (((decode cX11_aims 57 = .ok (.iload 5, 2) ∧ decode cX11_aims 59 = .ok (.iload_n 3, 1)) ∧ (decode cX11_aims 60 = .ok (.invokevirtual 231, 3) ∧ (decode cX11_aims 63 = .ok (.iload_n 2, 1) ∧ decode cX11_aims 64 = .ok (.if_icmp .ne 6, 3)))) ∧ ((decode cX11_aims 67 = .ok (.iinc 4 1, 3) ∧ decode cX11_aims 70 = .ok (.iinc 5 1, 3)) ∧ (decode cX11_aims 73 = .ok (.goto (-33), 3) ∧ (decode cX11_aims 76 = .ok (.iload 4, 2) ∧ decode cX11_aims 78 = .ok (.ireturn, 1))))))) := ⟨⟨by decide +kernel, by decide +kernel⟩, ⟨by decide +kernel, by decide +kernel⟩⟩
def X11_aims_b70 (rk40 : St → Int → Int → Int → Int → Int → Int → Rs) (s : St) (x0 x1 x2 x3 x4 x5 : Int) : Rs :=
  rk40 s x0 x1 x2 x3 x4 (w32 (x5 + 1))
set_option maxRecDepth 100000 in
set_option maxHeartbeats 4000000 in
theorem X11_aims_b70_s (G : Gx) (l : Launch) (rk40 : St → Int → Int → Int → Int → Int → Int → Rs) (hk40 : ∀ (s : St) (x0 x1 x2 x3 x4 x5 : Int), V G l mX11_aims 40 [(0, (2, x0)), (1, (0, x1)), (2, (0, x2)), (3, (0, x3)), (4, (0, x4)), (5, (0, x5))] [] s (rk40 s x0 x1 x2 x3 x4 x5)) (s : St) (x0 x1 x2 x3 x4 x5 : Int) : V G l mX11_aims 70 [(0, (2, x0)), (1, (0, x1)), (2, (0, x2)), (3, (0, x3)), (4, (0, x4)), (5, (0, x5))] [] s (X11_aims_b70 rk40 s x0 x1 x2 x3 x4 x5) := by
  unfold X11_aims_b70
  refine V_iinc (lv' := [(5, (0, (w32 (x5 + 1)))), (0, (2, x0)), (1, (0, x1)), (2, (0, x2)), (3, (0, x3)), (4, (0, x4))]) dec_X11_aims.2.2.2.1.2 5 rfl (by decide) rfl ?_
  refine V_goto (tgt := 40) dec_X11_aims.2.2.2.2.1 (by decide) ?_
  exact V_pick [1, 2, 3, 4, 5, 0] rfl (hk40 s x0 x1 x2 x3 x4 (w32 (x5 + 1)))
def X11_aims_b40_body (rk40 : St → Int → Int → Int → Int → Int → Int → Rs) (s : St) (x0 x1 x2 x3 x4 x5 : Int) : Rs :=
  grd (isK s 21 x0) (grd (isK s 19 (gR s x0 6)) (if (gI s (gR s x0 6) 0) ≤ x5 then (some (x4, s)) else (grd (isK s 21 x0) (grd (isK s 20 (gR s x0 7)) (bnd (X10_listenerAimed s (gR s x0 7) x1 x5 x3) (fun r7 s8 => if ¬ r7 = x2 then (X11_aims_b70 rk40 s8 x0 x1 x2 x3 x4 x5) else (X11_aims_b70 rk40 s8 x0 x1 x2 x3 (w32 (x4 + 1)) x5)))))))
def X11_aims_b40 (n : Nat) (s : St) (x0 x1 x2 x3 x4 x5 : Int) : Rs := iter (fun (rec : St × Int × Int × Int × Int × Int × Int → Rs) (a : St × Int × Int × Int × Int × Int × Int) => X11_aims_b40_body (fun (s : St) (x0 x1 x2 x3 x4 x5 : Int) => rec (s, x0, x1, x2, x3, x4, x5)) a.1 a.2.1 a.2.2.1 a.2.2.2.1 a.2.2.2.2.1 a.2.2.2.2.2.1 a.2.2.2.2.2.2) n (s, x0, x1, x2, x3, x4, x5)
theorem X11_aims_b40_0 (s : St) (x0 x1 x2 x3 x4 x5 : Int) : X11_aims_b40 0 s x0 x1 x2 x3 x4 x5 = none := rfl
theorem X11_aims_b40_1 (n : Nat) (s : St) (x0 x1 x2 x3 x4 x5 : Int) : X11_aims_b40 (n + 1) s x0 x1 x2 x3 x4 x5 = X11_aims_b40_body (X11_aims_b40 n) s x0 x1 x2 x3 x4 x5 := rfl
set_option maxRecDepth 100000 in
set_option maxHeartbeats 4000000 in
theorem X11_aims_b40_body_s (G : Gx) (l : Launch) (rk40 : St → Int → Int → Int → Int → Int → Int → Rs) (hk40 : ∀ (s : St) (x0 x1 x2 x3 x4 x5 : Int), V G l mX11_aims 40 [(0, (2, x0)), (1, (0, x1)), (2, (0, x2)), (3, (0, x3)), (4, (0, x4)), (5, (0, x5))] [] s (rk40 s x0 x1 x2 x3 x4 x5)) (s : St) (x0 x1 x2 x3 x4 x5 : Int) : V G l mX11_aims 40 [(0, (2, x0)), (1, (0, x1)), (2, (0, x2)), (3, (0, x3)), (4, (0, x4)), (5, (0, x5))] [] s (X11_aims_b40_body rk40 s x0 x1 x2 x3 x4 x5) := by
  unfold X11_aims_b40_body
  refine V_iload dec_X11_aims.2.1.1.2.1 5 rfl ?_
  refine V_aload_n dec_X11_aims.2.1.1.2.2.1 0 rfl ?_
  refine V_getR 11 6 nf_11_6 ft_11_6 fl_X11_27 dec_X11_aims.2.1.1.2.2.2 ?_
  refine V_getI 9 0 nf_9_0 ft_9_0 fl_X11_228 dec_X11_aims.2.1.2.1.1 ?_
  refine V_icmp_ge (tgt := 76) dec_X11_aims.2.1.2.1.2 (by decide) ?_ ?_
  · refine V_iload dec_X11_aims.2.2.2.2.2.1 4 rfl ?_
    exact V_iret rfl dec_X11_aims.2.2.2.2.2.2
  · refine V_aload_n dec_X11_aims.2.1.2.2.1 0 rfl ?_
    refine V_getR 11 7 nf_11_7 ft_11_7 fl_X11_36 dec_X11_aims.2.1.2.2.2.1 ?_
    refine V_iload_n dec_X11_aims.2.1.2.2.2.2 1 rfl ?_
    refine V_iload dec_X11_aims.2.2.1.1.1 5 rfl ?_
    refine V_iload_n dec_X11_aims.2.2.1.1.2 3 rfl ?_
    refine V_callV0 (ci := 10) (a := (gR s x0 7)) (As := [(0, x1), (0, x5), (0, x3)]) (st := []) rfl rfl (X10_listenerAimed_s G l s (gR s x0 7) x1 x5 x3) cal_X10_listenerAimed rfl ml_X11_231 rfl rfl dec_X11_aims.2.2.1.2.1 (k_tag (tag := 0) rfl fun r7 s8 => ?_)
    refine V_iload_n dec_X11_aims.2.2.1.2.2.1 2 rfl ?_
    refine V_icmp_ne (tgt := 70) dec_X11_aims.2.2.1.2.2.2 (by decide) ?_ ?_
    · exact V_pick [0, 1, 2, 3, 4, 5] rfl (X11_aims_b70_s G l rk40 hk40 s8 x0 x1 x2 x3 x4 x5)
    · refine V_iinc (lv' := [(4, (0, (w32 (x4 + 1)))), (0, (2, x0)), (1, (0, x1)), (2, (0, x2)), (3, (0, x3)), (5, (0, x5))]) dec_X11_aims.2.2.2.1.1 4 rfl (by decide) rfl ?_
      exact V_pick [1, 2, 3, 4, 0, 5] rfl (X11_aims_b70_s G l rk40 hk40 s8 x0 x1 x2 x3 (w32 (x4 + 1)) x5)
theorem X11_aims_b40_s (G : Gx) (l : Launch) (n : Nat) (s : St) (x0 x1 x2 x3 x4 x5 : Int) : V G l mX11_aims 40 [(0, (2, x0)), (1, (0, x1)), (2, (0, x2)), (3, (0, x3)), (4, (0, x4)), (5, (0, x5))] [] s (X11_aims_b40 n s x0 x1 x2 x3 x4 x5) :=
  V_iter (LV := fun a : St × Int × Int × Int × Int × Int × Int => [(0, (2, a.2.1)), (1, (0, a.2.2.1)), (2, (0, a.2.2.2.1)), (3, (0, a.2.2.2.2.1)), (4, (0, a.2.2.2.2.2.1)), (5, (0, a.2.2.2.2.2.2))]) (ST := fun a : St × Int × Int × Int × Int × Int × Int => []) (SS := fun a : St × Int × Int × Int × Int × Int × Int => a.1) (fun rec hrec a => X11_aims_b40_body_s G l (fun (s : St) (x0 x1 x2 x3 x4 x5 : Int) => rec (s, x0, x1, x2, x3, x4, x5)) (fun (s : St) (x0 x1 x2 x3 x4 x5 : Int) => hrec (s, x0, x1, x2, x3, x4, x5)) a.1 a.2.1 a.2.2.1 a.2.2.2.1 a.2.2.2.2.1 a.2.2.2.2.2.1 a.2.2.2.2.2.2) n (s, x0, x1, x2, x3, x4, x5)
def X11_aims_b22 (s : St) (x0 x1 x2 x3 k0 k1 : Int) : Rs :=
  bnd (X11_isNoNight s x3) (fun r3 s4 => grd (isK s4 21 k1) (bnd (X11_refused s4 k1 k0 r3) (fun r5 s6 => if r5 = 0 then (X11_aims_b40 FU s6 x0 x1 x2 x3 0 0) else (some ((-1), s6)))))
set_option maxRecDepth 100000 in
set_option maxHeartbeats 4000000 in
theorem X11_aims_b22_s (G : Gx) (l : Launch) (s : St) (x0 x1 x2 x3 k0 k1 : Int) : V G l mX11_aims 22 [(0, (2, x0)), (1, (0, x1)), (2, (0, x2)), (3, (0, x3))] [(0, k0), (2, k1)] s (X11_aims_b22 s x0 x1 x2 x3 k0 k1) := by
  unfold X11_aims_b22
  refine V_iload_n dec_X11_aims.1.2.1.2.1 3 rfl ?_
  refine V_callS0 (As := [(0, x3)]) (st := [(0, k0), (2, k1)]) (host := "") rfl (X11_isNoNight_s G l s x3) cal_X11_isNoNight rfl (Or.inl ml_X11_187) rfl rfl dec_X11_aims.1.2.1.2.2.1 (k_tag (tag := 0) rfl fun r3 s4 => ?_)
  refine V_callV0 (ci := 11) (a := k1) (As := [(0, k0), (0, r3)]) (st := []) rfl rfl (X11_refused_s G l s4 k1 k0 r3) cal_X11_refused rfl ml_X11_92 rfl rfl dec_X11_aims.1.2.1.2.2.2 (k_tag (tag := 0) rfl fun r5 s6 => ?_)
  refine V_if_eq (tgt := 34) dec_X11_aims.1.2.2.1.1 (by decide) ?_ ?_
  · refine V_iconst dec_X11_aims.1.2.2.2.2.1 rfl ?_
    refine V_istore (lv' := [(4, (0, 0)), (0, (2, x0)), (1, (0, x1)), (2, (0, x2)), (3, (0, x3))]) dec_X11_aims.1.2.2.2.2.2 (by decide) rfl ?_
    refine V_iconst dec_X11_aims.2.1.1.1.1 rfl ?_
    refine V_istore (lv' := [(5, (0, 0)), (4, (0, 0)), (0, (2, x0)), (1, (0, x1)), (2, (0, x2)), (3, (0, x3))]) dec_X11_aims.2.1.1.1.2 (by decide) rfl ?_
    exact V_pick [2, 3, 4, 5, 1, 0] rfl (X11_aims_b40_s G l FU s6 x0 x1 x2 x3 0 0)
  · refine V_iconst dec_X11_aims.1.2.2.1.2 rfl ?_
    exact V_iret rfl dec_X11_aims.1.2.2.2.1
def X11_aims_b17 (s : St) (x0 x1 x2 x3 k0 : Int) : Rs :=
  X11_aims_b22 s x0 x1 x2 x3 1 k0
set_option maxRecDepth 100000 in
set_option maxHeartbeats 4000000 in
theorem X11_aims_b17_s (G : Gx) (l : Launch) (s : St) (x0 x1 x2 x3 k0 : Int) : V G l mX11_aims 17 [(0, (2, x0)), (1, (0, x1)), (2, (0, x2)), (3, (0, x3))] [(2, k0)] s (X11_aims_b17 s x0 x1 x2 x3 k0) := by
  unfold X11_aims_b17
  refine V_iconst dec_X11_aims.1.1.2.2.2.2 rfl ?_
  refine V_goto (tgt := 22) dec_X11_aims.1.2.1.1.1 (by decide) ?_
  exact V_pick [0, 1, 2, 3] rfl (X11_aims_b22_s G l s x0 x1 x2 x3 1 k0)
def X11_aims (s : St) (a0 a1 a2 a3 : Int) : Rs :=
  grd (isK s 21 a0) (bnd (X11_isNoDead s a0 a1) (fun r1 s2 => if ¬ r1 = 0 then (X11_aims_b17 s2 a0 a1 a2 a3 a0) else (grd (isK s2 21 a0) (bnd (X11_isNoPerson s2 a0 a2) (fun r9 s10 => if r9 = 0 then (X11_aims_b22 s10 a0 a1 a2 a3 0 a0) else (X11_aims_b17 s10 a0 a1 a2 a3 a0))))))
set_option maxRecDepth 100000 in
set_option maxHeartbeats 4000000 in
theorem X11_aims_s (G : Gx) (l : Launch) (s : St) (a0 a1 a2 a3 : Int) : Snd G l mX11_aims [(2, a0), (0, a1), (0, a2), (0, a3)] s (X11_aims s a0 a1 a2 a3) := by
  refine Snd.of (by decide +kernel) rfl ?_
  show V G l mX11_aims 0 [(0, (2, a0)), (1, (0, a1)), (2, (0, a2)), (3, (0, a3))] [] s _
  unfold X11_aims
  refine V_aload_n dec_X11_aims.1.1.1.1.1 0 rfl ?_
  refine V_aload_n dec_X11_aims.1.1.1.1.2 0 rfl ?_
  refine V_iload_n dec_X11_aims.1.1.1.2.1 1 rfl ?_
  refine V_callV0 (ci := 11) (a := a0) (As := [(0, a1)]) (st := [(2, a0)]) rfl rfl (X11_isNoDead_s G l s a0 a1) cal_X11_isNoDead rfl ml_X11_160 rfl rfl dec_X11_aims.1.1.1.2.2.1 (k_tag (tag := 0) rfl fun r1 s2 => ?_)
  refine V_if_ne (tgt := 17) dec_X11_aims.1.1.1.2.2.2 (by decide) ?_ ?_
  · exact V_pick [0, 1, 2, 3] rfl (X11_aims_b17_s G l s2 a0 a1 a2 a3 a0)
  · refine V_aload_n dec_X11_aims.1.1.2.1.1 0 rfl ?_
    refine V_iload_n dec_X11_aims.1.1.2.1.2 2 rfl ?_
    refine V_callV0 (ci := 11) (a := a0) (As := [(0, a2)]) (st := [(2, a0)]) rfl rfl (X11_isNoPerson_s G l s2 a0 a2) cal_X11_isNoPerson rfl ml_X11_139 rfl rfl dec_X11_aims.1.1.2.2.1 (k_tag (tag := 0) rfl fun r9 s10 => ?_)
    refine V_if_eq (tgt := 21) dec_X11_aims.1.1.2.2.2.1 (by decide) ?_ ?_
    · refine V_iconst dec_X11_aims.1.2.1.1.2 rfl ?_
      exact V_pick [0, 1, 2, 3] rfl (X11_aims_b22_s G l s10 a0 a1 a2 a3 0 a0)
    · exact V_pick [0, 1, 2, 3] rfl (X11_aims_b17_s G l s10 a0 a1 a2 a3 a0)
theorem dec_X11_isNoTown : (((decode cX11_isNoTown 0 = .ok (.aload_n 0, 1) ∧ decode cX11_isNoTown 1 = .ok (.getfield 27, 3)) ∧ (decode cX11_isNoTown 4 = .ok (.getfield 228, 3) ∧ decode cX11_isNoTown 7 = .ok (.ifCond .ne 7, 3))) ∧ ((decode cX11_isNoTown 10 = .ok (.iconst 1, 1) ∧ decode cX11_isNoTown 11 = .ok (.goto 4, 3)) ∧ (decode cX11_isNoTown 14 = .ok (.iconst 0, 1) ∧ decode cX11_isNoTown 15 = .ok (.ireturn, 1)))) := by decide +kernel
def X11_isNoTown_b15 (s : St) (k0 : Int) : Rs :=
  grd (k0 = 0 ∨ k0 = 1) (some (k0, s))
set_option maxRecDepth 100000 in
set_option maxHeartbeats 4000000 in
theorem X11_isNoTown_b15_s (G : Gx) (l : Launch) (s : St) (k0 : Int) : V G l mX11_isNoTown 15 [] [(0, k0)] s (X11_isNoTown_b15 s k0) := by
  unfold X11_isNoTown_b15
  exact V_zret rfl dec_X11_isNoTown.2.2.2
def X11_isNoTown (s : St) (a0 : Int) : Rs :=
  grd (isK s 21 a0) (grd (isK s 19 (gR s a0 6)) (if ¬ (gI s (gR s a0 6) 0) = 0 then (X11_isNoTown_b15 s 0) else (X11_isNoTown_b15 s 1)))
set_option maxRecDepth 100000 in
set_option maxHeartbeats 4000000 in
theorem X11_isNoTown_s (G : Gx) (l : Launch) (s : St) (a0 : Int) : Snd G l mX11_isNoTown [(2, a0)] s (X11_isNoTown s a0) := by
  refine Snd.of (by decide +kernel) rfl ?_
  show V G l mX11_isNoTown 0 [(0, (2, a0))] [] s _
  unfold X11_isNoTown
  refine V_aload_n dec_X11_isNoTown.1.1.1 0 rfl ?_
  refine V_getR 11 6 nf_11_6 ft_11_6 fl_X11_27 dec_X11_isNoTown.1.1.2 ?_
  refine V_getI 9 0 nf_9_0 ft_9_0 fl_X11_228 dec_X11_isNoTown.1.2.1 ?_
  refine V_if_ne (tgt := 14) dec_X11_isNoTown.1.2.2 (by decide) ?_ ?_
  · refine V_iconst dec_X11_isNoTown.2.2.1 rfl ?_
    exact V_pick [] rfl (X11_isNoTown_b15_s G l s 0)
  · refine V_iconst dec_X11_isNoTown.2.1.1 rfl ?_
    refine V_goto (tgt := 15) dec_X11_isNoTown.2.1.2 (by decide) ?_
    exact V_pick [] rfl (X11_isNoTown_b15_s G l s 1)
theorem dec_JM_max : ((decode prog_21_method_65_code 0 = .ok (.iload_n 0, 1) ∧ (decode prog_21_method_65_code 1 = .ok (.iload_n 1, 1) ∧ decode prog_21_method_65_code 2 = .ok (.if_icmp .lt 7, 3))) ∧ ((decode prog_21_method_65_code 5 = .ok (.iload_n 0, 1) ∧ decode prog_21_method_65_code 6 = .ok (.goto 4, 3)) ∧ (decode prog_21_method_65_code 9 = .ok (.iload_n 1, 1) ∧ decode prog_21_method_65_code 10 = .ok (.ireturn, 1)))) := by decide +kernel
def JM_max_b10 (s : St) (k0 : Int) : Rs :=
  some (k0, s)
set_option maxRecDepth 100000 in
set_option maxHeartbeats 4000000 in
theorem JM_max_b10_s (G : Gx) (l : Launch) (s : St) (k0 : Int) : V G l mJM_max 10 [] [(0, k0)] s (JM_max_b10 s k0) := by
  unfold JM_max_b10
  exact V_iret rfl dec_JM_max.2.2.2
def JM_max (s : St) (a0 a1 : Int) : Rs :=
  if a0 < a1 then (JM_max_b10 s a1) else (JM_max_b10 s a0)
set_option maxRecDepth 100000 in
set_option maxHeartbeats 4000000 in
theorem JM_max_s (G : Gx) (l : Launch) (s : St) (a0 a1 : Int) : Snd G l mJM_max [(0, a0), (0, a1)] s (JM_max s a0 a1) := by
  refine Snd.of (by decide +kernel) rfl ?_
  show V G l mJM_max 0 [(0, (0, a0)), (1, (0, a1))] [] s _
  unfold JM_max
  refine V_iload_n dec_JM_max.1.1 0 rfl ?_
  refine V_iload_n dec_JM_max.1.2.1 1 rfl ?_
  refine V_icmp_lt (tgt := 9) dec_JM_max.1.2.2 (by decide) ?_ ?_
  · refine V_iload_n dec_JM_max.2.2.1 1 rfl ?_
    exact V_pick [] rfl (JM_max_b10_s G l s a1)
  · refine V_iload_n dec_JM_max.2.1.1 0 rfl ?_
    refine V_goto (tgt := 10) dec_JM_max.2.1.2 (by decide) ?_
    exact V_pick [] rfl (JM_max_b10_s G l s a0)
theorem dec_X1_leftAtMost : ((((decode cX1_leftAtMost 0 = .ok (.iconst 0, 1) ∧ (decode cX1_leftAtMost 1 = .ok (.istore_n 2, 1) ∧ decode cX1_leftAtMost 2 = .ok (.iconst 0, 1))) ∧ ((decode cX1_leftAtMost 3 = .ok (.istore_n 3, 1) ∧ decode cX1_leftAtMost 4 = .ok (.iload_n 3, 1)) ∧ (decode cX1_leftAtMost 5 = .ok (.aload_n 0, 1) ∧ decode cX1_leftAtMost 6 = .ok (.getfield 19, 3)))) ∧ ((decode cX1_leftAtMost 9 = .ok (.if_icmp .ge 22, 3) ∧ (decode cX1_leftAtMost 12 = .ok (.iload_n 2, 1) ∧ decode cX1_leftAtMost 13 = .ok (.aload_n 0, 1))) ∧ ((decode cX1_leftAtMost 14 = .ok (.getfield 9, 3) ∧ decode cX1_leftAtMost 17 = .ok (.iload_n 3, 1)) ∧ (decode cX1_leftAtMost 18 = .ok (.iaload, 1) ∧ decode cX1_leftAtMost 19 = .ok (.iload_n 1, 1))))) ∧ (((decode cX1_leftAtMost 20 = .ok (.ishr, 1) ∧ (decode cX1_leftAtMost 21 = .ok (.iconst 1, 1) ∧ decode cX1_leftAtMost 22 = .ok (.iand, 1))) ∧ ((decode cX1_leftAtMost 23 = .ok (.iadd, 1) ∧ decode cX1_leftAtMost 24 = .ok (.istore_n 2, 1)) ∧ (decode cX1_leftAtMost 25 = .ok (.iinc 3 1, 3) ∧ decode cX1_leftAtMost 28 = .ok (.goto (-24), 3)))) ∧ ((decode cX1_leftAtMost 31 = .ok (.iload_n 2, 1) ∧ (decode cX1_leftAtMost 32 = .ok (.aload_n 0, 1) ∧ decode cX1_leftAtMost 33 = .ok (.getfield 19, 3))) ∧ ((decode cX1_leftAtMost 36 = .ok (.iload_n 2, 1) ∧ decode cX1_leftAtMost 37 = .ok (.isub, 1)) ∧ (decode cX1_leftAtMost 38 = .ok (.invokestatic 75, 3) ∧ decode cX1_leftAtMost 41 = .ok (.ireturn, 1)))))) := ⟨⟨by decide +kernel, by decide +kernel⟩, ⟨by decide +kernel, by decide +kernel⟩⟩
def X1_leftAtMost_b4_body (rk4 : St → Int → Int → Int → Int → Rs) (s : St) (x0 x1 x2 x3 : Int) : Rs :=
  grd (isK s 11 x0) (if (gI s x0 1) ≤ x3 then (grd (isK s 11 x0) (bnd (JM_max s x2 (w32 ((gI s x0 1) - x2))) (fun r1 s2 => some (r1, s2)))) else (grd (isK s 11 x0) (grd (isK s 1 (gR s x0 0) ∧ 0 ≤ x3 ∧ x3 < ln s (gR s x0 0)) (letv (w32 (x2 + (and32 (shr32 (gI s (gR s x0 0) x3.toNat) x1) 1))) (fun y3 => rk4 s x0 x1 y3 (w32 (x3 + 1)))))))
def X1_leftAtMost_b4 (n : Nat) (s : St) (x0 x1 x2 x3 : Int) : Rs := iter (fun (rec : St × Int × Int × Int × Int → Rs) (a : St × Int × Int × Int × Int) => X1_leftAtMost_b4_body (fun (s : St) (x0 x1 x2 x3 : Int) => rec (s, x0, x1, x2, x3)) a.1 a.2.1 a.2.2.1 a.2.2.2.1 a.2.2.2.2) n (s, x0, x1, x2, x3)
theorem X1_leftAtMost_b4_0 (s : St) (x0 x1 x2 x3 : Int) : X1_leftAtMost_b4 0 s x0 x1 x2 x3 = none := rfl
theorem X1_leftAtMost_b4_1 (n : Nat) (s : St) (x0 x1 x2 x3 : Int) : X1_leftAtMost_b4 (n + 1) s x0 x1 x2 x3 = X1_leftAtMost_b4_body (X1_leftAtMost_b4 n) s x0 x1 x2 x3 := rfl
set_option maxRecDepth 100000 in
set_option maxHeartbeats 4000000 in
theorem X1_leftAtMost_b4_body_s (G : Gx) (l : Launch) (rk4 : St → Int → Int → Int → Int → Rs) (hk4 : ∀ (s : St) (x0 x1 x2 x3 : Int), V G l mX1_leftAtMost 4 [(0, (2, x0)), (1, (0, x1)), (2, (0, x2)), (3, (0, x3))] [] s (rk4 s x0 x1 x2 x3)) (s : St) (x0 x1 x2 x3 : Int) : V G l mX1_leftAtMost 4 [(0, (2, x0)), (1, (0, x1)), (2, (0, x2)), (3, (0, x3))] [] s (X1_leftAtMost_b4_body rk4 s x0 x1 x2 x3) := by
  unfold X1_leftAtMost_b4_body
  refine V_iload_n dec_X1_leftAtMost.1.1.2.1.2 3 rfl ?_
  refine V_aload_n dec_X1_leftAtMost.1.1.2.2.1 0 rfl ?_
  refine V_getI 1 1 nf_1_1 ft_1_1 fl_X1_19 dec_X1_leftAtMost.1.1.2.2.2 ?_
  refine V_icmp_ge (tgt := 31) dec_X1_leftAtMost.1.2.1.1 (by decide) ?_ ?_
  · refine V_iload_n dec_X1_leftAtMost.2.2.1.1 2 rfl ?_
    refine V_aload_n dec_X1_leftAtMost.2.2.1.2.1 0 rfl ?_
    refine V_getI 1 1 nf_1_1 ft_1_1 fl_X1_19 dec_X1_leftAtMost.2.2.1.2.2 ?_
    refine V_iload_n dec_X1_leftAtMost.2.2.2.1.1 2 rfl ?_
    refine V_isub dec_X1_leftAtMost.2.2.2.1.2 ?_
    refine V_callS0 (As := [(0, x2), (0, (w32 ((gI s x0 1) - x2)))]) (st := []) (host := "") rfl (JM_max_s G l s x2 (w32 ((gI s x0 1) - x2))) cal_JM_max rfl (Or.inl ml_X1_75) rfl rfl dec_X1_leftAtMost.2.2.2.2.1 (k_tag (tag := 0) rfl fun r1 s2 => ?_)
    exact V_iret rfl dec_X1_leftAtMost.2.2.2.2.2
  · refine V_iload_n dec_X1_leftAtMost.1.2.1.2.1 2 rfl ?_
    refine V_aload_n dec_X1_leftAtMost.1.2.1.2.2 0 rfl ?_
    refine V_getR 1 0 nf_1_0 ft_1_0 fl_X1_9 dec_X1_leftAtMost.1.2.2.1.1 ?_
    refine V_iload_n dec_X1_leftAtMost.1.2.2.1.2 3 rfl ?_
    refine V_iald dec_X1_leftAtMost.1.2.2.2.1 ?_
    refine V_iload_n dec_X1_leftAtMost.1.2.2.2.2 1 rfl ?_
    refine V_ishr dec_X1_leftAtMost.2.1.1.1 ?_
    refine V_iconst dec_X1_leftAtMost.2.1.1.2.1 rfl ?_
    refine V_iand dec_X1_leftAtMost.2.1.1.2.2 ?_
    refine V_iadd dec_X1_leftAtMost.2.1.2.1.1 ?_
    refine V_letv fun y3 => ?_
    refine V_istore_n (lv' := [(2, (0, y3)), (0, (2, x0)), (1, (0, x1)), (3, (0, x3))]) dec_X1_leftAtMost.2.1.2.1.2 (by decide) rfl ?_
    refine V_iinc (lv' := [(3, (0, (w32 (x3 + 1)))), (2, (0, y3)), (0, (2, x0)), (1, (0, x1))]) dec_X1_leftAtMost.2.1.2.2.1 3 rfl (by decide) rfl ?_
    refine V_goto (tgt := 4) dec_X1_leftAtMost.2.1.2.2.2 (by decide) ?_
    exact V_pick [2, 3, 1, 0] rfl (hk4 s x0 x1 y3 (w32 (x3 + 1)))
theorem X1_leftAtMost_b4_s (G : Gx) (l : Launch) (n : Nat) (s : St) (x0 x1 x2 x3 : Int) : V G l mX1_leftAtMost 4 [(0, (2, x0)), (1, (0, x1)), (2, (0, x2)), (3, (0, x3))] [] s (X1_leftAtMost_b4 n s x0 x1 x2 x3) :=
  V_iter (LV := fun a : St × Int × Int × Int × Int => [(0, (2, a.2.1)), (1, (0, a.2.2.1)), (2, (0, a.2.2.2.1)), (3, (0, a.2.2.2.2))]) (ST := fun a : St × Int × Int × Int × Int => []) (SS := fun a : St × Int × Int × Int × Int => a.1) (fun rec hrec a => X1_leftAtMost_b4_body_s G l (fun (s : St) (x0 x1 x2 x3 : Int) => rec (s, x0, x1, x2, x3)) (fun (s : St) (x0 x1 x2 x3 : Int) => hrec (s, x0, x1, x2, x3)) a.1 a.2.1 a.2.2.1 a.2.2.2.1 a.2.2.2.2) n (s, x0, x1, x2, x3)
def X1_leftAtMost (s : St) (a0 a1 : Int) : Rs :=
  X1_leftAtMost_b4 FU s a0 a1 0 0
set_option maxRecDepth 100000 in
set_option maxHeartbeats 4000000 in
theorem X1_leftAtMost_s (G : Gx) (l : Launch) (s : St) (a0 a1 : Int) : Snd G l mX1_leftAtMost [(2, a0), (0, a1)] s (X1_leftAtMost s a0 a1) := by
  refine Snd.of (by decide +kernel) rfl ?_
  show V G l mX1_leftAtMost 0 [(0, (2, a0)), (1, (0, a1))] [] s _
  unfold X1_leftAtMost
  refine V_iconst dec_X1_leftAtMost.1.1.1.1 rfl ?_
  refine V_istore_n (lv' := [(2, (0, 0)), (0, (2, a0)), (1, (0, a1))]) dec_X1_leftAtMost.1.1.1.2.1 (by decide) rfl ?_
  refine V_iconst dec_X1_leftAtMost.1.1.1.2.2 rfl ?_
  refine V_istore_n (lv' := [(3, (0, 0)), (2, (0, 0)), (0, (2, a0)), (1, (0, a1))]) dec_X1_leftAtMost.1.1.2.1.1 (by decide) rfl ?_
  exact V_pick [2, 3, 1, 0] rfl (X1_leftAtMost_b4_s G l FU s a0 a1 0 0)
theorem dec_X1_whomToAsk : ((((decode cX1_whomToAsk 0 = .ok (.bipush (-2), 2) ∧ (decode cX1_whomToAsk 2 = .ok (.istore_n 2, 1) ∧ decode cX1_whomToAsk 3 = .ok (.ldc 80, 2))) ∧ (decode cX1_whomToAsk 5 = .ok (.istore_n 3, 1) ∧ (decode cX1_whomToAsk 6 = .ok (.iconst 0, 1) ∧ decode cX1_whomToAsk 7 = .ok (.istore 4, 2)))) ∧ ((decode cX1_whomToAsk 9 = .ok (.iload 4, 2) ∧ (decode cX1_whomToAsk 11 = .ok (.iload_n 1, 1) ∧ decode cX1_whomToAsk 12 = .ok (.if_icmp .ge 36, 3))) ∧ ((decode cX1_whomToAsk 15 = .ok (.aload_n 0, 1) ∧ decode cX1_whomToAsk 16 = .ok (.getfield 19, 3)) ∧ (decode cX1_whomToAsk 19 = .ok (.ifCond .le 29, 3) ∧ decode cX1_whomToAsk 22 = .ok (.aload_n 0, 1))))) ∧ (((decode cX1_whomToAsk 23 = .ok (.iload 4, 2) ∧ (decode cX1_whomToAsk 25 = .ok (.invokevirtual 81, 3) ∧ decode cX1_whomToAsk 28 = .ok (.istore 5, 2))) ∧ ((decode cX1_whomToAsk 30 = .ok (.iload 5, 2) ∧ decode cX1_whomToAsk 32 = .ok (.iload_n 3, 1)) ∧ (decode cX1_whomToAsk 33 = .ok (.if_icmp .ge 9, 3) ∧ decode cX1_whomToAsk 36 = .ok (.iload 5, 2)))) ∧ ((decode cX1_whomToAsk 38 = .ok (.istore_n 3, 1) ∧ (decode cX1_whomToAsk 39 = .ok (.iload 4, 2) ∧ decode cX1_whomToAsk 41 = .ok (.istore_n 2, 1))) ∧ ((decode cX1_whomToAsk 42 = .ok (.iinc 4 1, 3) ∧ decode cX1_whomToAsk 45 = .ok (.goto (-36), 3)) ∧ (decode cX1_whomToAsk 48 = .ok (.iload_n 2, 1) ∧ decode cX1_whomToAsk 49 = .ok (.ireturn, 1)))))) := ⟨⟨by decide +kernel, by decide +kernel⟩, ⟨by decide +kernel, by decide +kernel⟩⟩
def X1_whomToAsk_b48 (s : St) (x2 : Int) : Rs :=
  some (x2, s)
set_option maxRecDepth 100000 in
set_option maxHeartbeats 4000000 in
theorem X1_whomToAsk_b48_s (G : Gx) (l : Launch) (s : St) (x2 : Int) : V G l mX1_whomToAsk 48 [(2, (0, x2))] [] s (X1_whomToAsk_b48 s x2) := by
  unfold X1_whomToAsk_b48
  refine V_iload_n dec_X1_whomToAsk.2.2.2.2.1 0 rfl ?_
  exact V_iret rfl dec_X1_whomToAsk.2.2.2.2.2
def X1_whomToAsk_b42 (rk9 : St → Int → Int → Int → Int → Int → Rs) (s : St) (x0 x1 x2 x3 x4 : Int) : Rs :=
  rk9 s x0 x1 x2 x3 (w32 (x4 + 1))
set_option maxRecDepth 100000 in
set_option maxHeartbeats 4000000 in
theorem X1_whomToAsk_b42_s (G : Gx) (l : Launch) (rk9 : St → Int → Int → Int → Int → Int → Rs) (hk9 : ∀ (s : St) (x0 x1 x2 x3 x4 : Int), V G l mX1_whomToAsk 9 [(0, (2, x0)), (1, (0, x1)), (2, (0, x2)), (3, (0, x3)), (4, (0, x4))] [] s (rk9 s x0 x1 x2 x3 x4)) (s : St) (x0 x1 x2 x3 x4 : Int) : V G l mX1_whomToAsk 42 [(0, (2, x0)), (1, (0, x1)), (2, (0, x2)), (3, (0, x3)), (4, (0, x4))] [] s (X1_whomToAsk_b42 rk9 s x0 x1 x2 x3 x4) := by
  unfold X1_whomToAsk_b42
  refine V_iinc (lv' := [(4, (0, (w32 (x4 + 1)))), (0, (2, x0)), (1, (0, x1)), (2, (0, x2)), (3, (0, x3))]) dec_X1_whomToAsk.2.2.2.1.1 4 rfl (by decide) rfl ?_
  refine V_goto (tgt := 9) dec_X1_whomToAsk.2.2.2.1.2 (by decide) ?_
  exact V_pick [1, 2, 3, 4, 0] rfl (hk9 s x0 x1 x2 x3 (w32 (x4 + 1)))
def X1_whomToAsk_b9_body (rk9 : St → Int → Int → Int → Int → Int → Rs) (s : St) (x0 x1 x2 x3 x4 : Int) : Rs :=
  if x1 ≤ x4 then (X1_whomToAsk_b48 s x2) else (grd (isK s 11 x0) (if (gI s x0 1) ≤ 0 then (X1_whomToAsk_b48 s x2) else (grd (isK s 11 x0) (bnd (X1_leftAtMost s x0 x4) (fun r1 s2 => if x3 ≤ r1 then (X1_whomToAsk_b42 rk9 s2 x0 x1 x2 x3 x4) else (X1_whomToAsk_b42 rk9 s2 x0 x1 x4 r1 x4))))))
def X1_whomToAsk_b9 (n : Nat) (s : St) (x0 x1 x2 x3 x4 : Int) : Rs := iter (fun (rec : St × Int × Int × Int × Int × Int → Rs) (a : St × Int × Int × Int × Int × Int) => X1_whomToAsk_b9_body (fun (s : St) (x0 x1 x2 x3 x4 : Int) => rec (s, x0, x1, x2, x3, x4)) a.1 a.2.1 a.2.2.1 a.2.2.2.1 a.2.2.2.2.1 a.2.2.2.2.2) n (s, x0, x1, x2, x3, x4)
theorem X1_whomToAsk_b9_0 (s : St) (x0 x1 x2 x3 x4 : Int) : X1_whomToAsk_b9 0 s x0 x1 x2 x3 x4 = none := rfl
theorem X1_whomToAsk_b9_1 (n : Nat) (s : St) (x0 x1 x2 x3 x4 : Int) : X1_whomToAsk_b9 (n + 1) s x0 x1 x2 x3 x4 = X1_whomToAsk_b9_body (X1_whomToAsk_b9 n) s x0 x1 x2 x3 x4 := rfl
set_option maxRecDepth 100000 in
set_option maxHeartbeats 4000000 in
theorem X1_whomToAsk_b9_body_s (G : Gx) (l : Launch) (rk9 : St → Int → Int → Int → Int → Int → Rs) (hk9 : ∀ (s : St) (x0 x1 x2 x3 x4 : Int), V G l mX1_whomToAsk 9 [(0, (2, x0)), (1, (0, x1)), (2, (0, x2)), (3, (0, x3)), (4, (0, x4))] [] s (rk9 s x0 x1 x2 x3 x4)) (s : St) (x0 x1 x2 x3 x4 : Int) : V G l mX1_whomToAsk 9 [(0, (2, x0)), (1, (0, x1)), (2, (0, x2)), (3, (0, x3)), (4, (0, x4))] [] s (X1_whomToAsk_b9_body rk9 s x0 x1 x2 x3 x4) := by
  unfold X1_whomToAsk_b9_body
  refine V_iload dec_X1_whomToAsk.1.2.1.1 4 rfl ?_
  refine V_iload_n dec_X1_whomToAsk.1.2.1.2.1 1 rfl ?_
  refine V_icmp_ge (tgt := 48) dec_X1_whomToAsk.1.2.1.2.2 (by decide) ?_ ?_
  · exact V_pick [2] rfl (X1_whomToAsk_b48_s G l s x2)
  · refine V_aload_n dec_X1_whomToAsk.1.2.2.1.1 0 rfl ?_
    refine V_getI 1 1 nf_1_1 ft_1_1 fl_X1_19 dec_X1_whomToAsk.1.2.2.1.2 ?_
    refine V_if_le (tgt := 48) dec_X1_whomToAsk.1.2.2.2.1 (by decide) ?_ ?_
    · exact V_pick [2] rfl (X1_whomToAsk_b48_s G l s x2)
    · refine V_aload_n dec_X1_whomToAsk.1.2.2.2.2 0 rfl ?_
      refine V_iload dec_X1_whomToAsk.2.1.1.1 4 rfl ?_
      refine V_callV0 (ci := 1) (a := x0) (As := [(0, x4)]) (st := []) rfl rfl (X1_leftAtMost_s G l s x0 x4) cal_X1_leftAtMost rfl ml_X1_81 rfl rfl dec_X1_whomToAsk.2.1.1.2.1 (k_tag (tag := 0) rfl fun r1 s2 => ?_)
      refine V_istore (lv' := [(5, (0, r1)), (0, (2, x0)), (1, (0, x1)), (2, (0, x2)), (3, (0, x3)), (4, (0, x4))]) dec_X1_whomToAsk.2.1.1.2.2 (by decide) rfl ?_
      refine V_iload dec_X1_whomToAsk.2.1.2.1.1 0 rfl ?_
      refine V_iload_n dec_X1_whomToAsk.2.1.2.1.2 4 rfl ?_
      refine V_icmp_ge (tgt := 42) dec_X1_whomToAsk.2.1.2.2.1 (by decide) ?_ ?_
      · exact V_pick [1, 2, 3, 4, 5] rfl (X1_whomToAsk_b42_s G l rk9 hk9 s2 x0 x1 x2 x3 x4)
      · refine V_iload dec_X1_whomToAsk.2.1.2.2.2 0 rfl ?_
        refine V_istore_n (lv' := [(3, (0, r1)), (5, (0, r1)), (0, (2, x0)), (1, (0, x1)), (2, (0, x2)), (4, (0, x4))]) dec_X1_whomToAsk.2.2.1.1 (by decide) rfl ?_
        refine V_iload dec_X1_whomToAsk.2.2.1.2.1 5 rfl ?_
        refine V_istore_n (lv' := [(2, (0, x4)), (3, (0, r1)), (5, (0, r1)), (0, (2, x0)), (1, (0, x1)), (4, (0, x4))]) dec_X1_whomToAsk.2.2.1.2.2 (by decide) rfl ?_
        exact V_pick [3, 4, 0, 1, 5] rfl (X1_whomToAsk_b42_s G l rk9 hk9 s2 x0 x1 x4 r1 x4)
theorem X1_whomToAsk_b9_s (G : Gx) (l : Launch) (n : Nat) (s : St) (x0 x1 x2 x3 x4 : Int) : V G l mX1_whomToAsk 9 [(0, (2, x0)), (1, (0, x1)), (2, (0, x2)), (3, (0, x3)), (4, (0, x4))] [] s (X1_whomToAsk_b9 n s x0 x1 x2 x3 x4) :=
  V_iter (LV := fun a : St × Int × Int × Int × Int × Int => [(0, (2, a.2.1)), (1, (0, a.2.2.1)), (2, (0, a.2.2.2.1)), (3, (0, a.2.2.2.2.1)), (4, (0, a.2.2.2.2.2))]) (ST := fun a : St × Int × Int × Int × Int × Int => []) (SS := fun a : St × Int × Int × Int × Int × Int => a.1) (fun rec hrec a => X1_whomToAsk_b9_body_s G l (fun (s : St) (x0 x1 x2 x3 x4 : Int) => rec (s, x0, x1, x2, x3, x4)) (fun (s : St) (x0 x1 x2 x3 x4 : Int) => hrec (s, x0, x1, x2, x3, x4)) a.1 a.2.1 a.2.2.1 a.2.2.2.1 a.2.2.2.2.1 a.2.2.2.2.2) n (s, x0, x1, x2, x3, x4)
def X1_whomToAsk (s : St) (a0 a1 : Int) : Rs :=
  X1_whomToAsk_b9 FU s a0 a1 (-2) 1000000 0
set_option maxRecDepth 100000 in
set_option maxHeartbeats 4000000 in
theorem X1_whomToAsk_s (G : Gx) (l : Launch) (s : St) (a0 a1 : Int) : Snd G l mX1_whomToAsk [(2, a0), (0, a1)] s (X1_whomToAsk s a0 a1) := by
  refine Snd.of (by decide +kernel) rfl ?_
  show V G l mX1_whomToAsk 0 [(0, (2, a0)), (1, (0, a1))] [] s _
  unfold X1_whomToAsk
  refine V_bipush dec_X1_whomToAsk.1.1.1.1 rfl ?_
  refine V_istore_n (lv' := [(2, (0, (-2))), (0, (2, a0)), (1, (0, a1))]) dec_X1_whomToAsk.1.1.1.2.1 (by decide) rfl ?_
  refine V_ldc (n := 1000000) cw_X1_80 (by decide) dec_X1_whomToAsk.1.1.1.2.2 ?_
  refine V_istore_n (lv' := [(3, (0, 1000000)), (2, (0, (-2))), (0, (2, a0)), (1, (0, a1))]) dec_X1_whomToAsk.1.1.2.1 (by decide) rfl ?_
  refine V_iconst dec_X1_whomToAsk.1.1.2.2.1 rfl ?_
  refine V_istore (lv' := [(4, (0, 0)), (3, (0, 1000000)), (2, (0, (-2))), (0, (2, a0)), (1, (0, a1))]) dec_X1_whomToAsk.1.1.2.2.2 (by decide) rfl ?_
  exact V_pick [3, 4, 2, 1, 0] rfl (X1_whomToAsk_b9_s G l FU s a0 a1 (-2) 1000000 0)
theorem dec_X11_ask : (((decode cX11_ask 0 = .ok (.aload_n 0, 1) ∧ (decode cX11_ask 1 = .ok (.aload_n 0, 1) ∧ decode cX11_ask 2 = .ok (.invokevirtual 203, 3))) ∧ ((decode cX11_ask 5 = .ok (.iconst 0, 1) ∧ decode cX11_ask 6 = .ok (.invokevirtual 92, 3)) ∧ (decode cX11_ask 9 = .ok (.ifCond .eq 5, 3) ∧ decode cX11_ask 12 = .ok (.iconst (-1), 1)))) ∧ (((decode cX11_ask 13 = .ok (.ireturn, 1) ∧ decode cX11_ask 14 = .ok (.aload_n 0, 1)) ∧ (decode cX11_ask 15 = .ok (.getfield 60, 3) ∧ decode cX11_ask 18 = .ok (.aload_n 0, 1))) ∧ ((decode cX11_ask 19 = .ok (.getfield 27, 3) ∧ decode cX11_ask 22 = .ok (.getfield 287, 3)) ∧ (decode cX11_ask 25 = .ok (.invokevirtual 290, 3) ∧ decode cX11_ask 28 = .ok (.ireturn, 1))))) := ⟨by decide +kernel, by decide +kernel⟩
def X11_ask (s : St) (a0 : Int) : Rs :=
  grd (isK s 21 a0) (bnd (X11_isNoTown s a0) (fun r1 s2 => grd (isK s2 21 a0) (bnd (X11_refused s2 a0 r1 0) (fun r3 s4 => if r3 = 0 then (grd (isK s4 21 a0) (grd (isK s4 21 a0) (grd (isK s4 19 (gR s4 a0 6)) (grd (isK s4 11 (gR s4 a0 11)) (bnd (X1_whomToAsk s4 (gR s4 a0 11) (gI s4 (gR s4 a0 6) 4)) (fun r5 s6 => some (r5, s6))))))) else (some ((-1), s4))))))
set_option maxRecDepth 100000 in
set_option maxHeartbeats 4000000 in
theorem X11_ask_s (G : Gx) (l : Launch) (s : St) (a0 : Int) : Snd G l mX11_ask [(2, a0)] s (X11_ask s a0) := by
  refine Snd.of (by decide +kernel) rfl ?_
  show V G l mX11_ask 0 [(0, (2, a0))] [] s _
  unfold X11_ask
  refine V_aload_n dec_X11_ask.1.1.1 0 rfl ?_
  refine V_aload_n dec_X11_ask.1.1.2.1 0 rfl ?_
  refine V_callV0 (ci := 11) (a := a0) (As := []) (st := [(2, a0)]) rfl rfl (X11_isNoTown_s G l s a0) cal_X11_isNoTown rfl ml_X11_203 rfl rfl dec_X11_ask.1.1.2.2 (k_tag (tag := 0) rfl fun r1 s2 => ?_)
  refine V_iconst dec_X11_ask.1.2.1.1 rfl ?_
  refine V_callV0 (ci := 11) (a := a0) (As := [(0, r1), (0, 0)]) (st := []) rfl rfl (X11_refused_s G l s2 a0 r1 0) cal_X11_refused rfl ml_X11_92 rfl rfl dec_X11_ask.1.2.1.2 (k_tag (tag := 0) rfl fun r3 s4 => ?_)
  refine V_if_eq (tgt := 14) dec_X11_ask.1.2.2.1 (by decide) ?_ ?_
  · refine V_aload_n dec_X11_ask.2.1.1.2 0 rfl ?_
    refine V_getR 11 11 nf_11_11 ft_11_11 fl_X11_60 dec_X11_ask.2.1.2.1 ?_
    refine V_aload_n dec_X11_ask.2.1.2.2 0 rfl ?_
    refine V_getR 11 6 nf_11_6 ft_11_6 fl_X11_27 dec_X11_ask.2.2.1.1 ?_
    refine V_getI 9 4 nf_9_4 ft_9_4 fl_X11_287 dec_X11_ask.2.2.1.2 ?_
    refine V_callV0 (ci := 1) (a := (gR s4 a0 11)) (As := [(0, (gI s4 (gR s4 a0 6) 4))]) (st := []) rfl rfl (X1_whomToAsk_s G l s4 (gR s4 a0 11) (gI s4 (gR s4 a0 6) 4)) cal_X1_whomToAsk rfl ml_X11_290 rfl rfl dec_X11_ask.2.2.2.1 (k_tag (tag := 0) rfl fun r5 s6 => ?_)
    exact V_iret rfl dec_X11_ask.2.2.2.2
  · refine V_iconst dec_X11_ask.1.2.2.2 rfl ?_
    exact V_iret rfl dec_X11_ask.2.1.1.1
theorem dec_X11_askLeaves : ((((decode cX11_askLeaves 0 = .ok (.aload_n 0, 1) ∧ (decode cX11_askLeaves 1 = .ok (.aload_n 0, 1) ∧ decode cX11_askLeaves 2 = .ok (.invokevirtual 203, 3))) ∧ (decode cX11_askLeaves 5 = .ok (.iconst 0, 1) ∧ (decode cX11_askLeaves 6 = .ok (.invokevirtual 92, 3) ∧ decode cX11_askLeaves 9 = .ok (.ifCond .eq 5, 3)))) ∧ ((decode cX11_askLeaves 12 = .ok (.iconst (-1), 1) ∧ (decode cX11_askLeaves 13 = .ok (.ireturn, 1) ∧ decode cX11_askLeaves 14 = .ok (.aload_n 0, 1))) ∧ (decode cX11_askLeaves 15 = .ok (.getfield 60, 3) ∧ (decode cX11_askLeaves 18 = .ok (.aload_n 0, 1) ∧ decode cX11_askLeaves 19 = .ok (.getfield 27, 3))))) ∧ (((decode cX11_askLeaves 22 = .ok (.getfield 287, 3) ∧ (decode cX11_askLeaves 25 = .ok (.invokevirtual 290, 3) ∧ decode cX11_askLeaves 28 = .ok (.istore_n 1, 1))) ∧ (decode cX11_askLeaves 29 = .ok (.iload_n 1, 1) ∧ (decode cX11_askLeaves 30 = .ok (.ifCond .ge 8, 3) ∧ decode cX11_askLeaves 33 = .ok (.bipush (-2), 2)))) ∧ ((decode cX11_askLeaves 35 = .ok (.goto 11, 3) ∧ (decode cX11_askLeaves 38 = .ok (.aload_n 0, 1) ∧ decode cX11_askLeaves 39 = .ok (.getfield 60, 3))) ∧ (decode cX11_askLeaves 42 = .ok (.iload_n 1, 1) ∧ (decode cX11_askLeaves 43 = .ok (.invokevirtual 293, 3) ∧ decode cX11_askLeaves 46 = .ok (.ireturn, 1)))))) := ⟨by decide +kernel, by decide +kernel⟩
def X11_askLeaves_b46 (s : St) (k0 : Int) : Rs :=
  some (k0, s)
set_option maxRecDepth 100000 in
set_option maxHeartbeats 4000000 in
theorem X11_askLeaves_b46_s (G : Gx) (l : Launch) (s : St) (k0 : Int) : V G l mX11_askLeaves 46 [] [(0, k0)] s (X11_askLeaves_b46 s k0) := by
  unfold X11_askLeaves_b46
  exact V_iret rfl dec_X11_askLeaves.2.2.2.2.2
def X11_askLeaves (s : St) (a0 : Int) : Rs :=
  grd (isK s 21 a0) (bnd (X11_isNoTown s a0) (fun r1 s2 => grd (isK s2 21 a0) (bnd (X11_refused s2 a0 r1 0) (fun r3 s4 => if r3 = 0 then (grd (isK s4 21 a0) (grd (isK s4 21 a0) (grd (isK s4 19 (gR s4 a0 6)) (grd (isK s4 11 (gR s4 a0 11)) (bnd (X1_whomToAsk s4 (gR s4 a0 11) (gI s4 (gR s4 a0 6) 4)) (fun r5 s6 => if 0 ≤ r5 then (grd (isK s6 21 a0) (grd (isK s6 11 (gR s6 a0 11)) (bnd (X1_leftAtMost s6 (gR s6 a0 11) r5) (fun r7 s8 => X11_askLeaves_b46 s8 r7)))) else (X11_askLeaves_b46 s6 (-2)))))))) else (some ((-1), s4))))))
set_option maxRecDepth 100000 in
set_option maxHeartbeats 4000000 in
theorem X11_askLeaves_s (G : Gx) (l : Launch) (s : St) (a0 : Int) : Snd G l mX11_askLeaves [(2, a0)] s (X11_askLeaves s a0) := by
  refine Snd.of (by decide +kernel) rfl ?_
  show V G l mX11_askLeaves 0 [(0, (2, a0))] [] s _
  unfold X11_askLeaves
  refine V_aload_n dec_X11_askLeaves.1.1.1.1 0 rfl ?_
  refine V_aload_n dec_X11_askLeaves.1.1.1.2.1 0 rfl ?_
  refine V_callV0 (ci := 11) (a := a0) (As := []) (st := [(2, a0)]) rfl rfl (X11_isNoTown_s G l s a0) cal_X11_isNoTown rfl ml_X11_203 rfl rfl dec_X11_askLeaves.1.1.1.2.2 (k_tag (tag := 0) rfl fun r1 s2 => ?_)
  refine V_iconst dec_X11_askLeaves.1.1.2.1 rfl ?_
  refine V_callV0 (ci := 11) (a := a0) (As := [(0, r1), (0, 0)]) (st := []) rfl rfl (X11_refused_s G l s2 a0 r1 0) cal_X11_refused rfl ml_X11_92 rfl rfl dec_X11_askLeaves.1.1.2.2.1 (k_tag (tag := 0) rfl fun r3 s4 => ?_)
  refine V_if_eq (tgt := 14) dec_X11_askLeaves.1.1.2.2.2 (by decide) ?_ ?_
  · refine V_aload_n dec_X11_askLeaves.1.2.1.2.2 0 rfl ?_
    refine V_getR 11 11 nf_11_11 ft_11_11 fl_X11_60 dec_X11_askLeaves.1.2.2.1 ?_
    refine V_aload_n dec_X11_askLeaves.1.2.2.2.1 0 rfl ?_
    refine V_getR 11 6 nf_11_6 ft_11_6 fl_X11_27 dec_X11_askLeaves.1.2.2.2.2 ?_
    refine V_getI 9 4 nf_9_4 ft_9_4 fl_X11_287 dec_X11_askLeaves.2.1.1.1 ?_
    refine V_callV0 (ci := 1) (a := (gR s4 a0 11)) (As := [(0, (gI s4 (gR s4 a0 6) 4))]) (st := []) rfl rfl (X1_whomToAsk_s G l s4 (gR s4 a0 11) (gI s4 (gR s4 a0 6) 4)) cal_X1_whomToAsk rfl ml_X11_290 rfl rfl dec_X11_askLeaves.2.1.1.2.1 (k_tag (tag := 0) rfl fun r5 s6 => ?_)
    refine V_istore_n (lv' := [(1, (0, r5)), (0, (2, a0))]) dec_X11_askLeaves.2.1.1.2.2 (by decide) rfl ?_
    refine V_iload_n dec_X11_askLeaves.2.1.2.1 0 rfl ?_
    refine V_if_ge (tgt := 38) dec_X11_askLeaves.2.1.2.2.1 (by decide) ?_ ?_
    · refine V_aload_n dec_X11_askLeaves.2.2.1.2.1 1 rfl ?_
      refine V_getR 11 11 nf_11_11 ft_11_11 fl_X11_60 dec_X11_askLeaves.2.2.1.2.2 ?_
      refine V_iload_n dec_X11_askLeaves.2.2.2.1 0 rfl ?_
      refine V_callV0 (ci := 1) (a := (gR s6 a0 11)) (As := [(0, r5)]) (st := []) rfl rfl (X1_leftAtMost_s G l s6 (gR s6 a0 11) r5) cal_X1_leftAtMost rfl ml_X11_293 rfl rfl dec_X11_askLeaves.2.2.2.2.1 (k_tag (tag := 0) rfl fun r7 s8 => ?_)
      exact V_pick [] rfl (X11_askLeaves_b46_s G l s8 r7)
    · refine V_bipush dec_X11_askLeaves.2.1.2.2.2 rfl ?_
      refine V_goto (tgt := 46) dec_X11_askLeaves.2.2.1.1 (by decide) ?_
      exact V_pick [] rfl (X11_askLeaves_b46_s G l s6 (-2))
  · refine V_iconst dec_X11_askLeaves.1.2.1.1 rfl ?_
    exact V_iret rfl dec_X11_askLeaves.1.2.1.2.1
theorem dec_X11_back : ((((decode cX11_back 0 = .ok (.aload_n 0, 1) ∧ (decode cX11_back 1 = .ok (.iload_n 1, 1) ∧ decode cX11_back 2 = .ok (.ifCond .lt 11, 3))) ∧ ((decode cX11_back 5 = .ok (.iload_n 1, 1) ∧ decode cX11_back 6 = .ok (.aload_n 0, 1)) ∧ (decode cX11_back 7 = .ok (.getfield 130, 3) ∧ decode cX11_back 10 = .ok (.if_icmp .lt 7, 3)))) ∧ ((decode cX11_back 13 = .ok (.iconst 1, 1) ∧ (decode cX11_back 14 = .ok (.goto 4, 3) ∧ decode cX11_back 17 = .ok (.iconst 0, 1))) ∧ ((decode cX11_back 18 = .ok (.iconst 0, 1) ∧ decode cX11_back 19 = .ok (.invokevirtual 92, 3)) ∧ (decode cX11_back 22 = .ok (.ifCond .eq 5, 3) ∧ decode cX11_back 25 = .ok (.iconst 0, 1))))) ∧ (((decode cX11_back 26 = .ok (.ireturn, 1) ∧ (decode cX11_back 27 = .ok (.aload_n 0, 1) ∧ decode cX11_back 28 = .ok (.getfield 36, 3))) ∧ ((decode cX11_back 31 = .ok (.aload_n 0, 1) ∧ decode cX11_back 32 = .ok (.getfield 80, 3)) ∧ (decode cX11_back 35 = .ok (.iload_n 1, 1) ∧ decode cX11_back 36 = .ok (.aaload, 1)))) ∧ ((decode cX11_back 37 = .ok (.invokevirtual 119, 3) ∧ (decode cX11_back 40 = .ok (.aload_n 0, 1) ∧ decode cX11_back 41 = .ok (.getfield 74, 3))) ∧ ((decode cX11_back 44 = .ok (.iconst 0, 1) ∧ decode cX11_back 45 = .ok (.putfield 127, 3)) ∧ (decode cX11_back 48 = .ok (.iconst 1, 1) ∧ decode cX11_back 49 = .ok (.ireturn, 1)))))) := ⟨⟨by decide +kernel, by decide +kernel⟩, ⟨by decide +kernel, by decide +kernel⟩⟩
def X11_back_b18 (s : St) (x0 x1 k0 k1 : Int) : Rs :=
  grd (isK s 21 k1) (bnd (X11_refused s k1 k0 0) (fun r1 s2 => if r1 = 0 then (grd (isK s2 21 x0) (grd (isK s2 21 x0) (grd (isK s2 4 (gR s2 x0 14) ∧ 0 ≤ x1 ∧ x1 < ln s2 (gR s2 x0 14)) (grd (isK s2 20 (gR s2 x0 7)) (bnd (X10_settle s2 (gR s2 x0 7) (gR s2 (gR s2 x0 14) x1.toNat)) (fun r3 s4 => grd (isK s4 21 x0) (grd (isK s4 13 (gR s4 x0 13)) (lets (pI s4 (gR s4 x0 13) 0 0) (fun s5 => grd ((1 : Int) = 0 ∨ (1 : Int) = 1) (some (1, s5))))))))))) else (grd ((0 : Int) = 0 ∨ (0 : Int) = 1) (some (0, s2)))))
set_option maxRecDepth 100000 in
set_option maxHeartbeats 4000000 in
theorem X11_back_b18_s (G : Gx) (l : Launch) (s : St) (x0 x1 k0 k1 : Int) : V G l mX11_back 18 [(0, (2, x0)), (1, (0, x1))] [(0, k0), (2, k1)] s (X11_back_b18 s x0 x1 k0 k1) := by
  unfold X11_back_b18
  refine V_iconst dec_X11_back.1.2.2.1.1 rfl ?_
  refine V_callV0 (ci := 11) (a := k1) (As := [(0, k0), (0, 0)]) (st := []) rfl rfl (X11_refused_s G l s k1 k0 0) cal_X11_refused rfl ml_X11_92 rfl rfl dec_X11_back.1.2.2.1.2 (k_tag (tag := 0) rfl fun r1 s2 => ?_)
  refine V_if_eq (tgt := 27) dec_X11_back.1.2.2.2.1 (by decide) ?_ ?_
  · refine V_aload_n dec_X11_back.2.1.1.2.1 0 rfl ?_
    refine V_getR 11 7 nf_11_7 ft_11_7 fl_X11_36 dec_X11_back.2.1.1.2.2 ?_
    refine V_aload_n dec_X11_back.2.1.2.1.1 0 rfl ?_
    refine V_getR 11 14 nf_11_14 ft_11_14 fl_X11_80 dec_X11_back.2.1.2.1.2 ?_
    refine V_iload_n dec_X11_back.2.1.2.2.1 1 rfl ?_
    refine V_aald dec_X11_back.2.1.2.2.2 ?_
    refine V_callV0 (ci := 10) (a := (gR s2 x0 7)) (As := [(2, (gR s2 (gR s2 x0 14) x1.toNat))]) (st := []) rfl rfl (X10_settle_s G l s2 (gR s2 x0 7) (gR s2 (gR s2 x0 14) x1.toNat)) cal_X10_settle rfl ml_X11_119 rfl rfl dec_X11_back.2.2.1.1 (k_void rfl fun r3 s4 => ?_)
    refine V_aload_n dec_X11_back.2.2.1.2.1 0 rfl ?_
    refine V_getR 11 13 nf_11_13 ft_11_13 fl_X11_74 dec_X11_back.2.2.1.2.2 ?_
    refine V_iconst dec_X11_back.2.2.2.1.1 rfl ?_
    refine V_putI (host := "") 3 0 nf_3_0 ty_3_0 (Or.inl ⟨fl_X11_127, Or.inl rfl⟩) dec_X11_back.2.2.2.1.2 ?_
    refine V_lets fun s5 => ?_
    refine V_iconst dec_X11_back.2.2.2.2.1 rfl ?_
    exact V_zret rfl dec_X11_back.2.2.2.2.2
  · refine V_iconst dec_X11_back.1.2.2.2.2 rfl ?_
    exact V_zret rfl dec_X11_back.2.1.1.1
def X11_back_b13 (s : St) (x0 x1 k0 : Int) : Rs :=
  X11_back_b18 s x0 x1 1 k0
set_option maxRecDepth 100000 in
set_option maxHeartbeats 4000000 in
theorem X11_back_b13_s (G : Gx) (l : Launch) (s : St) (x0 x1 k0 : Int) : V G l mX11_back 13 [(0, (2, x0)), (1, (0, x1))] [(2, k0)] s (X11_back_b13 s x0 x1 k0) := by
  unfold X11_back_b13
  refine V_iconst dec_X11_back.1.2.1.1 rfl ?_
  refine V_goto (tgt := 18) dec_X11_back.1.2.1.2.1 (by decide) ?_
  exact V_pick [0, 1] rfl (X11_back_b18_s G l s x0 x1 1 k0)
def X11_back (s : St) (a0 a1 : Int) : Rs :=
  if a1 < 0 then (X11_back_b13 s a0 a1 a0) else (grd (isK s 21 a0) (if a1 < (gI s a0 15) then (X11_back_b18 s a0 a1 0 a0) else (X11_back_b13 s a0 a1 a0)))
set_option maxRecDepth 100000 in
set_option maxHeartbeats 4000000 in
theorem X11_back_s (G : Gx) (l : Launch) (s : St) (a0 a1 : Int) : Snd G l mX11_back [(2, a0), (0, a1)] s (X11_back s a0 a1) := by
  refine Snd.of (by decide +kernel) rfl ?_
  show V G l mX11_back 0 [(0, (2, a0)), (1, (0, a1))] [] s _
  unfold X11_back
  refine V_aload_n dec_X11_back.1.1.1.1 0 rfl ?_
  refine V_iload_n dec_X11_back.1.1.1.2.1 1 rfl ?_
  refine V_if_lt (tgt := 13) dec_X11_back.1.1.1.2.2 (by decide) ?_ ?_
  · exact V_pick [0, 1] rfl (X11_back_b13_s G l s a0 a1 a0)
  · refine V_iload_n dec_X11_back.1.1.2.1.1 1 rfl ?_
    refine V_aload_n dec_X11_back.1.1.2.1.2 0 rfl ?_
    refine V_getI 11 15 nf_11_15 ft_11_15 fl_X11_130 dec_X11_back.1.1.2.2.1 ?_
    refine V_icmp_lt (tgt := 17) dec_X11_back.1.1.2.2.2 (by decide) ?_ ?_
    · refine V_iconst dec_X11_back.1.2.1.2.2 rfl ?_
      exact V_pick [0, 1] rfl (X11_back_b18_s G l s a0 a1 0 a0)
    · exact V_pick [0, 1] rfl (X11_back_b13_s G l s a0 a1 a0)
theorem dec_X11_bestNight : (((((decode cX11_bestNight 0 = .ok (.aload_n 0, 1) ∧ decode cX11_bestNight 1 = .ok (.aload_n 0, 1)) ∧ (decode cX11_bestNight 2 = .ok (.invokevirtual 203, 3) ∧ decode cX11_bestNight 5 = .ok (.iconst 0, 1))) ∧ ((decode cX11_bestNight 6 = .ok (.invokevirtual 92, 3) ∧ decode cX11_bestNight 9 = .ok (.ifCond .eq 5, 3)) ∧ (decode cX11_bestNight 12 = .ok (.iconst (-1), 1) ∧ decode cX11_bestNight 13 = .ok (.ireturn, 1)))) ∧ (((decode cX11_bestNight 14 = .ok (.iconst 0, 1) ∧ decode cX11_bestNight 15 = .ok (.istore_n 1, 1)) ∧ (decode cX11_bestNight 16 = .ok (.iconst (-1), 1) ∧ decode cX11_bestNight 17 = .ok (.istore_n 2, 1))) ∧ ((decode cX11_bestNight 18 = .ok (.iconst 0, 1) ∧ decode cX11_bestNight 19 = .ok (.istore_n 3, 1)) ∧ (decode cX11_bestNight 20 = .ok (.iload_n 3, 1) ∧ decode cX11_bestNight 21 = .ok (.bipush 99, 2))))) ∧ ((((decode cX11_bestNight 23 = .ok (.if_icmp .gt 30, 3) ∧ decode cX11_bestNight 26 = .ok (.aload_n 0, 1)) ∧ (decode cX11_bestNight 27 = .ok (.getfield 36, 3) ∧ decode cX11_bestNight 30 = .ok (.iload_n 3, 1))) ∧ ((decode cX11_bestNight 31 = .ok (.invokevirtual 222, 3) ∧ decode cX11_bestNight 34 = .ok (.istore 4, 2)) ∧ (decode cX11_bestNight 36 = .ok (.iload 4, 2) ∧ decode cX11_bestNight 38 = .ok (.iload_n 2, 1)))) ∧ (((decode cX11_bestNight 39 = .ok (.if_icmp .le 8, 3) ∧ decode cX11_bestNight 42 = .ok (.iload 4, 2)) ∧ (decode cX11_bestNight 44 = .ok (.istore_n 2, 1) ∧ decode cX11_bestNight 45 = .ok (.iload_n 3, 1))) ∧ ((decode cX11_bestNight 46 = .ok (.istore_n 1, 1) ∧ decode cX11_bestNight 47 = .ok (.iinc 3 1, 3)) ∧ (decode cX11_bestNight 50 = .ok (.goto (-30), 3) ∧ (decode cX11_bestNight 53 = .ok (.iload_n 1, 1) ∧ decode cX11_bestNight 54 = .ok (.ireturn, 1))))))) := ⟨⟨by decide +kernel, by decide +kernel⟩, ⟨by decide +kernel, by decide +kernel⟩⟩
def X11_bestNight_b47 (rk20 : St → Int → Int → Int → Int → Rs) (s : St) (x0 x1 x2 x3 : Int) : Rs :=
  rk20 s x0 x1 x2 (w32 (x3 + 1))
set_option maxRecDepth 100000 in
set_option maxHeartbeats 4000000 in
theorem X11_bestNight_b47_s (G : Gx) (l : Launch) (rk20 : St → Int → Int → Int → Int → Rs) (hk20 : ∀ (s : St) (x0 x1 x2 x3 : Int), V G l mX11_bestNight 20 [(0, (2, x0)), (1, (0, x1)), (2, (0, x2)), (3, (0, x3))] [] s (rk20 s x0 x1 x2 x3)) (s : St) (x0 x1 x2 x3 : Int) : V G l mX11_bestNight 47 [(0, (2, x0)), (1, (0, x1)), (2, (0, x2)), (3, (0, x3))] [] s (X11_bestNight_b47 rk20 s x0 x1 x2 x3) := by
  unfold X11_bestNight_b47
  refine V_iinc (lv' := [(3, (0, (w32 (x3 + 1)))), (0, (2, x0)), (1, (0, x1)), (2, (0, x2))]) dec_X11_bestNight.2.2.2.1.2 3 rfl (by decide) rfl ?_
  refine V_goto (tgt := 20) dec_X11_bestNight.2.2.2.2.1 (by decide) ?_
  exact V_pick [1, 2, 3, 0] rfl (hk20 s x0 x1 x2 (w32 (x3 + 1)))
def X11_bestNight_b20_body (rk20 : St → Int → Int → Int → Int → Rs) (s : St) (x0 x1 x2 x3 : Int) : Rs :=
  if (99 : Int) < x3 then (some (x1, s)) else (grd (isK s 21 x0) (grd (isK s 20 (gR s x0 7)) (bnd (X10_rightCount s (gR s x0 7) x3) (fun r5 s6 => if r5 ≤ x2 then (X11_bestNight_b47 rk20 s6 x0 x1 x2 x3) else (X11_bestNight_b47 rk20 s6 x0 x3 r5 x3)))))
def X11_bestNight_b20 (n : Nat) (s : St) (x0 x1 x2 x3 : Int) : Rs := iter (fun (rec : St × Int × Int × Int × Int → Rs) (a : St × Int × Int × Int × Int) => X11_bestNight_b20_body (fun (s : St) (x0 x1 x2 x3 : Int) => rec (s, x0, x1, x2, x3)) a.1 a.2.1 a.2.2.1 a.2.2.2.1 a.2.2.2.2) n (s, x0, x1, x2, x3)
theorem X11_bestNight_b20_0 (s : St) (x0 x1 x2 x3 : Int) : X11_bestNight_b20 0 s x0 x1 x2 x3 = none := rfl
theorem X11_bestNight_b20_1 (n : Nat) (s : St) (x0 x1 x2 x3 : Int) : X11_bestNight_b20 (n + 1) s x0 x1 x2 x3 = X11_bestNight_b20_body (X11_bestNight_b20 n) s x0 x1 x2 x3 := rfl
set_option maxRecDepth 100000 in
set_option maxHeartbeats 4000000 in
theorem X11_bestNight_b20_body_s (G : Gx) (l : Launch) (rk20 : St → Int → Int → Int → Int → Rs) (hk20 : ∀ (s : St) (x0 x1 x2 x3 : Int), V G l mX11_bestNight 20 [(0, (2, x0)), (1, (0, x1)), (2, (0, x2)), (3, (0, x3))] [] s (rk20 s x0 x1 x2 x3)) (s : St) (x0 x1 x2 x3 : Int) : V G l mX11_bestNight 20 [(0, (2, x0)), (1, (0, x1)), (2, (0, x2)), (3, (0, x3))] [] s (X11_bestNight_b20_body rk20 s x0 x1 x2 x3) := by
  unfold X11_bestNight_b20_body
  refine V_iload_n dec_X11_bestNight.1.2.2.2.1 3 rfl ?_
  refine V_bipush dec_X11_bestNight.1.2.2.2.2 rfl ?_
  refine V_icmp_gt (tgt := 53) dec_X11_bestNight.2.1.1.1.1 (by decide) ?_ ?_
  · refine V_iload_n dec_X11_bestNight.2.2.2.2.2.1 1 rfl ?_
    exact V_iret rfl dec_X11_bestNight.2.2.2.2.2.2
  · refine V_aload_n dec_X11_bestNight.2.1.1.1.2 0 rfl ?_
    refine V_getR 11 7 nf_11_7 ft_11_7 fl_X11_36 dec_X11_bestNight.2.1.1.2.1 ?_
    refine V_iload_n dec_X11_bestNight.2.1.1.2.2 3 rfl ?_
    refine V_callV0 (ci := 10) (a := (gR s x0 7)) (As := [(0, x3)]) (st := []) rfl rfl (X10_rightCount_s G l s (gR s x0 7) x3) cal_X10_rightCount rfl ml_X11_222 rfl rfl dec_X11_bestNight.2.1.2.1.1 (k_tag (tag := 0) rfl fun r5 s6 => ?_)
    refine V_istore (lv' := [(4, (0, r5)), (0, (2, x0)), (1, (0, x1)), (2, (0, x2)), (3, (0, x3))]) dec_X11_bestNight.2.1.2.1.2 (by decide) rfl ?_
    refine V_iload dec_X11_bestNight.2.1.2.2.1 0 rfl ?_
    refine V_iload_n dec_X11_bestNight.2.1.2.2.2 3 rfl ?_
    refine V_icmp_le (tgt := 47) dec_X11_bestNight.2.2.1.1.1 (by decide) ?_ ?_
    · exact V_pick [1, 2, 3, 4] rfl (X11_bestNight_b47_s G l rk20 hk20 s6 x0 x1 x2 x3)
    · refine V_iload dec_X11_bestNight.2.2.1.1.2 0 rfl ?_
      refine V_istore_n (lv' := [(2, (0, r5)), (4, (0, r5)), (0, (2, x0)), (1, (0, x1)), (3, (0, x3))]) dec_X11_bestNight.2.2.1.2.1 (by decide) rfl ?_
      refine V_iload_n dec_X11_bestNight.2.2.1.2.2 4 rfl ?_
      refine V_istore_n (lv' := [(1, (0, x3)), (2, (0, r5)), (4, (0, r5)), (0, (2, x0)), (3, (0, x3))]) dec_X11_bestNight.2.2.2.1.1 (by decide) rfl ?_
      exact V_pick [3, 0, 1, 4] rfl (X11_bestNight_b47_s G l rk20 hk20 s6 x0 x3 r5 x3)
theorem X11_bestNight_b20_s (G : Gx) (l : Launch) (n : Nat) (s : St) (x0 x1 x2 x3 : Int) : V G l mX11_bestNight 20 [(0, (2, x0)), (1, (0, x1)), (2, (0, x2)), (3, (0, x3))] [] s (X11_bestNight_b20 n s x0 x1 x2 x3) :=
  V_iter (LV := fun a : St × Int × Int × Int × Int => [(0, (2, a.2.1)), (1, (0, a.2.2.1)), (2, (0, a.2.2.2.1)), (3, (0, a.2.2.2.2))]) (ST := fun a : St × Int × Int × Int × Int => []) (SS := fun a : St × Int × Int × Int × Int => a.1) (fun rec hrec a => X11_bestNight_b20_body_s G l (fun (s : St) (x0 x1 x2 x3 : Int) => rec (s, x0, x1, x2, x3)) (fun (s : St) (x0 x1 x2 x3 : Int) => hrec (s, x0, x1, x2, x3)) a.1 a.2.1 a.2.2.1 a.2.2.2.1 a.2.2.2.2) n (s, x0, x1, x2, x3)
def X11_bestNight (s : St) (a0 : Int) : Rs :=
  grd (isK s 21 a0) (bnd (X11_isNoTown s a0) (fun r1 s2 => grd (isK s2 21 a0) (bnd (X11_refused s2 a0 r1 0) (fun r3 s4 => if r3 = 0 then (X11_bestNight_b20 FU s4 a0 0 (-1) 0) else (some ((-1), s4))))))
set_option maxRecDepth 100000 in
set_option maxHeartbeats 4000000 in
theorem X11_bestNight_s (G : Gx) (l : Launch) (s : St) (a0 : Int) : Snd G l mX11_bestNight [(2, a0)] s (X11_bestNight s a0) := by
  refine Snd.of (by decide +kernel) rfl ?_
  show V G l mX11_bestNight 0 [(0, (2, a0))] [] s _
  unfold X11_bestNight
  refine V_aload_n dec_X11_bestNight.1.1.1.1.1 0 rfl ?_
  refine V_aload_n dec_X11_bestNight.1.1.1.1.2 0 rfl ?_
  refine V_callV0 (ci := 11) (a := a0) (As := []) (st := [(2, a0)]) rfl rfl (X11_isNoTown_s G l s a0) cal_X11_isNoTown rfl ml_X11_203 rfl rfl dec_X11_bestNight.1.1.1.2.1 (k_tag (tag := 0) rfl fun r1 s2 => ?_)
  refine V_iconst dec_X11_bestNight.1.1.1.2.2 rfl ?_
  refine V_callV0 (ci := 11) (a := a0) (As := [(0, r1), (0, 0)]) (st := []) rfl rfl (X11_refused_s G l s2 a0 r1 0) cal_X11_refused rfl ml_X11_92 rfl rfl dec_X11_bestNight.1.1.2.1.1 (k_tag (tag := 0) rfl fun r3 s4 => ?_)
  refine V_if_eq (tgt := 14) dec_X11_bestNight.1.1.2.1.2 (by decide) ?_ ?_
  · refine V_iconst dec_X11_bestNight.1.2.1.1.1 rfl ?_
    refine V_istore_n (lv' := [(1, (0, 0)), (0, (2, a0))]) dec_X11_bestNight.1.2.1.1.2 (by decide) rfl ?_
    refine V_iconst dec_X11_bestNight.1.2.1.2.1 rfl ?_
    refine V_istore_n (lv' := [(2, (0, (-1))), (1, (0, 0)), (0, (2, a0))]) dec_X11_bestNight.1.2.1.2.2 (by decide) rfl ?_
    refine V_iconst dec_X11_bestNight.1.2.2.1.1 rfl ?_
    refine V_istore_n (lv' := [(3, (0, 0)), (2, (0, (-1))), (1, (0, 0)), (0, (2, a0))]) dec_X11_bestNight.1.2.2.1.2 (by decide) rfl ?_
    exact V_pick [3, 2, 1, 0] rfl (X11_bestNight_b20_s G l FU s4 a0 0 (-1) 0)
  · refine V_iconst dec_X11_bestNight.1.1.2.2.1 rfl ?_
    exact V_iret rfl dec_X11_bestNight.1.1.2.2.2
theorem dec_X11_bishopTalks : (((decode cX11_bishopTalks 0 = .ok (.iload_n 0, 1) ∧ decode cX11_bishopTalks 1 = .ok (.iconst 2, 1)) ∧ (decode cX11_bishopTalks 2 = .ok (.iand, 1) ∧ decode cX11_bishopTalks 3 = .ok (.ifCond .eq 7, 3))) ∧ ((decode cX11_bishopTalks 6 = .ok (.iconst 1, 1) ∧ decode cX11_bishopTalks 7 = .ok (.goto 4, 3)) ∧ (decode cX11_bishopTalks 10 = .ok (.iconst 0, 1) ∧ decode cX11_bishopTalks 11 = .ok (.ireturn, 1)))) := by decide +kernel
def X11_bishopTalks_b11 (s : St) (k0 : Int) : Rs :=
  grd (k0 = 0 ∨ k0 = 1) (some (k0, s))
set_option maxRecDepth 100000 in
set_option maxHeartbeats 4000000 in
theorem X11_bishopTalks_b11_s (G : Gx) (l : Launch) (s : St) (k0 : Int) : V G l mX11_bishopTalks 11 [] [(0, k0)] s (X11_bishopTalks_b11 s k0) := by
  unfold X11_bishopTalks_b11
  exact V_zret rfl dec_X11_bishopTalks.2.2.2
def X11_bishopTalks (s : St) (a0 : Int) : Rs :=
  if (and32 a0 2) = 0 then (X11_bishopTalks_b11 s 0) else (X11_bishopTalks_b11 s 1)
set_option maxRecDepth 100000 in
set_option maxHeartbeats 4000000 in
theorem X11_bishopTalks_s (G : Gx) (l : Launch) (s : St) (a0 : Int) : Snd G l mX11_bishopTalks [(0, a0)] s (X11_bishopTalks s a0) := by
  refine Snd.of (by decide +kernel) rfl ?_
  show V G l mX11_bishopTalks 0 [(0, (0, a0))] [] s _
  unfold X11_bishopTalks
  refine V_iload_n dec_X11_bishopTalks.1.1.1 0 rfl ?_
  refine V_iconst dec_X11_bishopTalks.1.1.2 rfl ?_
  refine V_iand dec_X11_bishopTalks.1.2.1 ?_
  refine V_if_eq (tgt := 10) dec_X11_bishopTalks.1.2.2 (by decide) ?_ ?_
  · refine V_iconst dec_X11_bishopTalks.2.2.1 rfl ?_
    exact V_pick [] rfl (X11_bishopTalks_b11_s G l s 0)
  · refine V_iconst dec_X11_bishopTalks.2.1.1 rfl ?_
    refine V_goto (tgt := 11) dec_X11_bishopTalks.2.1.2 (by decide) ?_
    exact V_pick [] rfl (X11_bishopTalks_b11_s G l s 1)
theorem dec_X11_isNoHouse : (((decode cX11_isNoHouse 0 = .ok (.iload_n 1, 1) ∧ decode cX11_isNoHouse 1 = .ok (.ifCond .lt 14, 3)) ∧ (decode cX11_isNoHouse 4 = .ok (.iload_n 1, 1) ∧ (decode cX11_isNoHouse 5 = .ok (.aload_n 0, 1) ∧ decode cX11_isNoHouse 6 = .ok (.getfield 27, 3)))) ∧ ((decode cX11_isNoHouse 9 = .ok (.getfield 228, 3) ∧ (decode cX11_isNoHouse 12 = .ok (.if_icmp .lt 7, 3) ∧ decode cX11_isNoHouse 15 = .ok (.iconst 1, 1))) ∧ (decode cX11_isNoHouse 16 = .ok (.goto 4, 3) ∧ (decode cX11_isNoHouse 19 = .ok (.iconst 0, 1) ∧ decode cX11_isNoHouse 20 = .ok (.ireturn, 1))))) := by decide +kernel
def X11_isNoHouse_b20 (s : St) (k0 : Int) : Rs :=
  grd (k0 = 0 ∨ k0 = 1) (some (k0, s))
set_option maxRecDepth 100000 in
set_option maxHeartbeats 4000000 in
theorem X11_isNoHouse_b20_s (G : Gx) (l : Launch) (s : St) (k0 : Int) : V G l mX11_isNoHouse 20 [] [(0, k0)] s (X11_isNoHouse_b20 s k0) := by
  unfold X11_isNoHouse_b20
  exact V_zret rfl dec_X11_isNoHouse.2.2.2.2
def X11_isNoHouse_b15 (s : St) : Rs :=
  X11_isNoHouse_b20 s 1
set_option maxRecDepth 100000 in
set_option maxHeartbeats 4000000 in
theorem X11_isNoHouse_b15_s (G : Gx) (l : Launch) (s : St) : V G l mX11_isNoHouse 15 [] [] s (X11_isNoHouse_b15 s) := by
  unfold X11_isNoHouse_b15
  refine V_iconst dec_X11_isNoHouse.2.1.2.2 rfl ?_
  refine V_goto (tgt := 20) dec_X11_isNoHouse.2.2.1 (by decide) ?_
  exact V_pick [] rfl (X11_isNoHouse_b20_s G l s 1)
def X11_isNoHouse (s : St) (a0 a1 : Int) : Rs :=
  if a1 < 0 then (X11_isNoHouse_b15 s) else (grd (isK s 21 a0) (grd (isK s 19 (gR s a0 6)) (if a1 < (gI s (gR s a0 6) 0) then (X11_isNoHouse_b20 s 0) else (X11_isNoHouse_b15 s))))
set_option maxRecDepth 100000 in
set_option maxHeartbeats 4000000 in
theorem X11_isNoHouse_s (G : Gx) (l : Launch) (s : St) (a0 a1 : Int) : Snd G l mX11_isNoHouse [(2, a0), (0, a1)] s (X11_isNoHouse s a0 a1) := by
  refine Snd.of (by decide +kernel) rfl ?_
  show V G l mX11_isNoHouse 0 [(0, (2, a0)), (1, (0, a1))] [] s _
  unfold X11_isNoHouse
  refine V_iload_n dec_X11_isNoHouse.1.1.1 1 rfl ?_
  refine V_if_lt (tgt := 15) dec_X11_isNoHouse.1.1.2 (by decide) ?_ ?_
  · exact V_pick [] rfl (X11_isNoHouse_b15_s G l s)
  · refine V_iload_n dec_X11_isNoHouse.1.2.1 1 rfl ?_
    refine V_aload_n dec_X11_isNoHouse.1.2.2.1 0 rfl ?_
    refine V_getR 11 6 nf_11_6 ft_11_6 fl_X11_27 dec_X11_isNoHouse.1.2.2.2 ?_
    refine V_getI 9 0 nf_9_0 ft_9_0 fl_X11_228 dec_X11_isNoHouse.2.1.1 ?_
    refine V_icmp_lt (tgt := 19) dec_X11_isNoHouse.2.1.2.1 (by decide) ?_ ?_
    · refine V_iconst dec_X11_isNoHouse.2.2.2.1 rfl ?_
      exact V_pick [] rfl (X11_isNoHouse_b20_s G l s 0)
    · exact V_pick [] rfl (X11_isNoHouse_b15_s G l s)
theorem dec_X11_bring : ((((decode cX11_bring 0 = .ok (.aload_n 0, 1) ∧ decode cX11_bring 1 = .ok (.aload_n 0, 1)) ∧ (decode cX11_bring 2 = .ok (.iload_n 1, 1) ∧ (decode cX11_bring 3 = .ok (.invokevirtual 175, 3) ∧ decode cX11_bring 6 = .ok (.iload_n 2, 1)))) ∧ ((decode cX11_bring 7 = .ok (.invokestatic 187, 3) ∧ (decode cX11_bring 10 = .ok (.invokevirtual 92, 3) ∧ decode cX11_bring 13 = .ok (.ifCond .eq 5, 3))) ∧ (decode cX11_bring 16 = .ok (.iconst (-1), 1) ∧ (decode cX11_bring 17 = .ok (.ireturn, 1) ∧ decode cX11_bring 18 = .ok (.aload_n 0, 1))))) ∧ (((decode cX11_bring 19 = .ok (.getfield 53, 3) ∧ (decode cX11_bring 22 = .ok (.aload_n 0, 1) ∧ decode cX11_bring 23 = .ok (.getfield 36, 3))) ∧ (decode cX11_bring 26 = .ok (.iload_n 2, 1) ∧ (decode cX11_bring 27 = .ok (.invokevirtual 260, 3) ∧ decode cX11_bring 30 = .ok (.aload_n 0, 1)))) ∧ ((decode cX11_bring 31 = .ok (.getfield 53, 3) ∧ (decode cX11_bring 34 = .ok (.iload_n 1, 1) ∧ decode cX11_bring 35 = .ok (.aload_n 0, 1))) ∧ (decode cX11_bring 36 = .ok (.getfield 36, 3) ∧ (decode cX11_bring 39 = .ok (.invokevirtual 263, 3) ∧ decode cX11_bring 42 = .ok (.ireturn, 1)))))) := ⟨by decide +kernel, by decide +kernel⟩
def X11_bring (s : St) (a0 a1 a2 : Int) : Rs :=
  grd (isK s 21 a0) (bnd (X11_isNoHouse s a0 a1) (fun r1 s2 => bnd (X11_isNoNight s2 a2) (fun r3 s4 => grd (isK s4 21 a0) (bnd (X11_refused s4 a0 r1 r3) (fun r5 s6 => if r5 = 0 then (grd (isK s6 21 a0) (grd (isK s6 21 a0) (grd (isK s6 10 (gR s6 a0 10)) (bnd (X0_plan s6 (gR s6 a0 10) (gR s6 a0 7) a2) (fun r7 s8 => grd (isK s8 21 a0) (grd (isK s8 21 a0) (grd (isK s8 10 (gR s8 a0 10)) (bnd (X0_stepsFrom s8 (gR s8 a0 10) a1 (gR s8 a0 7)) (fun r9 s10 => some (r9, s10)))))))))) else (some ((-1), s6)))))))
set_option maxRecDepth 100000 in
set_option maxHeartbeats 4000000 in
theorem X11_bring_s (G : Gx) (l : Launch) (s : St) (a0 a1 a2 : Int) : Snd G l mX11_bring [(2, a0), (0, a1), (0, a2)] s (X11_bring s a0 a1 a2) := by
  refine Snd.of (by decide +kernel) rfl ?_
  show V G l mX11_bring 0 [(0, (2, a0)), (1, (0, a1)), (2, (0, a2))] [] s _
  unfold X11_bring
  refine V_aload_n dec_X11_bring.1.1.1.1 0 rfl ?_
  refine V_aload_n dec_X11_bring.1.1.1.2 0 rfl ?_
  refine V_iload_n dec_X11_bring.1.1.2.1 1 rfl ?_
  refine V_callV0 (ci := 11) (a := a0) (As := [(0, a1)]) (st := [(2, a0)]) rfl rfl (X11_isNoHouse_s G l s a0 a1) cal_X11_isNoHouse rfl ml_X11_175 rfl rfl dec_X11_bring.1.1.2.2.1 (k_tag (tag := 0) rfl fun r1 s2 => ?_)
  refine V_iload_n dec_X11_bring.1.1.2.2.2 2 rfl ?_
  refine V_callS0 (As := [(0, a2)]) (st := [(0, r1), (2, a0)]) (host := "") rfl (X11_isNoNight_s G l s2 a2) cal_X11_isNoNight rfl (Or.inl ml_X11_187) rfl rfl dec_X11_bring.1.2.1.1 (k_tag (tag := 0) rfl fun r3 s4 => ?_)
  refine V_callV0 (ci := 11) (a := a0) (As := [(0, r1), (0, r3)]) (st := []) rfl rfl (X11_refused_s G l s4 a0 r1 r3) cal_X11_refused rfl ml_X11_92 rfl rfl dec_X11_bring.1.2.1.2.1 (k_tag (tag := 0) rfl fun r5 s6 => ?_)
  refine V_if_eq (tgt := 18) dec_X11_bring.1.2.1.2.2 (by decide) ?_ ?_
  · refine V_aload_n dec_X11_bring.1.2.2.2.2 0 rfl ?_
    refine V_getR 11 10 nf_11_10 ft_11_10 fl_X11_53 dec_X11_bring.2.1.1.1 ?_
    refine V_aload_n dec_X11_bring.2.1.1.2.1 0 rfl ?_
    refine V_getR 11 7 nf_11_7 ft_11_7 fl_X11_36 dec_X11_bring.2.1.1.2.2 ?_
    refine V_iload_n dec_X11_bring.2.1.2.1 2 rfl ?_
    refine V_callV0 (ci := 0) (a := (gR s6 a0 10)) (As := [(2, (gR s6 a0 7)), (0, a2)]) (st := []) rfl rfl (X0_plan_s G l s6 (gR s6 a0 10) (gR s6 a0 7) a2) cal_X0_plan rfl ml_X11_260 rfl rfl dec_X11_bring.2.1.2.2.1 (k_void rfl fun r7 s8 => ?_)
    refine V_aload_n dec_X11_bring.2.1.2.2.2 0 rfl ?_
    refine V_getR 11 10 nf_11_10 ft_11_10 fl_X11_53 dec_X11_bring.2.2.1.1 ?_
    refine V_iload_n dec_X11_bring.2.2.1.2.1 1 rfl ?_
    refine V_aload_n dec_X11_bring.2.2.1.2.2 0 rfl ?_
    refine V_getR 11 7 nf_11_7 ft_11_7 fl_X11_36 dec_X11_bring.2.2.2.1 ?_
    refine V_callV0 (ci := 0) (a := (gR s8 a0 10)) (As := [(0, a1), (2, (gR s8 a0 7))]) (st := []) rfl rfl (X0_stepsFrom_s G l s8 (gR s8 a0 10) a1 (gR s8 a0 7)) cal_X0_stepsFrom rfl ml_X11_263 rfl rfl dec_X11_bring.2.2.2.2.1 (k_tag (tag := 0) rfl fun r9 s10 => ?_)
    exact V_iret rfl dec_X11_bring.2.2.2.2.2
  · refine V_iconst dec_X11_bring.1.2.2.1 rfl ?_
    exact V_iret rfl dec_X11_bring.1.2.2.2.1
theorem dec_X11_bringFrom : (((((decode cX11_bringFrom 0 = .ok (.aload_n 0, 1) ∧ decode cX11_bringFrom 1 = .ok (.aload_n 0, 1)) ∧ (decode cX11_bringFrom 2 = .ok (.invokevirtual 203, 3) ∧ (decode cX11_bringFrom 5 = .ok (.iload_n 1, 1) ∧ decode cX11_bringFrom 6 = .ok (.invokestatic 187, 3)))) ∧ ((decode cX11_bringFrom 9 = .ok (.invokevirtual 92, 3) ∧ (decode cX11_bringFrom 12 = .ok (.ifCond .eq 5, 3) ∧ decode cX11_bringFrom 15 = .ok (.iconst (-1), 1))) ∧ (decode cX11_bringFrom 16 = .ok (.ireturn, 1) ∧ (decode cX11_bringFrom 17 = .ok (.aload_n 0, 1) ∧ decode cX11_bringFrom 18 = .ok (.getfield 53, 3))))) ∧ (((decode cX11_bringFrom 21 = .ok (.aload_n 0, 1) ∧ decode cX11_bringFrom 22 = .ok (.getfield 36, 3)) ∧ (decode cX11_bringFrom 25 = .ok (.iload_n 1, 1) ∧ (decode cX11_bringFrom 26 = .ok (.invokevirtual 260, 3) ∧ decode cX11_bringFrom 29 = .ok (.iconst 0, 1)))) ∧ ((decode cX11_bringFrom 30 = .ok (.istore_n 2, 1) ∧ (decode cX11_bringFrom 31 = .ok (.ldc_w 267, 3) ∧ decode cX11_bringFrom 34 = .ok (.istore_n 3, 1))) ∧ (decode cX11_bringFrom 35 = .ok (.iconst 0, 1) ∧ (decode cX11_bringFrom 36 = .ok (.istore 4, 2) ∧ decode cX11_bringFrom 38 = .ok (.iload 4, 2)))))) ∧ ((((decode cX11_bringFrom 40 = .ok (.aload_n 0, 1) ∧ decode cX11_bringFrom 41 = .ok (.getfield 27, 3)) ∧ (decode cX11_bringFrom 44 = .ok (.getfield 228, 3) ∧ (decode cX11_bringFrom 47 = .ok (.if_icmp .ge 36, 3) ∧ decode cX11_bringFrom 50 = .ok (.aload_n 0, 1)))) ∧ ((decode cX11_bringFrom 51 = .ok (.getfield 53, 3) ∧ (decode cX11_bringFrom 54 = .ok (.iload 4, 2) ∧ decode cX11_bringFrom 56 = .ok (.aload_n 0, 1))) ∧ (decode cX11_bringFrom 57 = .ok (.getfield 36, 3) ∧ (decode cX11_bringFrom 60 = .ok (.invokevirtual 263, 3) ∧ decode cX11_bringFrom 63 = .ok (.istore 5, 2))))) ∧ (((decode cX11_bringFrom 65 = .ok (.iload 5, 2) ∧ decode cX11_bringFrom 67 = .ok (.iload_n 3, 1)) ∧ (decode cX11_bringFrom 68 = .ok (.if_icmp .ge 9, 3) ∧ (decode cX11_bringFrom 71 = .ok (.iload 5, 2) ∧ decode cX11_bringFrom 73 = .ok (.istore_n 3, 1)))) ∧ ((decode cX11_bringFrom 74 = .ok (.iload 4, 2) ∧ (decode cX11_bringFrom 76 = .ok (.istore_n 2, 1) ∧ decode cX11_bringFrom 77 = .ok (.iinc 4 1, 3))) ∧ (decode cX11_bringFrom 80 = .ok (.goto (-42), 3) ∧ (decode cX11_bringFrom 83 = .ok (.iload_n 2, 1) ∧ decode cX11_bringFrom 84 = .ok (.ireturn, 1))))))) := ⟨⟨by decide +kernel, by decide +kernel⟩, ⟨by decide +kernel, by decide +kernel⟩⟩
def X11_bringFrom_b77 (rk38 : St → Int → Int → Int → Int → Rs) (s : St) (x0 x2 x3 x4 : Int) : Rs :=
  rk38 s x0 x2 x3 (w32 (x4 + 1))
set_option maxRecDepth 100000 in
set_option maxHeartbeats 4000000 in
theorem X11_bringFrom_b77_s (G : Gx) (l : Launch) (rk38 : St → Int → Int → Int → Int → Rs) (hk38 : ∀ (s : St) (x0 x2 x3 x4 : Int), V G l mX11_bringFrom 38 [(0, (2, x0)), (2, (0, x2)), (3, (0, x3)), (4, (0, x4))] [] s (rk38 s x0 x2 x3 x4)) (s : St) (x0 x2 x3 x4 : Int) : V G l mX11_bringFrom 77 [(0, (2, x0)), (2, (0, x2)), (3, (0, x3)), (4, (0, x4))] [] s (X11_bringFrom_b77 rk38 s x0 x2 x3 x4) := by
  unfold X11_bringFrom_b77
  refine V_iinc (lv' := [(4, (0, (w32 (x4 + 1)))), (0, (2, x0)), (2, (0, x2)), (3, (0, x3))]) dec_X11_bringFrom.2.2.2.1.2.2 3 rfl (by decide) rfl ?_
  refine V_goto (tgt := 38) dec_X11_bringFrom.2.2.2.2.1 (by decide) ?_
  exact V_pick [1, 2, 3, 0] rfl (hk38 s x0 x2 x3 (w32 (x4 + 1)))
def X11_bringFrom_b38_body (rk38 : St → Int → Int → Int → Int → Rs) (s : St) (x0 x2 x3 x4 : Int) : Rs :=
  grd (isK s 21 x0) (grd (isK s 19 (gR s x0 6)) (if (gI s (gR s x0 6) 0) ≤ x4 then (some (x2, s)) else (grd (isK s 21 x0) (grd (isK s 21 x0) (grd (isK s 10 (gR s x0 10)) (bnd (X0_stepsFrom s (gR s x0 10) x4 (gR s x0 7)) (fun r9 s10 => if x3 ≤ r9 then (X11_bringFrom_b77 rk38 s10 x0 x2 x3 x4) else (X11_bringFrom_b77 rk38 s10 x0 x4 r9 x4))))))))
def X11_bringFrom_b38 (n : Nat) (s : St) (x0 x2 x3 x4 : Int) : Rs := iter (fun (rec : St × Int × Int × Int × Int → Rs) (a : St × Int × Int × Int × Int) => X11_bringFrom_b38_body (fun (s : St) (x0 x2 x3 x4 : Int) => rec (s, x0, x2, x3, x4)) a.1 a.2.1 a.2.2.1 a.2.2.2.1 a.2.2.2.2) n (s, x0, x2, x3, x4)
theorem X11_bringFrom_b38_0 (s : St) (x0 x2 x3 x4 : Int) : X11_bringFrom_b38 0 s x0 x2 x3 x4 = none := rfl
theorem X11_bringFrom_b38_1 (n : Nat) (s : St) (x0 x2 x3 x4 : Int) : X11_bringFrom_b38 (n + 1) s x0 x2 x3 x4 = X11_bringFrom_b38_body (X11_bringFrom_b38 n) s x0 x2 x3 x4 := rfl
set_option maxRecDepth 100000 in
set_option maxHeartbeats 4000000 in
theorem X11_bringFrom_b38_body_s (G : Gx) (l : Launch) (rk38 : St → Int → Int → Int → Int → Rs) (hk38 : ∀ (s : St) (x0 x2 x3 x4 : Int), V G l mX11_bringFrom 38 [(0, (2, x0)), (2, (0, x2)), (3, (0, x3)), (4, (0, x4))] [] s (rk38 s x0 x2 x3 x4)) (s : St) (x0 x2 x3 x4 : Int) : V G l mX11_bringFrom 38 [(0, (2, x0)), (2, (0, x2)), (3, (0, x3)), (4, (0, x4))] [] s (X11_bringFrom_b38_body rk38 s x0 x2 x3 x4) := by
  unfold X11_bringFrom_b38_body
  refine V_iload dec_X11_bringFrom.1.2.2.2.2.2 3 rfl ?_
  refine V_aload_n dec_X11_bringFrom.2.1.1.1.1 0 rfl ?_
  refine V_getR 11 6 nf_11_6 ft_11_6 fl_X11_27 dec_X11_bringFrom.2.1.1.1.2 ?_
  refine V_getI 9 0 nf_9_0 ft_9_0 fl_X11_228 dec_X11_bringFrom.2.1.1.2.1 ?_
  refine V_icmp_ge (tgt := 83) dec_X11_bringFrom.2.1.1.2.2.1 (by decide) ?_ ?_
  · refine V_iload_n dec_X11_bringFrom.2.2.2.2.2.1 1 rfl ?_
    exact V_iret rfl dec_X11_bringFrom.2.2.2.2.2.2
  · refine V_aload_n dec_X11_bringFrom.2.1.1.2.2.2 0 rfl ?_
    refine V_getR 11 10 nf_11_10 ft_11_10 fl_X11_53 dec_X11_bringFrom.2.1.2.1.1 ?_
    refine V_iload dec_X11_bringFrom.2.1.2.1.2.1 3 rfl ?_
    refine V_aload_n dec_X11_bringFrom.2.1.2.1.2.2 0 rfl ?_
    refine V_getR 11 7 nf_11_7 ft_11_7 fl_X11_36 dec_X11_bringFrom.2.1.2.2.1 ?_
    refine V_callV0 (ci := 0) (a := (gR s x0 10)) (As := [(0, x4), (2, (gR s x0 7))]) (st := []) rfl rfl (X0_stepsFrom_s G l s (gR s x0 10) x4 (gR s x0 7)) cal_X0_stepsFrom rfl ml_X11_263 rfl rfl dec_X11_bringFrom.2.1.2.2.2.1 (k_tag (tag := 0) rfl fun r9 s10 => ?_)
    refine V_istore (lv' := [(5, (0, r9)), (0, (2, x0)), (2, (0, x2)), (3, (0, x3)), (4, (0, x4))]) dec_X11_bringFrom.2.1.2.2.2.2 (by decide) rfl ?_
    refine V_iload dec_X11_bringFrom.2.2.1.1.1 0 rfl ?_
    refine V_iload_n dec_X11_bringFrom.2.2.1.1.2 3 rfl ?_
    refine V_icmp_ge (tgt := 77) dec_X11_bringFrom.2.2.1.2.1 (by decide) ?_ ?_
    · exact V_pick [1, 2, 3, 4] rfl (X11_bringFrom_b77_s G l rk38 hk38 s10 x0 x2 x3 x4)
    · refine V_iload dec_X11_bringFrom.2.2.1.2.2.1 0 rfl ?_
      refine V_istore_n (lv' := [(3, (0, r9)), (5, (0, r9)), (0, (2, x0)), (2, (0, x2)), (4, (0, x4))]) dec_X11_bringFrom.2.2.1.2.2.2 (by decide) rfl ?_
      refine V_iload dec_X11_bringFrom.2.2.2.1.1 4 rfl ?_
      refine V_istore_n (lv' := [(2, (0, x4)), (3, (0, r9)), (5, (0, r9)), (0, (2, x0)), (4, (0, x4))]) dec_X11_bringFrom.2.2.2.1.2.1 (by decide) rfl ?_
      exact V_pick [3, 0, 1, 4] rfl (X11_bringFrom_b77_s G l rk38 hk38 s10 x0 x4 r9 x4)
theorem X11_bringFrom_b38_s (G : Gx) (l : Launch) (n : Nat) (s : St) (x0 x2 x3 x4 : Int) : V G l mX11_bringFrom 38 [(0, (2, x0)), (2, (0, x2)), (3, (0, x3)), (4, (0, x4))] [] s (X11_bringFrom_b38 n s x0 x2 x3 x4) :=
  V_iter (LV := fun a : St × Int × Int × Int × Int => [(0, (2, a.2.1)), (2, (0, a.2.2.1)), (3, (0, a.2.2.2.1)), (4, (0, a.2.2.2.2))]) (ST := fun a : St × Int × Int × Int × Int => []) (SS := fun a : St × Int × Int × Int × Int => a.1) (fun rec hrec a => X11_bringFrom_b38_body_s G l (fun (s : St) (x0 x2 x3 x4 : Int) => rec (s, x0, x2, x3, x4)) (fun (s : St) (x0 x2 x3 x4 : Int) => hrec (s, x0, x2, x3, x4)) a.1 a.2.1 a.2.2.1 a.2.2.2.1 a.2.2.2.2) n (s, x0, x2, x3, x4)
def X11_bringFrom (s : St) (a0 a1 : Int) : Rs :=
  grd (isK s 21 a0) (bnd (X11_isNoTown s a0) (fun r1 s2 => bnd (X11_isNoNight s2 a1) (fun r3 s4 => grd (isK s4 21 a0) (bnd (X11_refused s4 a0 r1 r3) (fun r5 s6 => if r5 = 0 then (grd (isK s6 21 a0) (grd (isK s6 21 a0) (grd (isK s6 10 (gR s6 a0 10)) (bnd (X0_plan s6 (gR s6 a0 10) (gR s6 a0 7) a1) (fun r7 s8 => X11_bringFrom_b38 FU s8 a0 0 1000000 0))))) else (some ((-1), s6)))))))
set_option maxRecDepth 100000 in
set_option maxHeartbeats 4000000 in
theorem X11_bringFrom_s (G : Gx) (l : Launch) (s : St) (a0 a1 : Int) : Snd G l mX11_bringFrom [(2, a0), (0, a1)] s (X11_bringFrom s a0 a1) := by
  refine Snd.of (by decide +kernel) rfl ?_
  show V G l mX11_bringFrom 0 [(0, (2, a0)), (1, (0, a1))] [] s _
  unfold X11_bringFrom
  refine V_aload_n dec_X11_bringFrom.1.1.1.1.1 0 rfl ?_
  refine V_aload_n dec_X11_bringFrom.1.1.1.1.2 0 rfl ?_
  refine V_callV0 (ci := 11) (a := a0) (As := []) (st := [(2, a0)]) rfl rfl (X11_isNoTown_s G l s a0) cal_X11_isNoTown rfl ml_X11_203 rfl rfl dec_X11_bringFrom.1.1.1.2.1 (k_tag (tag := 0) rfl fun r1 s2 => ?_)
  refine V_iload_n dec_X11_bringFrom.1.1.1.2.2.1 1 rfl ?_
  refine V_callS0 (As := [(0, a1)]) (st := [(0, r1), (2, a0)]) (host := "") rfl (X11_isNoNight_s G l s2 a1) cal_X11_isNoNight rfl (Or.inl ml_X11_187) rfl rfl dec_X11_bringFrom.1.1.1.2.2.2 (k_tag (tag := 0) rfl fun r3 s4 => ?_)
  refine V_callV0 (ci := 11) (a := a0) (As := [(0, r1), (0, r3)]) (st := []) rfl rfl (X11_refused_s G l s4 a0 r1 r3) cal_X11_refused rfl ml_X11_92 rfl rfl dec_X11_bringFrom.1.1.2.1.1 (k_tag (tag := 0) rfl fun r5 s6 => ?_)
  refine V_if_eq (tgt := 17) dec_X11_bringFrom.1.1.2.1.2.1 (by decide) ?_ ?_
  · refine V_aload_n dec_X11_bringFrom.1.1.2.2.2.1 0 rfl ?_
    refine V_getR 11 10 nf_11_10 ft_11_10 fl_X11_53 dec_X11_bringFrom.1.1.2.2.2.2 ?_
    refine V_aload_n dec_X11_bringFrom.1.2.1.1.1 0 rfl ?_
    refine V_getR 11 7 nf_11_7 ft_11_7 fl_X11_36 dec_X11_bringFrom.1.2.1.1.2 ?_
    refine V_iload_n dec_X11_bringFrom.1.2.1.2.1 1 rfl ?_
    refine V_callV0 (ci := 0) (a := (gR s6 a0 10)) (As := [(2, (gR s6 a0 7)), (0, a1)]) (st := []) rfl rfl (X0_plan_s G l s6 (gR s6 a0 10) (gR s6 a0 7) a1) cal_X0_plan rfl ml_X11_260 rfl rfl dec_X11_bringFrom.1.2.1.2.2.1 (k_void rfl fun r7 s8 => ?_)
    refine V_iconst dec_X11_bringFrom.1.2.1.2.2.2 rfl ?_
    refine V_istore_n (lv' := [(2, (0, 0)), (0, (2, a0)), (1, (0, a1))]) dec_X11_bringFrom.1.2.2.1.1 (by decide) rfl ?_
    refine V_ldcw (n := 1000000) cw_X11_267 (by decide) dec_X11_bringFrom.1.2.2.1.2.1 ?_
    refine V_istore_n (lv' := [(3, (0, 1000000)), (2, (0, 0)), (0, (2, a0)), (1, (0, a1))]) dec_X11_bringFrom.1.2.2.1.2.2 (by decide) rfl ?_
    refine V_iconst dec_X11_bringFrom.1.2.2.2.1 rfl ?_
    refine V_istore (lv' := [(4, (0, 0)), (3, (0, 1000000)), (2, (0, 0)), (0, (2, a0)), (1, (0, a1))]) dec_X11_bringFrom.1.2.2.2.2.1 (by decide) rfl ?_
    exact V_pick [3, 2, 1, 0] rfl (X11_bringFrom_b38_s G l FU s8 a0 0 1000000 0)
  · refine V_iconst dec_X11_bringFrom.1.1.2.1.2.2 rfl ?_
    exact V_iret rfl dec_X11_bringFrom.1.1.2.2.1
theorem dec_X3_forgetOldest : (((((decode cX3_forgetOldest 0 = .ok (.aload_n 0, 1) ∧ decode cX3_forgetOldest 1 = .ok (.bipush 15, 2)) ∧ (decode cX3_forgetOldest 3 = .ok (.putfield 19, 3) ∧ (decode cX3_forgetOldest 6 = .ok (.iconst 0, 1) ∧ decode cX3_forgetOldest 7 = .ok (.istore_n 1, 1)))) ∧ ((decode cX3_forgetOldest 8 = .ok (.iload_n 1, 1) ∧ decode cX3_forgetOldest 9 = .ok (.aload_n 0, 1)) ∧ (decode cX3_forgetOldest 10 = .ok (.getfield 19, 3) ∧ (decode cX3_forgetOldest 13 = .ok (.if_icmp .ge 51, 3) ∧ decode cX3_forgetOldest 16 = .ok (.aload_n 0, 1))))) ∧ (((decode cX3_forgetOldest 17 = .ok (.getfield 9, 3) ∧ decode cX3_forgetOldest 20 = .ok (.iload_n 1, 1)) ∧ (decode cX3_forgetOldest 21 = .ok (.aload_n 0, 1) ∧ (decode cX3_forgetOldest 22 = .ok (.getfield 9, 3) ∧ decode cX3_forgetOldest 25 = .ok (.iload_n 1, 1)))) ∧ ((decode cX3_forgetOldest 26 = .ok (.iconst 1, 1) ∧ (decode cX3_forgetOldest 27 = .ok (.iadd, 1) ∧ decode cX3_forgetOldest 28 = .ok (.iaload, 1))) ∧ (decode cX3_forgetOldest 29 = .ok (.iastore, 1) ∧ (decode cX3_forgetOldest 30 = .ok (.aload_n 0, 1) ∧ decode cX3_forgetOldest 31 = .ok (.getfield 13, 3)))))) ∧ ((((decode cX3_forgetOldest 34 = .ok (.iload_n 1, 1) ∧ decode cX3_forgetOldest 35 = .ok (.aload_n 0, 1)) ∧ (decode cX3_forgetOldest 36 = .ok (.getfield 13, 3) ∧ (decode cX3_forgetOldest 39 = .ok (.iload_n 1, 1) ∧ decode cX3_forgetOldest 40 = .ok (.iconst 1, 1)))) ∧ ((decode cX3_forgetOldest 41 = .ok (.iadd, 1) ∧ decode cX3_forgetOldest 42 = .ok (.iaload, 1)) ∧ (decode cX3_forgetOldest 43 = .ok (.iastore, 1) ∧ (decode cX3_forgetOldest 44 = .ok (.aload_n 0, 1) ∧ decode cX3_forgetOldest 45 = .ok (.getfield 16, 3))))) ∧ (((decode cX3_forgetOldest 48 = .ok (.iload_n 1, 1) ∧ decode cX3_forgetOldest 49 = .ok (.aload_n 0, 1)) ∧ (decode cX3_forgetOldest 50 = .ok (.getfield 16, 3) ∧ (decode cX3_forgetOldest 53 = .ok (.iload_n 1, 1) ∧ decode cX3_forgetOldest 54 = .ok (.iconst 1, 1)))) ∧ ((decode cX3_forgetOldest 55 = .ok (.iadd, 1) ∧ (decode cX3_forgetOldest 56 = .ok (.iaload, 1) ∧ decode cX3_forgetOldest 57 = .ok (.iastore, 1))) ∧ (decode cX3_forgetOldest 58 = .ok (.iinc 1 1, 3) ∧ (decode cX3_forgetOldest 61 = .ok (.goto (-53), 3) ∧ decode cX3_forgetOldest 64 = .ok (.return_, 1))))))) := ⟨⟨by decide +kernel, by decide +kernel⟩, ⟨by decide +kernel, by decide +kernel⟩⟩
def X3_forgetOldest_b8_body (rk8 : St → Int → Int → Rs) (s : St) (x0 x1 : Int) : Rs :=
  grd (isK s 13 x0) (if (gI s x0 0) ≤ x1 then (some (0, s)) else (grd (isK s 13 x0) (grd (isK s 13 x0) (grd (isK s 1 (gR s x0 1) ∧ 0 ≤ (w32 (x1 + 1)) ∧ (w32 (x1 + 1)) < ln s (gR s x0 1)) (grd (isK s 1 (gR s x0 1) ∧ 0 ≤ x1 ∧ x1 < ln s (gR s x0 1)) (lets (pI s (gR s x0 1) x1.toNat (gI s (gR s x0 1) (w32 (x1 + 1)).toNat)) (fun s2 => grd (isK s2 13 x0) (grd (isK s2 13 x0) (grd (isK s2 1 (gR s2 x0 2) ∧ 0 ≤ (w32 (x1 + 1)) ∧ (w32 (x1 + 1)) < ln s2 (gR s2 x0 2)) (grd (isK s2 1 (gR s2 x0 2) ∧ 0 ≤ x1 ∧ x1 < ln s2 (gR s2 x0 2)) (lets (pI s2 (gR s2 x0 2) x1.toNat (gI s2 (gR s2 x0 2) (w32 (x1 + 1)).toNat)) (fun s3 => grd (isK s3 13 x0) (grd (isK s3 13 x0) (grd (isK s3 1 (gR s3 x0 3) ∧ 0 ≤ (w32 (x1 + 1)) ∧ (w32 (x1 + 1)) < ln s3 (gR s3 x0 3)) (grd (isK s3 1 (gR s3 x0 3) ∧ 0 ≤ x1 ∧ x1 < ln s3 (gR s3 x0 3)) (lets (pI s3 (gR s3 x0 3) x1.toNat (gI s3 (gR s3 x0 3) (w32 (x1 + 1)).toNat)) (fun s4 => rk8 s4 x0 (w32 (x1 + 1)))))))))))))))))))
def X3_forgetOldest_b8 (n : Nat) (s : St) (x0 x1 : Int) : Rs := iter (fun (rec : St × Int × Int → Rs) (a : St × Int × Int) => X3_forgetOldest_b8_body (fun (s : St) (x0 x1 : Int) => rec (s, x0, x1)) a.1 a.2.1 a.2.2) n (s, x0, x1)
theorem X3_forgetOldest_b8_0 (s : St) (x0 x1 : Int) : X3_forgetOldest_b8 0 s x0 x1 = none := rfl
theorem X3_forgetOldest_b8_1 (n : Nat) (s : St) (x0 x1 : Int) : X3_forgetOldest_b8 (n + 1) s x0 x1 = X3_forgetOldest_b8_body (X3_forgetOldest_b8 n) s x0 x1 := rfl
set_option maxRecDepth 100000 in
set_option maxHeartbeats 4000000 in
theorem X3_forgetOldest_b8_body_s (G : Gx) (l : Launch) (rk8 : St → Int → Int → Rs) (hk8 : ∀ (s : St) (x0 x1 : Int), V G l mX3_forgetOldest 8 [(0, (2, x0)), (1, (0, x1))] [] s (rk8 s x0 x1)) (s : St) (x0 x1 : Int) : V G l mX3_forgetOldest 8 [(0, (2, x0)), (1, (0, x1))] [] s (X3_forgetOldest_b8_body rk8 s x0 x1) := by
  unfold X3_forgetOldest_b8_body
  refine V_iload_n dec_X3_forgetOldest.1.1.2.1.1 1 rfl ?_
  refine V_aload_n dec_X3_forgetOldest.1.1.2.1.2 0 rfl ?_
  refine V_getI 3 0 nf_3_0 ft_3_0 fl_X3_19 dec_X3_forgetOldest.1.1.2.2.1 ?_
  refine V_icmp_ge (tgt := 64) dec_X3_forgetOldest.1.1.2.2.2.1 (by decide) ?_ ?_
  · exact V_vret rfl dec_X3_forgetOldest.2.2.2.2.2.2
  · refine V_aload_n dec_X3_forgetOldest.1.1.2.2.2.2 0 rfl ?_
    refine V_getR 3 1 nf_3_1 ft_3_1 fl_X3_9 dec_X3_forgetOldest.1.2.1.1.1 ?_
    refine V_iload_n dec_X3_forgetOldest.1.2.1.1.2 1 rfl ?_
    refine V_aload_n dec_X3_forgetOldest.1.2.1.2.1 0 rfl ?_
    refine V_getR 3 1 nf_3_1 ft_3_1 fl_X3_9 dec_X3_forgetOldest.1.2.1.2.2.1 ?_
    refine V_iload_n dec_X3_forgetOldest.1.2.1.2.2.2 1 rfl ?_
    refine V_iconst dec_X3_forgetOldest.1.2.2.1.1 rfl ?_
    refine V_iadd dec_X3_forgetOldest.1.2.2.1.2.1 ?_
    refine V_iald dec_X3_forgetOldest.1.2.2.1.2.2 ?_
    refine V_iast dec_X3_forgetOldest.1.2.2.2.1 ?_
    refine V_lets fun s2 => ?_
    refine V_aload_n dec_X3_forgetOldest.1.2.2.2.2.1 0 rfl ?_
    refine V_getR 3 2 nf_3_2 ft_3_2 fl_X3_13 dec_X3_forgetOldest.1.2.2.2.2.2 ?_
    refine V_iload_n dec_X3_forgetOldest.2.1.1.1.1 1 rfl ?_
    refine V_aload_n dec_X3_forgetOldest.2.1.1.1.2 0 rfl ?_
    refine V_getR 3 2 nf_3_2 ft_3_2 fl_X3_13 dec_X3_forgetOldest.2.1.1.2.1 ?_
    refine V_iload_n dec_X3_forgetOldest.2.1.1.2.2.1 1 rfl ?_
    refine V_iconst dec_X3_forgetOldest.2.1.1.2.2.2 rfl ?_
    refine V_iadd dec_X3_forgetOldest.2.1.2.1.1 ?_
    refine V_iald dec_X3_forgetOldest.2.1.2.1.2 ?_
    refine V_iast dec_X3_forgetOldest.2.1.2.2.1 ?_
    refine V_lets fun s3 => ?_
    refine V_aload_n dec_X3_forgetOldest.2.1.2.2.2.1 0 rfl ?_
    refine V_getR 3 3 nf_3_3 ft_3_3 fl_X3_16 dec_X3_forgetOldest.2.1.2.2.2.2 ?_
    refine V_iload_n dec_X3_forgetOldest.2.2.1.1.1 1 rfl ?_
    refine V_aload_n dec_X3_forgetOldest.2.2.1.1.2 0 rfl ?_
    refine V_getR 3 3 nf_3_3 ft_3_3 fl_X3_16 dec_X3_forgetOldest.2.2.1.2.1 ?_
    refine V_iload_n dec_X3_forgetOldest.2.2.1.2.2.1 1 rfl ?_
    refine V_iconst dec_X3_forgetOldest.2.2.1.2.2.2 rfl ?_
    refine V_iadd dec_X3_forgetOldest.2.2.2.1.1 ?_
    refine V_iald dec_X3_forgetOldest.2.2.2.1.2.1 ?_
    refine V_iast dec_X3_forgetOldest.2.2.2.1.2.2 ?_
    refine V_lets fun s4 => ?_
    refine V_iinc (lv' := [(1, (0, (w32 (x1 + 1)))), (0, (2, x0))]) dec_X3_forgetOldest.2.2.2.2.1 1 rfl (by decide) rfl ?_
    refine V_goto (tgt := 8) dec_X3_forgetOldest.2.2.2.2.2.1 (by decide) ?_
    exact V_pick [1, 0] rfl (hk8 s4 x0 (w32 (x1 + 1)))
theorem X3_forgetOldest_b8_s (G : Gx) (l : Launch) (n : Nat) (s : St) (x0 x1 : Int) : V G l mX3_forgetOldest 8 [(0, (2, x0)), (1, (0, x1))] [] s (X3_forgetOldest_b8 n s x0 x1) :=
  V_iter (LV := fun a : St × Int × Int => [(0, (2, a.2.1)), (1, (0, a.2.2))]) (ST := fun a : St × Int × Int => []) (SS := fun a : St × Int × Int => a.1) (fun rec hrec a => X3_forgetOldest_b8_body_s G l (fun (s : St) (x0 x1 : Int) => rec (s, x0, x1)) (fun (s : St) (x0 x1 : Int) => hrec (s, x0, x1)) a.1 a.2.1 a.2.2) n (s, x0, x1)
def X3_forgetOldest (s : St) (a0 : Int) : Rs :=
  grd (isK s 13 a0) (lets (pI s a0 0 15) (fun s1 => X3_forgetOldest_b8 FU s1 a0 0))
set_option maxRecDepth 100000 in
set_option maxHeartbeats 4000000 in
theorem X3_forgetOldest_s (G : Gx) (l : Launch) (s : St) (a0 : Int) : Snd G l mX3_forgetOldest [(2, a0)] s (X3_forgetOldest s a0) := by
  refine Snd.of (by decide +kernel) rfl ?_
  show V G l mX3_forgetOldest 0 [(0, (2, a0))] [] s _
  unfold X3_forgetOldest
  refine V_aload_n dec_X3_forgetOldest.1.1.1.1.1 0 rfl ?_
  refine V_bipush dec_X3_forgetOldest.1.1.1.1.2 rfl ?_
  refine V_putI (host := "") 3 0 nf_3_0 ty_3_0 (Or.inl ⟨fl_X3_19, Or.inl rfl⟩) dec_X3_forgetOldest.1.1.1.2.1 ?_
  refine V_lets fun s1 => ?_
  refine V_iconst dec_X3_forgetOldest.1.1.1.2.2.1 rfl ?_
  refine V_istore_n (lv' := [(1, (0, 0)), (0, (2, a0))]) dec_X3_forgetOldest.1.1.1.2.2.2 (by decide) rfl ?_
  exact V_pick [1, 0] rfl (X3_forgetOldest_b8_s G l FU s1 a0 0)
theorem dec_X3_keep : ((((decode cX3_keep 0 = .ok (.aload_n 0, 1) ∧ (decode cX3_keep 1 = .ok (.getfield 19, 3) ∧ decode cX3_keep 4 = .ok (.bipush 16, 2))) ∧ ((decode cX3_keep 6 = .ok (.if_icmp .lt 7, 3) ∧ decode cX3_keep 9 = .ok (.aload_n 0, 1)) ∧ (decode cX3_keep 10 = .ok (.invokevirtual 23, 3) ∧ decode cX3_keep 13 = .ok (.aload_n 0, 1)))) ∧ (((decode cX3_keep 14 = .ok (.getfield 9, 3) ∧ decode cX3_keep 17 = .ok (.aload_n 0, 1)) ∧ (decode cX3_keep 18 = .ok (.getfield 19, 3) ∧ decode cX3_keep 21 = .ok (.iload_n 1, 1))) ∧ ((decode cX3_keep 22 = .ok (.iastore, 1) ∧ decode cX3_keep 23 = .ok (.aload_n 0, 1)) ∧ (decode cX3_keep 24 = .ok (.getfield 13, 3) ∧ decode cX3_keep 27 = .ok (.aload_n 0, 1))))) ∧ ((((decode cX3_keep 28 = .ok (.getfield 19, 3) ∧ decode cX3_keep 31 = .ok (.iload_n 2, 1)) ∧ (decode cX3_keep 32 = .ok (.iastore, 1) ∧ decode cX3_keep 33 = .ok (.aload_n 0, 1))) ∧ ((decode cX3_keep 34 = .ok (.getfield 16, 3) ∧ decode cX3_keep 37 = .ok (.aload_n 0, 1)) ∧ (decode cX3_keep 38 = .ok (.getfield 19, 3) ∧ decode cX3_keep 41 = .ok (.iload_n 3, 1)))) ∧ (((decode cX3_keep 42 = .ok (.iastore, 1) ∧ decode cX3_keep 43 = .ok (.aload_n 0, 1)) ∧ (decode cX3_keep 44 = .ok (.dup, 1) ∧ decode cX3_keep 45 = .ok (.getfield 19, 3))) ∧ ((decode cX3_keep 48 = .ok (.iconst 1, 1) ∧ decode cX3_keep 49 = .ok (.iadd, 1)) ∧ (decode cX3_keep 50 = .ok (.putfield 19, 3) ∧ decode cX3_keep 53 = .ok (.return_, 1)))))) := ⟨⟨by decide +kernel, by decide +kernel⟩, ⟨by decide +kernel, by decide +kernel⟩⟩
def X3_keep_b13 (s : St) (x0 x1 x2 x3 : Int) : Rs :=
  grd (isK s 13 x0) (grd (isK s 13 x0) (grd (isK s 1 (gR s x0 1) ∧ 0 ≤ (gI s x0 0) ∧ (gI s x0 0) < ln s (gR s x0 1)) (lets (pI s (gR s x0 1) (gI s x0 0).toNat x1) (fun s1 => grd (isK s1 13 x0) (grd (isK s1 13 x0) (grd (isK s1 1 (gR s1 x0 2) ∧ 0 ≤ (gI s1 x0 0) ∧ (gI s1 x0 0) < ln s1 (gR s1 x0 2)) (lets (pI s1 (gR s1 x0 2) (gI s1 x0 0).toNat x2) (fun s2 => grd (isK s2 13 x0) (grd (isK s2 13 x0) (grd (isK s2 1 (gR s2 x0 3) ∧ 0 ≤ (gI s2 x0 0) ∧ (gI s2 x0 0) < ln s2 (gR s2 x0 3)) (lets (pI s2 (gR s2 x0 3) (gI s2 x0 0).toNat x3) (fun s3 => grd (isK s3 13 x0) (grd (isK s3 13 x0) (lets (pI s3 x0 0 (w32 ((gI s3 x0 0) + 1))) (fun s4 => some (0, s4))))))))))))))))
set_option maxRecDepth 100000 in
set_option maxHeartbeats 4000000 in
theorem X3_keep_b13_s (G : Gx) (l : Launch) (s : St) (x0 x1 x2 x3 : Int) : V G l mX3_keep 13 [(0, (2, x0)), (1, (0, x1)), (2, (0, x2)), (3, (0, x3))] [] s (X3_keep_b13 s x0 x1 x2 x3) := by
  unfold X3_keep_b13
  refine V_aload_n dec_X3_keep.1.1.2.2.2 0 rfl ?_
  refine V_getR 3 1 nf_3_1 ft_3_1 fl_X3_9 dec_X3_keep.1.2.1.1.1 ?_
  refine V_aload_n dec_X3_keep.1.2.1.1.2 0 rfl ?_
  refine V_getI 3 0 nf_3_0 ft_3_0 fl_X3_19 dec_X3_keep.1.2.1.2.1 ?_
  refine V_iload_n dec_X3_keep.1.2.1.2.2 1 rfl ?_
  refine V_iast dec_X3_keep.1.2.2.1.1 ?_
  refine V_lets fun s1 => ?_
  refine V_aload_n dec_X3_keep.1.2.2.1.2 0 rfl ?_
  refine V_getR 3 2 nf_3_2 ft_3_2 fl_X3_13 dec_X3_keep.1.2.2.2.1 ?_
  refine V_aload_n dec_X3_keep.1.2.2.2.2 0 rfl ?_
  refine V_getI 3 0 nf_3_0 ft_3_0 fl_X3_19 dec_X3_keep.2.1.1.1.1 ?_
  refine V_iload_n dec_X3_keep.2.1.1.1.2 2 rfl ?_
  refine V_iast dec_X3_keep.2.1.1.2.1 ?_
  refine V_lets fun s2 => ?_
  refine V_aload_n dec_X3_keep.2.1.1.2.2 0 rfl ?_
  refine V_getR 3 3 nf_3_3 ft_3_3 fl_X3_16 dec_X3_keep.2.1.2.1.1 ?_
  refine V_aload_n dec_X3_keep.2.1.2.1.2 0 rfl ?_
  refine V_getI 3 0 nf_3_0 ft_3_0 fl_X3_19 dec_X3_keep.2.1.2.2.1 ?_
  refine V_iload_n dec_X3_keep.2.1.2.2.2 3 rfl ?_
  refine V_iast dec_X3_keep.2.2.1.1.1 ?_
  refine V_lets fun s3 => ?_
  refine V_aload_n dec_X3_keep.2.2.1.1.2 0 rfl ?_
  refine V_dup (nl2 _) dec_X3_keep.2.2.1.2.1 ?_
  refine V_getI 3 0 nf_3_0 ft_3_0 fl_X3_19 dec_X3_keep.2.2.1.2.2 ?_
  refine V_iconst dec_X3_keep.2.2.2.1.1 rfl ?_
  refine V_iadd dec_X3_keep.2.2.2.1.2 ?_
  refine V_putI (host := "") 3 0 nf_3_0 ty_3_0 (Or.inl ⟨fl_X3_19, Or.inl rfl⟩) dec_X3_keep.2.2.2.2.1 ?_
  refine V_lets fun s4 => ?_
  exact V_vret rfl dec_X3_keep.2.2.2.2.2
def X3_keep (s : St) (a0 a1 a2 a3 : Int) : Rs :=
  grd (isK s 13 a0) (if (gI s a0 0) < (16 : Int) then (X3_keep_b13 s a0 a1 a2 a3) else (grd (isK s 13 a0) (bnd (X3_forgetOldest s a0) (fun r5 s6 => X3_keep_b13 s6 a0 a1 a2 a3))))
set_option maxRecDepth 100000 in
set_option maxHeartbeats 4000000 in
theorem X3_keep_s (G : Gx) (l : Launch) (s : St) (a0 a1 a2 a3 : Int) : Snd G l mX3_keep [(2, a0), (0, a1), (0, a2), (0, a3)] s (X3_keep s a0 a1 a2 a3) := by
  refine Snd.of (by decide +kernel) rfl ?_
  show V G l mX3_keep 0 [(0, (2, a0)), (1, (0, a1)), (2, (0, a2)), (3, (0, a3))] [] s _
  unfold X3_keep
  refine V_aload_n dec_X3_keep.1.1.1.1 0 rfl ?_
  refine V_getI 3 0 nf_3_0 ft_3_0 fl_X3_19 dec_X3_keep.1.1.1.2.1 ?_
  refine V_bipush dec_X3_keep.1.1.1.2.2 rfl ?_
  refine V_icmp_lt (tgt := 13) dec_X3_keep.1.1.2.1.1 (by decide) ?_ ?_
  · exact V_pick [0, 1, 2, 3] rfl (X3_keep_b13_s G l s a0 a1 a2 a3)
  · refine V_aload_n dec_X3_keep.1.1.2.1.2 0 rfl ?_
    refine V_callV0 (ci := 3) (a := a0) (As := []) (st := []) rfl rfl (X3_forgetOldest_s G l s a0) cal_X3_forgetOldest rfl ml_X3_23 rfl rfl dec_X3_keep.1.1.2.2.1 (k_void rfl fun r5 s6 => ?_)
    exact V_pick [0, 1, 2, 3] rfl (X3_keep_b13_s G l s6 a0 a1 a2 a3)
theorem dec_X11_changeMirror : ((((decode cX11_changeMirror 0 = .ok (.aload_n 0, 1) ∧ (decode cX11_changeMirror 1 = .ok (.getfield 36, 3) ∧ decode cX11_changeMirror 4 = .ok (.getfield 143, 3))) ∧ ((decode cX11_changeMirror 7 = .ok (.getfield 172, 3) ∧ decode cX11_changeMirror 10 = .ok (.iload_n 1, 1)) ∧ (decode cX11_changeMirror 11 = .ok (.iaload, 1) ∧ decode cX11_changeMirror 12 = .ok (.istore_n 3, 1)))) ∧ (((decode cX11_changeMirror 13 = .ok (.iload_n 3, 1) ∧ decode cX11_changeMirror 14 = .ok (.iload_n 2, 1)) ∧ (decode cX11_changeMirror 15 = .ok (.if_icmp .ne 10, 3) ∧ decode cX11_changeMirror 18 = .ok (.aload_n 0, 1))) ∧ ((decode cX11_changeMirror 19 = .ok (.iconst 5, 1) ∧ decode cX11_changeMirror 20 = .ok (.putfield 136, 3)) ∧ (decode cX11_changeMirror 23 = .ok (.iconst 0, 1) ∧ decode cX11_changeMirror 24 = .ok (.ireturn, 1))))) ∧ (((decode cX11_changeMirror 25 = .ok (.aload_n 0, 1) ∧ (decode cX11_changeMirror 26 = .ok (.getfield 74, 3) ∧ decode cX11_changeMirror 29 = .ok (.iconst 2, 1))) ∧ ((decode cX11_changeMirror 30 = .ok (.iload_n 1, 1) ∧ decode cX11_changeMirror 31 = .ok (.iload_n 3, 1)) ∧ (decode cX11_changeMirror 32 = .ok (.invokevirtual 347, 3) ∧ decode cX11_changeMirror 35 = .ok (.aload_n 0, 1)))) ∧ (((decode cX11_changeMirror 36 = .ok (.getfield 36, 3) ∧ decode cX11_changeMirror 39 = .ok (.getfield 143, 3)) ∧ (decode cX11_changeMirror 42 = .ok (.getfield 172, 3) ∧ decode cX11_changeMirror 45 = .ok (.iload_n 1, 1))) ∧ ((decode cX11_changeMirror 46 = .ok (.iload_n 2, 1) ∧ decode cX11_changeMirror 47 = .ok (.iastore, 1)) ∧ (decode cX11_changeMirror 48 = .ok (.iconst 1, 1) ∧ decode cX11_changeMirror 49 = .ok (.ireturn, 1)))))) := ⟨⟨by decide +kernel, by decide +kernel⟩, ⟨by decide +kernel, by decide +kernel⟩⟩
def X11_changeMirror (s : St) (a0 a1 a2 : Int) : Rs :=
  grd (isK s 21 a0) (grd (isK s 20 (gR s a0 7)) (grd (isK s 16 (gR s (gR s a0 7) 1)) (grd (isK s 1 (gR s (gR s (gR s a0 7) 1) 3) ∧ 0 ≤ a1 ∧ a1 < ln s (gR s (gR s (gR s a0 7) 1) 3)) (letv (gI s (gR s (gR s (gR s a0 7) 1) 3) a1.toNat) (fun y1 => if ¬ y1 = a2 then (grd (isK s 21 a0) (grd (isK s 13 (gR s a0 13)) (bnd (X3_keep s (gR s a0 13) 2 a1 y1) (fun r2 s3 => grd (isK s3 21 a0) (grd (isK s3 20 (gR s3 a0 7)) (grd (isK s3 16 (gR s3 (gR s3 a0 7) 1)) (grd (isK s3 1 (gR s3 (gR s3 (gR s3 a0 7) 1) 3) ∧ 0 ≤ a1 ∧ a1 < ln s3 (gR s3 (gR s3 (gR s3 a0 7) 1) 3)) (lets (pI s3 (gR s3 (gR s3 (gR s3 a0 7) 1) 3) a1.toNat a2) (fun s4 => grd ((1 : Int) = 0 ∨ (1 : Int) = 1) (some (1, s4))))))))))) else (grd (isK s 21 a0) (lets (pI s a0 2 5) (fun s5 => grd ((0 : Int) = 0 ∨ (0 : Int) = 1) (some (0, s5))))))))))
set_option maxRecDepth 100000 in
set_option maxHeartbeats 4000000 in
theorem X11_changeMirror_s (G : Gx) (l : Launch) (s : St) (a0 a1 a2 : Int) : Snd G l mX11_changeMirror [(2, a0), (0, a1), (0, a2)] s (X11_changeMirror s a0 a1 a2) := by
  refine Snd.of (by decide +kernel) rfl ?_
  show V G l mX11_changeMirror 0 [(0, (2, a0)), (1, (0, a1)), (2, (0, a2))] [] s _
  unfold X11_changeMirror
  refine V_aload_n dec_X11_changeMirror.1.1.1.1 0 rfl ?_
  refine V_getR 11 7 nf_11_7 ft_11_7 fl_X11_36 dec_X11_changeMirror.1.1.1.2.1 ?_
  refine V_getR 10 1 nf_10_1 ft_10_1 fl_X11_143 dec_X11_changeMirror.1.1.1.2.2 ?_
  refine V_getR 6 3 nf_6_3 ft_6_3 fl_X11_172 dec_X11_changeMirror.1.1.2.1.1 ?_
  refine V_iload_n dec_X11_changeMirror.1.1.2.1.2 1 rfl ?_
  refine V_iald dec_X11_changeMirror.1.1.2.2.1 ?_
  refine V_letv fun y1 => ?_
  refine V_istore_n (lv' := [(3, (0, y1)), (0, (2, a0)), (1, (0, a1)), (2, (0, a2))]) dec_X11_changeMirror.1.1.2.2.2 (by decide) rfl ?_
  refine V_iload_n dec_X11_changeMirror.1.2.1.1.1 0 rfl ?_
  refine V_iload_n dec_X11_changeMirror.1.2.1.1.2 3 rfl ?_
  refine V_icmp_ne (tgt := 25) dec_X11_changeMirror.1.2.1.2.1 (by decide) ?_ ?_
  · refine V_aload_n dec_X11_changeMirror.2.1.1.1 1 rfl ?_
    refine V_getR 11 13 nf_11_13 ft_11_13 fl_X11_74 dec_X11_changeMirror.2.1.1.2.1 ?_
    refine V_iconst dec_X11_changeMirror.2.1.1.2.2 rfl ?_
    refine V_iload_n dec_X11_changeMirror.2.1.2.1.1 2 rfl ?_
    refine V_iload_n dec_X11_changeMirror.2.1.2.1.2 0 rfl ?_
    refine V_callV0 (ci := 3) (a := (gR s a0 13)) (As := [(0, 2), (0, a1), (0, y1)]) (st := []) rfl rfl (X3_keep_s G l s (gR s a0 13) 2 a1 y1) cal_X3_keep rfl ml_X11_347 rfl rfl dec_X11_changeMirror.2.1.2.2.1 (k_void rfl fun r2 s3 => ?_)
    refine V_aload_n dec_X11_changeMirror.2.1.2.2.2 1 rfl ?_
    refine V_getR 11 7 nf_11_7 ft_11_7 fl_X11_36 dec_X11_changeMirror.2.2.1.1.1 ?_
    refine V_getR 10 1 nf_10_1 ft_10_1 fl_X11_143 dec_X11_changeMirror.2.2.1.1.2 ?_
    refine V_getR 6 3 nf_6_3 ft_6_3 fl_X11_172 dec_X11_changeMirror.2.2.1.2.1 ?_
    refine V_iload_n dec_X11_changeMirror.2.2.1.2.2 2 rfl ?_
    refine V_iload_n dec_X11_changeMirror.2.2.2.1.1 3 rfl ?_
    refine V_iast dec_X11_changeMirror.2.2.2.1.2 ?_
    refine V_lets fun s4 => ?_
    refine V_iconst dec_X11_changeMirror.2.2.2.2.1 rfl ?_
    exact V_zret rfl dec_X11_changeMirror.2.2.2.2.2
  · refine V_aload_n dec_X11_changeMirror.1.2.1.2.2 1 rfl ?_
    refine V_iconst dec_X11_changeMirror.1.2.2.1.1 rfl ?_
    refine V_putI (host := "") 11 2 nf_11_2 ty_11_2 (Or.inl ⟨fl_X11_136, Or.inl rfl⟩) dec_X11_changeMirror.1.2.2.1.2 ?_
    refine V_lets fun s5 => ?_
    refine V_iconst dec_X11_changeMirror.1.2.2.2.1 rfl ?_
    exact V_zret rfl dec_X11_changeMirror.1.2.2.2.2
theorem dec_X11_gain : ((((decode cX11_gain 0 = .ok (.iload_n 0, 1) ∧ decode cX11_gain 1 = .ok (.ifCond .eq 13, 3)) ∧ (decode cX11_gain 4 = .ok (.iload_n 1, 1) ∧ decode cX11_gain 5 = .ok (.ifCond .eq 7, 3))) ∧ ((decode cX11_gain 8 = .ok (.iconst 0, 1) ∧ decode cX11_gain 9 = .ok (.goto 4, 3)) ∧ (decode cX11_gain 12 = .ok (.iconst 3, 1) ∧ decode cX11_gain 13 = .ok (.ireturn, 1)))) ∧ (((decode cX11_gain 14 = .ok (.iload_n 1, 1) ∧ decode cX11_gain 15 = .ok (.ifCond .eq 9, 3)) ∧ (decode cX11_gain 18 = .ok (.iconst 2, 1) ∧ decode cX11_gain 19 = .ok (.iload_n 2, 1))) ∧ ((decode cX11_gain 20 = .ok (.isub, 1) ∧ decode cX11_gain 21 = .ok (.goto 4, 3)) ∧ (decode cX11_gain 24 = .ok (.iconst 1, 1) ∧ decode cX11_gain 25 = .ok (.ireturn, 1))))) := ⟨by decide +kernel, by decide +kernel⟩
def X11_gain_b25 (s : St) (k0 : Int) : Rs :=
  some (k0, s)
set_option maxRecDepth 100000 in
set_option maxHeartbeats 4000000 in
theorem X11_gain_b25_s (G : Gx) (l : Launch) (s : St) (k0 : Int) : V G l mX11_gain 25 [] [(0, k0)] s (X11_gain_b25 s k0) := by
  unfold X11_gain_b25
  exact V_iret rfl dec_X11_gain.2.2.2.2
def X11_gain_b13 (s : St) (k0 : Int) : Rs :=
  some (k0, s)
set_option maxRecDepth 100000 in
set_option maxHeartbeats 4000000 in
theorem X11_gain_b13_s (G : Gx) (l : Launch) (s : St) (k0 : Int) : V G l mX11_gain 13 [] [(0, k0)] s (X11_gain_b13 s k0) := by
  unfold X11_gain_b13
  exact V_iret rfl dec_X11_gain.1.2.2.2
def X11_gain (s : St) (a0 a1 a2 : Int) : Rs :=
  if a0 = 0 then (if a1 = 0 then (X11_gain_b25 s 1) else (X11_gain_b25 s (w32 (2 - a2)))) else (if a1 = 0 then (X11_gain_b13 s 3) else (X11_gain_b13 s 0))
set_option maxRecDepth 100000 in
set_option maxHeartbeats 4000000 in
theorem X11_gain_s (G : Gx) (l : Launch) (s : St) (a0 a1 a2 : Int) : Snd G l mX11_gain [(0, a0), (0, a1), (0, a2)] s (X11_gain s a0 a1 a2) := by
  refine Snd.of (by decide +kernel) rfl ?_
  show V G l mX11_gain 0 [(0, (0, a0)), (1, (0, a1)), (2, (0, a2))] [] s _
  unfold X11_gain
  refine V_iload_n dec_X11_gain.1.1.1.1 0 rfl ?_
  refine V_if_eq (tgt := 14) dec_X11_gain.1.1.1.2 (by decide) ?_ ?_
  · refine V_iload_n dec_X11_gain.2.1.1.1 1 rfl ?_
    refine V_if_eq (tgt := 24) dec_X11_gain.2.1.1.2 (by decide) ?_ ?_
    · refine V_iconst dec_X11_gain.2.2.2.1 rfl ?_
      exact V_pick [] rfl (X11_gain_b25_s G l s 1)
    · refine V_iconst dec_X11_gain.2.1.2.1 rfl ?_
      refine V_iload_n dec_X11_gain.2.1.2.2 2 rfl ?_
      refine V_isub dec_X11_gain.2.2.1.1 ?_
      refine V_goto (tgt := 25) dec_X11_gain.2.2.1.2 (by decide) ?_
      exact V_pick [] rfl (X11_gain_b25_s G l s (w32 (2 - a2)))
  · refine V_iload_n dec_X11_gain.1.1.2.1 1 rfl ?_
    refine V_if_eq (tgt := 12) dec_X11_gain.1.1.2.2 (by decide) ?_ ?_
    · refine V_iconst dec_X11_gain.1.2.2.1 rfl ?_
      exact V_pick [] rfl (X11_gain_b13_s G l s 3)
    · refine V_iconst dec_X11_gain.1.2.1.1 rfl ?_
      refine V_goto (tgt := 13) dec_X11_gain.1.2.1.2 (by decide) ?_
      exact V_pick [] rfl (X11_gain_b13_s G l s 0)
theorem dec_X11_isNoSoot : (((decode cX11_isNoSoot 0 = .ok (.iload_n 0, 1) ∧ decode cX11_isNoSoot 1 = .ok (.ifCond .lt 9, 3)) ∧ (decode cX11_isNoSoot 4 = .ok (.iload_n 0, 1) ∧ decode cX11_isNoSoot 5 = .ok (.bipush 9, 2))) ∧ ((decode cX11_isNoSoot 7 = .ok (.if_icmp .le 7, 3) ∧ decode cX11_isNoSoot 10 = .ok (.iconst 1, 1)) ∧ (decode cX11_isNoSoot 11 = .ok (.goto 4, 3) ∧ (decode cX11_isNoSoot 14 = .ok (.iconst 0, 1) ∧ decode cX11_isNoSoot 15 = .ok (.ireturn, 1))))) := by decide +kernel
def X11_isNoSoot_b15 (s : St) (k0 : Int) : Rs :=
  grd (k0 = 0 ∨ k0 = 1) (some (k0, s))
set_option maxRecDepth 100000 in
set_option maxHeartbeats 4000000 in
theorem X11_isNoSoot_b15_s (G : Gx) (l : Launch) (s : St) (k0 : Int) : V G l mX11_isNoSoot 15 [] [(0, k0)] s (X11_isNoSoot_b15 s k0) := by
  unfold X11_isNoSoot_b15
  exact V_zret rfl dec_X11_isNoSoot.2.2.2.2
def X11_isNoSoot_b10 (s : St) : Rs :=
  X11_isNoSoot_b15 s 1
set_option maxRecDepth 100000 in
set_option maxHeartbeats 4000000 in
theorem X11_isNoSoot_b10_s (G : Gx) (l : Launch) (s : St) : V G l mX11_isNoSoot 10 [] [] s (X11_isNoSoot_b10 s) := by
  unfold X11_isNoSoot_b10
  refine V_iconst dec_X11_isNoSoot.2.1.2 rfl ?_
  refine V_goto (tgt := 15) dec_X11_isNoSoot.2.2.1 (by decide) ?_
  exact V_pick [] rfl (X11_isNoSoot_b15_s G l s 1)
def X11_isNoSoot (s : St) (a0 : Int) : Rs :=
  if a0 < 0 then (X11_isNoSoot_b10 s) else (if a0 ≤ (9 : Int) then (X11_isNoSoot_b15 s 0) else (X11_isNoSoot_b10 s))
set_option maxRecDepth 100000 in
set_option maxHeartbeats 4000000 in
theorem X11_isNoSoot_s (G : Gx) (l : Launch) (s : St) (a0 : Int) : Snd G l mX11_isNoSoot [(0, a0)] s (X11_isNoSoot s a0) := by
  refine Snd.of (by decide +kernel) rfl ?_
  show V G l mX11_isNoSoot 0 [(0, (0, a0))] [] s _
  unfold X11_isNoSoot
  refine V_iload_n dec_X11_isNoSoot.1.1.1 0 rfl ?_
  refine V_if_lt (tgt := 10) dec_X11_isNoSoot.1.1.2 (by decide) ?_ ?_
  · exact V_pick [] rfl (X11_isNoSoot_b10_s G l s)
  · refine V_iload_n dec_X11_isNoSoot.1.2.1 0 rfl ?_
    refine V_bipush dec_X11_isNoSoot.1.2.2 rfl ?_
    refine V_icmp_le (tgt := 14) dec_X11_isNoSoot.2.1.1 (by decide) ?_ ?_
    · refine V_iconst dec_X11_isNoSoot.2.2.2.1 rfl ?_
      exact V_pick [] rfl (X11_isNoSoot_b15_s G l s 0)
    · exact V_pick [] rfl (X11_isNoSoot_b10_s G l s)
theorem dec_X11_chat : ((((decode cX11_chat 0 = .ok (.aload_n 0, 1) ∧ decode cX11_chat 1 = .ok (.aload_n 0, 1)) ∧ (decode cX11_chat 2 = .ok (.invokevirtual 203, 3) ∧ (decode cX11_chat 5 = .ok (.iload_n 1, 1) ∧ decode cX11_chat 6 = .ok (.invokestatic 299, 3)))) ∧ ((decode cX11_chat 9 = .ok (.invokevirtual 92, 3) ∧ decode cX11_chat 12 = .ok (.ifCond .eq 6, 3)) ∧ (decode cX11_chat 15 = .ok (.bipush (-100), 2) ∧ (decode cX11_chat 17 = .ok (.ireturn, 1) ∧ decode cX11_chat 18 = .ok (.iload 4, 2))))) ∧ (((decode cX11_chat 20 = .ok (.ifCond .eq 12, 3) ∧ decode cX11_chat 23 = .ok (.iload_n 3, 1)) ∧ (decode cX11_chat 24 = .ok (.iload_n 2, 1) ∧ (decode cX11_chat 25 = .ok (.iload_n 1, 1) ∧ decode cX11_chat 26 = .ok (.invokestatic 302, 3)))) ∧ ((decode cX11_chat 29 = .ok (.goto 9, 3) ∧ (decode cX11_chat 32 = .ok (.iload_n 2, 1) ∧ decode cX11_chat 33 = .ok (.iload_n 3, 1))) ∧ (decode cX11_chat 34 = .ok (.iload_n 1, 1) ∧ (decode cX11_chat 35 = .ok (.invokestatic 302, 3) ∧ decode cX11_chat 38 = .ok (.ireturn, 1)))))) := ⟨by decide +kernel, by decide +kernel⟩
def X11_chat_b38 (s : St) (k0 : Int) : Rs :=
  some (k0, s)
set_option maxRecDepth 100000 in
set_option maxHeartbeats 4000000 in
theorem X11_chat_b38_s (G : Gx) (l : Launch) (s : St) (k0 : Int) : V G l mX11_chat 38 [] [(0, k0)] s (X11_chat_b38 s k0) := by
  unfold X11_chat_b38
  exact V_iret rfl dec_X11_chat.2.2.2.2.2
def X11_chat (s : St) (a0 a1 a2 a3 a4 : Int) : Rs :=
  grd (isK s 21 a0) (bnd (X11_isNoTown s a0) (fun r1 s2 => bnd (X11_isNoSoot s2 a1) (fun r3 s4 => grd (isK s4 21 a0) (bnd (X11_refused s4 a0 r1 r3) (fun r5 s6 => if r5 = 0 then (if a4 = 0 then (bnd (X11_gain s6 a2 a3 a1) (fun r7 s8 => X11_chat_b38 s8 r7)) else (bnd (X11_gain s6 a3 a2 a1) (fun r9 s10 => X11_chat_b38 s10 r9))) else (some ((-100), s6)))))))
set_option maxRecDepth 100000 in
set_option maxHeartbeats 4000000 in
theorem X11_chat_s (G : Gx) (l : Launch) (s : St) (a0 a1 a2 a3 a4 : Int) : Snd G l mX11_chat [(2, a0), (0, a1), (0, a2), (0, a3), (0, a4)] s (X11_chat s a0 a1 a2 a3 a4) := by
  refine Snd.of (by decide +kernel) rfl ?_
  show V G l mX11_chat 0 [(0, (2, a0)), (1, (0, a1)), (2, (0, a2)), (3, (0, a3)), (4, (0, a4))] [] s _
  unfold X11_chat
  refine V_aload_n dec_X11_chat.1.1.1.1 0 rfl ?_
  refine V_aload_n dec_X11_chat.1.1.1.2 0 rfl ?_
  refine V_callV0 (ci := 11) (a := a0) (As := []) (st := [(2, a0)]) rfl rfl (X11_isNoTown_s G l s a0) cal_X11_isNoTown rfl ml_X11_203 rfl rfl dec_X11_chat.1.1.2.1 (k_tag (tag := 0) rfl fun r1 s2 => ?_)
  refine V_iload_n dec_X11_chat.1.1.2.2.1 1 rfl ?_
  refine V_callS0 (As := [(0, a1)]) (st := [(0, r1), (2, a0)]) (host := "") rfl (X11_isNoSoot_s G l s2 a1) cal_X11_isNoSoot rfl (Or.inl ml_X11_299) rfl rfl dec_X11_chat.1.1.2.2.2 (k_tag (tag := 0) rfl fun r3 s4 => ?_)
  refine V_callV0 (ci := 11) (a := a0) (As := [(0, r1), (0, r3)]) (st := []) rfl rfl (X11_refused_s G l s4 a0 r1 r3) cal_X11_refused rfl ml_X11_92 rfl rfl dec_X11_chat.1.2.1.1 (k_tag (tag := 0) rfl fun r5 s6 => ?_)
  refine V_if_eq (tgt := 18) dec_X11_chat.1.2.1.2 (by decide) ?_ ?_
  · refine V_iload dec_X11_chat.1.2.2.2.2 4 rfl ?_
    refine V_if_eq (tgt := 32) dec_X11_chat.2.1.1.1 (by decide) ?_ ?_
    · refine V_iload_n dec_X11_chat.2.2.1.2.1 2 rfl ?_
      refine V_iload_n dec_X11_chat.2.2.1.2.2 3 rfl ?_
      refine V_iload_n dec_X11_chat.2.2.2.1 1 rfl ?_
      refine V_callS0 (As := [(0, a2), (0, a3), (0, a1)]) (st := []) (host := "") rfl (X11_gain_s G l s6 a2 a3 a1) cal_X11_gain rfl (Or.inl ml_X11_302) rfl rfl dec_X11_chat.2.2.2.2.1 (k_tag (tag := 0) rfl fun r7 s8 => ?_)
      exact V_pick [] rfl (X11_chat_b38_s G l s8 r7)
    · refine V_iload_n dec_X11_chat.2.1.1.2 3 rfl ?_
      refine V_iload_n dec_X11_chat.2.1.2.1 2 rfl ?_
      refine V_iload_n dec_X11_chat.2.1.2.2.1 1 rfl ?_
      refine V_callS0 (As := [(0, a3), (0, a2), (0, a1)]) (st := []) (host := "") rfl (X11_gain_s G l s6 a3 a2 a1) cal_X11_gain rfl (Or.inl ml_X11_302) rfl rfl dec_X11_chat.2.1.2.2.2 (k_tag (tag := 0) rfl fun r9 s10 => ?_)
      refine V_goto (tgt := 38) dec_X11_chat.2.2.1.1 (by decide) ?_
      exact V_pick [] rfl (X11_chat_b38_s G l s10 r9)
  · refine V_bipush dec_X11_chat.1.2.2.1 rfl ?_
    exact V_iret rfl dec_X11_chat.1.2.2.2.1
theorem dec_X11_comesOut : ((((decode cX11_comesOut 0 = .ok (.aload_n 0, 1) ∧ decode cX11_comesOut 1 = .ok (.aload_n 0, 1)) ∧ (decode cX11_comesOut 2 = .ok (.iload_n 1, 1) ∧ decode cX11_comesOut 3 = .ok (.invokevirtual 160, 3))) ∧ ((decode cX11_comesOut 6 = .ok (.iload_n 2, 1) ∧ decode cX11_comesOut 7 = .ok (.invokestatic 187, 3)) ∧ (decode cX11_comesOut 10 = .ok (.invokevirtual 92, 3) ∧ decode cX11_comesOut 13 = .ok (.ifCond .eq 5, 3)))) ∧ (((decode cX11_comesOut 16 = .ok (.iconst (-1), 1) ∧ decode cX11_comesOut 17 = .ok (.ireturn, 1)) ∧ (decode cX11_comesOut 18 = .ok (.aload_n 0, 1) ∧ decode cX11_comesOut 19 = .ok (.getfield 36, 3))) ∧ ((decode cX11_comesOut 22 = .ok (.iload_n 1, 1) ∧ decode cX11_comesOut 23 = .ok (.iload_n 2, 1)) ∧ (decode cX11_comesOut 24 = .ok (.invokevirtual 190, 3) ∧ decode cX11_comesOut 27 = .ok (.ireturn, 1))))) := ⟨by decide +kernel, by decide +kernel⟩
def X11_comesOut (s : St) (a0 a1 a2 : Int) : Rs :=
  grd (isK s 21 a0) (bnd (X11_isNoDead s a0 a1) (fun r1 s2 => bnd (X11_isNoNight s2 a2) (fun r3 s4 => grd (isK s4 21 a0) (bnd (X11_refused s4 a0 r1 r3) (fun r5 s6 => if r5 = 0 then (grd (isK s6 21 a0) (grd (isK s6 20 (gR s6 a0 7)) (bnd (X10_landing s6 (gR s6 a0 7) a1 a2) (fun r7 s8 => some (r7, s8))))) else (some ((-1), s6)))))))
set_option maxRecDepth 100000 in
set_option maxHeartbeats 4000000 in
theorem X11_comesOut_s (G : Gx) (l : Launch) (s : St) (a0 a1 a2 : Int) : Snd G l mX11_comesOut [(2, a0), (0, a1), (0, a2)] s (X11_comesOut s a0 a1 a2) := by
  refine Snd.of (by decide +kernel) rfl ?_
  show V G l mX11_comesOut 0 [(0, (2, a0)), (1, (0, a1)), (2, (0, a2))] [] s _
  unfold X11_comesOut
  refine V_aload_n dec_X11_comesOut.1.1.1.1 0 rfl ?_
  refine V_aload_n dec_X11_comesOut.1.1.1.2 0 rfl ?_
  refine V_iload_n dec_X11_comesOut.1.1.2.1 1 rfl ?_
  refine V_callV0 (ci := 11) (a := a0) (As := [(0, a1)]) (st := [(2, a0)]) rfl rfl (X11_isNoDead_s G l s a0 a1) cal_X11_isNoDead rfl ml_X11_160 rfl rfl dec_X11_comesOut.1.1.2.2 (k_tag (tag := 0) rfl fun r1 s2 => ?_)
  refine V_iload_n dec_X11_comesOut.1.2.1.1 2 rfl ?_
  refine V_callS0 (As := [(0, a2)]) (st := [(0, r1), (2, a0)]) (host := "") rfl (X11_isNoNight_s G l s2 a2) cal_X11_isNoNight rfl (Or.inl ml_X11_187) rfl rfl dec_X11_comesOut.1.2.1.2 (k_tag (tag := 0) rfl fun r3 s4 => ?_)
  refine V_callV0 (ci := 11) (a := a0) (As := [(0, r1), (0, r3)]) (st := []) rfl rfl (X11_refused_s G l s4 a0 r1 r3) cal_X11_refused rfl ml_X11_92 rfl rfl dec_X11_comesOut.1.2.2.1 (k_tag (tag := 0) rfl fun r5 s6 => ?_)
  refine V_if_eq (tgt := 18) dec_X11_comesOut.1.2.2.2 (by decide) ?_ ?_
  · refine V_aload_n dec_X11_comesOut.2.1.2.1 0 rfl ?_
    refine V_getR 11 7 nf_11_7 ft_11_7 fl_X11_36 dec_X11_comesOut.2.1.2.2 ?_
    refine V_iload_n dec_X11_comesOut.2.2.1.1 1 rfl ?_
    refine V_iload_n dec_X11_comesOut.2.2.1.2 2 rfl ?_
    refine V_callV0 (ci := 10) (a := (gR s6 a0 7)) (As := [(0, a1), (0, a2)]) (st := []) rfl rfl (X10_landing_s G l s6 (gR s6 a0 7) a1 a2) cal_X10_landing rfl ml_X11_190 rfl rfl dec_X11_comesOut.2.2.2.1 (k_tag (tag := 0) rfl fun r7 s8 => ?_)
    exact V_iret rfl dec_X11_comesOut.2.2.2.2
  · refine V_iconst dec_X11_comesOut.2.1.1.1 rfl ?_
    exact V_iret rfl dec_X11_comesOut.2.1.1.2
theorem dec_X11_commonDivisor : ((((decode cX11_commonDivisor 0 = .ok (.lload_n 0, 1) ∧ (decode cX11_commonDivisor 1 = .ok (.lstore 4, 2) ∧ decode cX11_commonDivisor 3 = .ok (.lload_n 2, 1))) ∧ (decode cX11_commonDivisor 4 = .ok (.lstore 6, 2) ∧ (decode cX11_commonDivisor 6 = .ok (.iconst 0, 1) ∧ decode cX11_commonDivisor 7 = .ok (.istore 8, 2)))) ∧ ((decode cX11_commonDivisor 9 = .ok (.iload 8, 2) ∧ (decode cX11_commonDivisor 11 = .ok (.sipush 130, 3) ∧ decode cX11_commonDivisor 14 = .ok (.if_icmp .ge 31, 3))) ∧ (decode cX11_commonDivisor 17 = .ok (.lload 6, 2) ∧ (decode cX11_commonDivisor 19 = .ok (.lconst 0, 1) ∧ decode cX11_commonDivisor 20 = .ok (.lcmp, 1))))) ∧ (((decode cX11_commonDivisor 21 = .ok (.ifCond .eq 24, 3) ∧ (decode cX11_commonDivisor 24 = .ok (.lload 4, 2) ∧ decode cX11_commonDivisor 26 = .ok (.lload 6, 2))) ∧ (decode cX11_commonDivisor 28 = .ok (.lrem, 1) ∧ (decode cX11_commonDivisor 29 = .ok (.lstore 9, 2) ∧ decode cX11_commonDivisor 31 = .ok (.lload 6, 2)))) ∧ ((decode cX11_commonDivisor 33 = .ok (.lstore 4, 2) ∧ (decode cX11_commonDivisor 35 = .ok (.lload 9, 2) ∧ decode cX11_commonDivisor 37 = .ok (.lstore 6, 2))) ∧ ((decode cX11_commonDivisor 39 = .ok (.iinc 8 1, 3) ∧ decode cX11_commonDivisor 42 = .ok (.goto (-33), 3)) ∧ (decode cX11_commonDivisor 45 = .ok (.lload 4, 2) ∧ decode cX11_commonDivisor 47 = .ok (.lreturn, 1)))))) := ⟨by decide +kernel, ⟨by decide +kernel, by decide +kernel⟩⟩
def X11_commonDivisor_b45 (s : St) (x4 : Int) : Rs :=
  some (x4, s)
set_option maxRecDepth 100000 in
set_option maxHeartbeats 4000000 in
theorem X11_commonDivisor_b45_s (G : Gx) (l : Launch) (s : St) (x4 : Int) : V G l mX11_commonDivisor 45 [(4, (1, x4))] [] s (X11_commonDivisor_b45 s x4) := by
  unfold X11_commonDivisor_b45
  refine V_lload dec_X11_commonDivisor.2.2.2.2.1 0 rfl ?_
  exact V_lret rfl dec_X11_commonDivisor.2.2.2.2.2
def X11_commonDivisor_b9_body (rk9 : St → Int → Int → Int → Rs) (s : St) (x4 x6 x8 : Int) : Rs :=
  if (130 : Int) ≤ x8 then (X11_commonDivisor_b45 s x4) else (if (cmp3 x6 0) = 0 then (X11_commonDivisor_b45 s x4) else (grd (x6 ≠ 0) (rk9 s x6 (Int.tmod x4 x6) (w32 (x8 + 1)))))
def X11_commonDivisor_b9 (n : Nat) (s : St) (x4 x6 x8 : Int) : Rs := iter (fun (rec : St × Int × Int × Int → Rs) (a : St × Int × Int × Int) => X11_commonDivisor_b9_body (fun (s : St) (x4 x6 x8 : Int) => rec (s, x4, x6, x8)) a.1 a.2.1 a.2.2.1 a.2.2.2) n (s, x4, x6, x8)
theorem X11_commonDivisor_b9_0 (s : St) (x4 x6 x8 : Int) : X11_commonDivisor_b9 0 s x4 x6 x8 = none := rfl
theorem X11_commonDivisor_b9_1 (n : Nat) (s : St) (x4 x6 x8 : Int) : X11_commonDivisor_b9 (n + 1) s x4 x6 x8 = X11_commonDivisor_b9_body (X11_commonDivisor_b9 n) s x4 x6 x8 := rfl
set_option maxRecDepth 100000 in
set_option maxHeartbeats 4000000 in
theorem X11_commonDivisor_b9_body_s (G : Gx) (l : Launch) (rk9 : St → Int → Int → Int → Rs) (hk9 : ∀ (s : St) (x4 x6 x8 : Int), V G l mX11_commonDivisor 9 [(4, (1, x4)), (6, (1, x6)), (8, (0, x8))] [] s (rk9 s x4 x6 x8)) (s : St) (x4 x6 x8 : Int) : V G l mX11_commonDivisor 9 [(4, (1, x4)), (6, (1, x6)), (8, (0, x8))] [] s (X11_commonDivisor_b9_body rk9 s x4 x6 x8) := by
  unfold X11_commonDivisor_b9_body
  refine V_iload dec_X11_commonDivisor.1.2.1.1 2 rfl ?_
  refine V_sipush dec_X11_commonDivisor.1.2.1.2.1 rfl ?_
  refine V_icmp_ge (tgt := 45) dec_X11_commonDivisor.1.2.1.2.2 (by decide) ?_ ?_
  · exact V_pick [0] rfl (X11_commonDivisor_b45_s G l s x4)
  · refine V_lload dec_X11_commonDivisor.1.2.2.1 1 rfl ?_
    refine V_lconst (n := 0) dec_X11_commonDivisor.1.2.2.2.1 (by decide) ?_
    refine V_lcmp dec_X11_commonDivisor.1.2.2.2.2 ?_
    refine V_if_eq (tgt := 45) dec_X11_commonDivisor.2.1.1.1 (by decide) ?_ ?_
    · exact V_pick [0] rfl (X11_commonDivisor_b45_s G l s x4)
    · refine V_lload dec_X11_commonDivisor.2.1.1.2.1 0 rfl ?_
      refine V_lload dec_X11_commonDivisor.2.1.1.2.2 1 rfl ?_
      refine V_lrem dec_X11_commonDivisor.2.1.2.1 ?_
      refine V_lstore (lv' := [(9, (1, (Int.tmod x4 x6))), (4, (1, x4)), (6, (1, x6)), (8, (0, x8))]) dec_X11_commonDivisor.2.1.2.2.1 (by decide) rfl ?_
      refine V_lload dec_X11_commonDivisor.2.1.2.2.2 2 rfl ?_
      refine V_lstore (lv' := [(4, (1, x6)), (9, (1, (Int.tmod x4 x6))), (6, (1, x6)), (8, (0, x8))]) dec_X11_commonDivisor.2.2.1.1 (by decide) rfl ?_
      refine V_lload dec_X11_commonDivisor.2.2.1.2.1 1 rfl ?_
      refine V_lstore (lv' := [(6, (1, (Int.tmod x4 x6))), (4, (1, x6)), (9, (1, (Int.tmod x4 x6))), (8, (0, x8))]) dec_X11_commonDivisor.2.2.1.2.2 (by decide) rfl ?_
      refine V_iinc (lv' := [(8, (0, (w32 (x8 + 1)))), (6, (1, (Int.tmod x4 x6))), (4, (1, x6)), (9, (1, (Int.tmod x4 x6)))]) dec_X11_commonDivisor.2.2.2.1.1 3 rfl (by decide) rfl ?_
      refine V_goto (tgt := 9) dec_X11_commonDivisor.2.2.2.1.2 (by decide) ?_
      exact V_pick [2, 1, 0] rfl (hk9 s x6 (Int.tmod x4 x6) (w32 (x8 + 1)))
theorem X11_commonDivisor_b9_s (G : Gx) (l : Launch) (n : Nat) (s : St) (x4 x6 x8 : Int) : V G l mX11_commonDivisor 9 [(4, (1, x4)), (6, (1, x6)), (8, (0, x8))] [] s (X11_commonDivisor_b9 n s x4 x6 x8) :=
  V_iter (LV := fun a : St × Int × Int × Int => [(4, (1, a.2.1)), (6, (1, a.2.2.1)), (8, (0, a.2.2.2))]) (ST := fun a : St × Int × Int × Int => []) (SS := fun a : St × Int × Int × Int => a.1) (fun rec hrec a => X11_commonDivisor_b9_body_s G l (fun (s : St) (x4 x6 x8 : Int) => rec (s, x4, x6, x8)) (fun (s : St) (x4 x6 x8 : Int) => hrec (s, x4, x6, x8)) a.1 a.2.1 a.2.2.1 a.2.2.2) n (s, x4, x6, x8)
def X11_commonDivisor (s : St) (a0 a1 : Int) : Rs :=
  X11_commonDivisor_b9 FU s a0 a1 0
set_option maxRecDepth 100000 in
set_option maxHeartbeats 4000000 in
theorem X11_commonDivisor_s (G : Gx) (l : Launch) (s : St) (a0 a1 : Int) : Snd G l mX11_commonDivisor [(1, a0), (1, a1)] s (X11_commonDivisor s a0 a1) := by
  refine Snd.of (by decide +kernel) rfl ?_
  show V G l mX11_commonDivisor 0 [(0, (1, a0)), (2, (1, a1))] [] s _
  unfold X11_commonDivisor
  refine V_lload_n dec_X11_commonDivisor.1.1.1.1 0 rfl ?_
  refine V_lstore (lv' := [(4, (1, a0)), (0, (1, a0)), (2, (1, a1))]) dec_X11_commonDivisor.1.1.1.2.1 (by decide) rfl ?_
  refine V_lload_n dec_X11_commonDivisor.1.1.1.2.2 2 rfl ?_
  refine V_lstore (lv' := [(6, (1, a1)), (4, (1, a0)), (0, (1, a0)), (2, (1, a1))]) dec_X11_commonDivisor.1.1.2.1 (by decide) rfl ?_
  refine V_iconst dec_X11_commonDivisor.1.1.2.2.1 rfl ?_
  refine V_istore (lv' := [(8, (0, 0)), (6, (1, a1)), (4, (1, a0)), (0, (1, a0)), (2, (1, a1))]) dec_X11_commonDivisor.1.1.2.2.2 (by decide) rfl ?_
  exact V_pick [2, 1, 0] rfl (X11_commonDivisor_b9_s G l FU s a0 a1 0)
theorem dec_X1_inSome : ((((decode cX1_inSome 0 = .ok (.iconst 0, 1) ∧ decode cX1_inSome 1 = .ok (.istore_n 1, 1)) ∧ (decode cX1_inSome 2 = .ok (.iconst 0, 1) ∧ decode cX1_inSome 3 = .ok (.istore_n 2, 1))) ∧ ((decode cX1_inSome 4 = .ok (.iload_n 2, 1) ∧ decode cX1_inSome 5 = .ok (.aload_n 0, 1)) ∧ (decode cX1_inSome 6 = .ok (.getfield 19, 3) ∧ (decode cX1_inSome 9 = .ok (.if_icmp .ge 18, 3) ∧ decode cX1_inSome 12 = .ok (.iload_n 1, 1))))) ∧ (((decode cX1_inSome 13 = .ok (.aload_n 0, 1) ∧ decode cX1_inSome 14 = .ok (.getfield 9, 3)) ∧ (decode cX1_inSome 17 = .ok (.iload_n 2, 1) ∧ (decode cX1_inSome 18 = .ok (.iaload, 1) ∧ decode cX1_inSome 19 = .ok (.ior, 1)))) ∧ ((decode cX1_inSome 20 = .ok (.istore_n 1, 1) ∧ decode cX1_inSome 21 = .ok (.iinc 2 1, 3)) ∧ (decode cX1_inSome 24 = .ok (.goto (-20), 3) ∧ (decode cX1_inSome 27 = .ok (.iload_n 1, 1) ∧ decode cX1_inSome 28 = .ok (.ireturn, 1)))))) := ⟨by decide +kernel, by decide +kernel⟩
def X1_inSome_b4_body (rk4 : St → Int → Int → Int → Rs) (s : St) (x0 x1 x2 : Int) : Rs :=
  grd (isK s 11 x0) (if (gI s x0 1) ≤ x2 then (some (x1, s)) else (grd (isK s 11 x0) (grd (isK s 1 (gR s x0 0) ∧ 0 ≤ x2 ∧ x2 < ln s (gR s x0 0)) (letv (or32 x1 (gI s (gR s x0 0) x2.toNat)) (fun y1 => rk4 s x0 y1 (w32 (x2 + 1)))))))
def X1_inSome_b4 (n : Nat) (s : St) (x0 x1 x2 : Int) : Rs := iter (fun (rec : St × Int × Int × Int → Rs) (a : St × Int × Int × Int) => X1_inSome_b4_body (fun (s : St) (x0 x1 x2 : Int) => rec (s, x0, x1, x2)) a.1 a.2.1 a.2.2.1 a.2.2.2) n (s, x0, x1, x2)
theorem X1_inSome_b4_0 (s : St) (x0 x1 x2 : Int) : X1_inSome_b4 0 s x0 x1 x2 = none := rfl
theorem X1_inSome_b4_1 (n : Nat) (s : St) (x0 x1 x2 : Int) : X1_inSome_b4 (n + 1) s x0 x1 x2 = X1_inSome_b4_body (X1_inSome_b4 n) s x0 x1 x2 := rfl
set_option maxRecDepth 100000 in
set_option maxHeartbeats 4000000 in
theorem X1_inSome_b4_body_s (G : Gx) (l : Launch) (rk4 : St → Int → Int → Int → Rs) (hk4 : ∀ (s : St) (x0 x1 x2 : Int), V G l mX1_inSome 4 [(0, (2, x0)), (1, (0, x1)), (2, (0, x2))] [] s (rk4 s x0 x1 x2)) (s : St) (x0 x1 x2 : Int) : V G l mX1_inSome 4 [(0, (2, x0)), (1, (0, x1)), (2, (0, x2))] [] s (X1_inSome_b4_body rk4 s x0 x1 x2) := by
  unfold X1_inSome_b4_body
  refine V_iload_n dec_X1_inSome.1.2.1.1 2 rfl ?_
  refine V_aload_n dec_X1_inSome.1.2.1.2 0 rfl ?_
  refine V_getI 1 1 nf_1_1 ft_1_1 fl_X1_19 dec_X1_inSome.1.2.2.1 ?_
  refine V_icmp_ge (tgt := 27) dec_X1_inSome.1.2.2.2.1 (by decide) ?_ ?_
  · refine V_iload_n dec_X1_inSome.2.2.2.2.1 1 rfl ?_
    exact V_iret rfl dec_X1_inSome.2.2.2.2.2
  · refine V_iload_n dec_X1_inSome.1.2.2.2.2 1 rfl ?_
    refine V_aload_n dec_X1_inSome.2.1.1.1 0 rfl ?_
    refine V_getR 1 0 nf_1_0 ft_1_0 fl_X1_9 dec_X1_inSome.2.1.1.2 ?_
    refine V_iload_n dec_X1_inSome.2.1.2.1 2 rfl ?_
    refine V_iald dec_X1_inSome.2.1.2.2.1 ?_
    refine V_ior dec_X1_inSome.2.1.2.2.2 ?_
    refine V_letv fun y1 => ?_
    refine V_istore_n (lv' := [(1, (0, y1)), (0, (2, x0)), (2, (0, x2))]) dec_X1_inSome.2.2.1.1 (by decide) rfl ?_
    refine V_iinc (lv' := [(2, (0, (w32 (x2 + 1)))), (1, (0, y1)), (0, (2, x0))]) dec_X1_inSome.2.2.1.2 2 rfl (by decide) rfl ?_
    refine V_goto (tgt := 4) dec_X1_inSome.2.2.2.1 (by decide) ?_
    exact V_pick [2, 1, 0] rfl (hk4 s x0 y1 (w32 (x2 + 1)))
theorem X1_inSome_b4_s (G : Gx) (l : Launch) (n : Nat) (s : St) (x0 x1 x2 : Int) : V G l mX1_inSome 4 [(0, (2, x0)), (1, (0, x1)), (2, (0, x2))] [] s (X1_inSome_b4 n s x0 x1 x2) :=
  V_iter (LV := fun a : St × Int × Int × Int => [(0, (2, a.2.1)), (1, (0, a.2.2.1)), (2, (0, a.2.2.2))]) (ST := fun a : St × Int × Int × Int => []) (SS := fun a : St × Int × Int × Int => a.1) (fun rec hrec a => X1_inSome_b4_body_s G l (fun (s : St) (x0 x1 x2 : Int) => rec (s, x0, x1, x2)) (fun (s : St) (x0 x1 x2 : Int) => hrec (s, x0, x1, x2)) a.1 a.2.1 a.2.2.1 a.2.2.2) n (s, x0, x1, x2)
def X1_inSome (s : St) (a0 : Int) : Rs :=
  X1_inSome_b4 FU s a0 0 0
set_option maxRecDepth 100000 in
set_option maxHeartbeats 4000000 in
theorem X1_inSome_s (G : Gx) (l : Launch) (s : St) (a0 : Int) : Snd G l mX1_inSome [(2, a0)] s (X1_inSome s a0) := by
  refine Snd.of (by decide +kernel) rfl ?_
  show V G l mX1_inSome 0 [(0, (2, a0))] [] s _
  unfold X1_inSome
  refine V_iconst dec_X1_inSome.1.1.1.1 rfl ?_
  refine V_istore_n (lv' := [(1, (0, 0)), (0, (2, a0))]) dec_X1_inSome.1.1.1.2 (by decide) rfl ?_
  refine V_iconst dec_X1_inSome.1.1.2.1 rfl ?_
  refine V_istore_n (lv' := [(2, (0, 0)), (1, (0, 0)), (0, (2, a0))]) dec_X1_inSome.1.1.2.2 (by decide) rfl ?_
  exact V_pick [2, 1, 0] rfl (X1_inSome_b4_s G l FU s a0 0 0)
theorem dec_X11_could : (((decode cX11_could 0 = .ok (.aload_n 0, 1) ∧ (decode cX11_could 1 = .ok (.aload_n 0, 1) ∧ decode cX11_could 2 = .ok (.invokevirtual 203, 3))) ∧ (decode cX11_could 5 = .ok (.iconst 0, 1) ∧ (decode cX11_could 6 = .ok (.invokevirtual 92, 3) ∧ decode cX11_could 9 = .ok (.ifCond .eq 5, 3)))) ∧ ((decode cX11_could 12 = .ok (.iconst (-1), 1) ∧ (decode cX11_could 13 = .ok (.ireturn, 1) ∧ decode cX11_could 14 = .ok (.aload_n 0, 1))) ∧ (decode cX11_could 15 = .ok (.getfield 60, 3) ∧ (decode cX11_could 18 = .ok (.invokevirtual 281, 3) ∧ decode cX11_could 21 = .ok (.ireturn, 1))))) := by decide +kernel
def X11_could (s : St) (a0 : Int) : Rs :=
  grd (isK s 21 a0) (bnd (X11_isNoTown s a0) (fun r1 s2 => grd (isK s2 21 a0) (bnd (X11_refused s2 a0 r1 0) (fun r3 s4 => if r3 = 0 then (grd (isK s4 21 a0) (grd (isK s4 11 (gR s4 a0 11)) (bnd (X1_inSome s4 (gR s4 a0 11)) (fun r5 s6 => some (r5, s6))))) else (some ((-1), s4))))))
set_option maxRecDepth 100000 in
set_option maxHeartbeats 4000000 in
theorem X11_could_s (G : Gx) (l : Launch) (s : St) (a0 : Int) : Snd G l mX11_could [(2, a0)] s (X11_could s a0) := by
  refine Snd.of (by decide +kernel) rfl ?_
  show V G l mX11_could 0 [(0, (2, a0))] [] s _
  unfold X11_could
  refine V_aload_n dec_X11_could.1.1.1 0 rfl ?_
  refine V_aload_n dec_X11_could.1.1.2.1 0 rfl ?_
  refine V_callV0 (ci := 11) (a := a0) (As := []) (st := [(2, a0)]) rfl rfl (X11_isNoTown_s G l s a0) cal_X11_isNoTown rfl ml_X11_203 rfl rfl dec_X11_could.1.1.2.2 (k_tag (tag := 0) rfl fun r1 s2 => ?_)
  refine V_iconst dec_X11_could.1.2.1 rfl ?_
  refine V_callV0 (ci := 11) (a := a0) (As := [(0, r1), (0, 0)]) (st := []) rfl rfl (X11_refused_s G l s2 a0 r1 0) cal_X11_refused rfl ml_X11_92 rfl rfl dec_X11_could.1.2.2.1 (k_tag (tag := 0) rfl fun r3 s4 => ?_)
  refine V_if_eq (tgt := 14) dec_X11_could.1.2.2.2 (by decide) ?_ ?_
  · refine V_aload_n dec_X11_could.2.1.2.2 0 rfl ?_
    refine V_getR 11 11 nf_11_11 ft_11_11 fl_X11_60 dec_X11_could.2.2.1 ?_
    refine V_callV0 (ci := 1) (a := (gR s4 a0 11)) (As := []) (st := []) rfl rfl (X1_inSome_s G l s4 (gR s4 a0 11)) cal_X1_inSome rfl ml_X11_281 rfl rfl dec_X11_could.2.2.2.1 (k_tag (tag := 0) rfl fun r5 s6 => ?_)
    exact V_iret rfl dec_X11_could.2.2.2.2
  · refine V_iconst dec_X11_could.2.1.1 rfl ?_
    exact V_iret rfl dec_X11_could.2.1.2.1
theorem dec_X11_dead : (((((decode cX11_dead 0 = .ok (.aload_n 0, 1) ∧ decode cX11_dead 1 = .ok (.aload_n 0, 1)) ∧ (decode cX11_dead 2 = .ok (.iload_n 1, 1) ∧ (decode cX11_dead 3 = .ok (.invokevirtual 160, 3) ∧ decode cX11_dead 6 = .ok (.ifCond .ne 12, 3)))) ∧ ((decode cX11_dead 9 = .ok (.iload_n 2, 1) ∧ (decode cX11_dead 10 = .ok (.ifCond .lt 8, 3) ∧ decode cX11_dead 13 = .ok (.iload_n 2, 1))) ∧ (decode cX11_dead 14 = .ok (.iconst 3, 1) ∧ (decode cX11_dead 15 = .ok (.if_icmp .le 7, 3) ∧ decode cX11_dead 18 = .ok (.iconst 1, 1))))) ∧ (((decode cX11_dead 19 = .ok (.goto 4, 3) ∧ (decode cX11_dead 22 = .ok (.iconst 0, 1) ∧ decode cX11_dead 23 = .ok (.iconst 0, 1))) ∧ (decode cX11_dead 24 = .ok (.invokevirtual 92, 3) ∧ (decode cX11_dead 27 = .ok (.ifCond .eq 5, 3) ∧ decode cX11_dead 30 = .ok (.iconst (-1), 1)))) ∧ ((decode cX11_dead 31 = .ok (.ireturn, 1) ∧ (decode cX11_dead 32 = .ok (.iload_n 2, 1) ∧ decode cX11_dead 33 = .ok (.tableswitch 60 0 2 #[27, 37, 50], 27))) ∧ (decode cX11_dead 60 = .ok (.aload_n 0, 1) ∧ (decode cX11_dead 61 = .ok (.getfield 27, 3) ∧ decode cX11_dead 64 = .ok (.getfield 163, 3)))))) ∧ ((((decode cX11_dead 67 = .ok (.iload_n 1, 1) ∧ decode cX11_dead 68 = .ok (.iaload, 1)) ∧ (decode cX11_dead 69 = .ok (.ireturn, 1) ∧ (decode cX11_dead 70 = .ok (.aload_n 0, 1) ∧ decode cX11_dead 71 = .ok (.getfield 36, 3)))) ∧ ((decode cX11_dead 74 = .ok (.getfield 143, 3) ∧ (decode cX11_dead 77 = .ok (.getfield 166, 3) ∧ decode cX11_dead 80 = .ok (.iload_n 1, 1))) ∧ (decode cX11_dead 81 = .ok (.iaload, 1) ∧ (decode cX11_dead 82 = .ok (.ireturn, 1) ∧ decode cX11_dead 83 = .ok (.aload_n 0, 1))))) ∧ (((decode cX11_dead 84 = .ok (.getfield 27, 3) ∧ (decode cX11_dead 87 = .ok (.getfield 169, 3) ∧ decode cX11_dead 90 = .ok (.iload_n 1, 1))) ∧ (decode cX11_dead 91 = .ok (.iaload, 1) ∧ (decode cX11_dead 92 = .ok (.ireturn, 1) ∧ decode cX11_dead 93 = .ok (.aload_n 0, 1)))) ∧ ((decode cX11_dead 94 = .ok (.getfield 36, 3) ∧ (decode cX11_dead 97 = .ok (.getfield 143, 3) ∧ decode cX11_dead 100 = .ok (.getfield 172, 3))) ∧ (decode cX11_dead 103 = .ok (.iload_n 1, 1) ∧ (decode cX11_dead 104 = .ok (.iaload, 1) ∧ decode cX11_dead 105 = .ok (.ireturn, 1))))))) := ⟨⟨by decide +kernel, by decide +kernel⟩, ⟨by decide +kernel, by decide +kernel⟩⟩
def X11_dead_b23 (s : St) (x0 x1 x2 k0 k1 : Int) : Rs :=
  grd (isK s 21 k1) (bnd (X11_refused s k1 k0 0) (fun r3 s4 => if r3 = 0 then (swt x2 0 [grd (isK s4 21 x0) (grd (isK s4 19 (gR s4 x0 6)) (grd (isK s4 1 (gR s4 (gR s4 x0 6) 7) ∧ 0 ≤ x1 ∧ x1 < ln s4 (gR s4 (gR s4 x0 6) 7)) (some ((gI s4 (gR s4 (gR s4 x0 6) 7) x1.toNat), s4)))), grd (isK s4 21 x0) (grd (isK s4 20 (gR s4 x0 7)) (grd (isK s4 16 (gR s4 (gR s4 x0 7) 1)) (grd (isK s4 1 (gR s4 (gR s4 (gR s4 x0 7) 1) 2) ∧ 0 ≤ x1 ∧ x1 < ln s4 (gR s4 (gR s4 (gR s4 x0 7) 1) 2)) (some ((gI s4 (gR s4 (gR s4 (gR s4 x0 7) 1) 2) x1.toNat), s4))))), grd (isK s4 21 x0) (grd (isK s4 19 (gR s4 x0 6)) (grd (isK s4 1 (gR s4 (gR s4 x0 6) 8) ∧ 0 ≤ x1 ∧ x1 < ln s4 (gR s4 (gR s4 x0 6) 8)) (some ((gI s4 (gR s4 (gR s4 x0 6) 8) x1.toNat), s4))))] (grd (isK s4 21 x0) (grd (isK s4 20 (gR s4 x0 7)) (grd (isK s4 16 (gR s4 (gR s4 x0 7) 1)) (grd (isK s4 1 (gR s4 (gR s4 (gR s4 x0 7) 1) 3) ∧ 0 ≤ x1 ∧ x1 < ln s4 (gR s4 (gR s4 (gR s4 x0 7) 1) 3)) (some ((gI s4 (gR s4 (gR s4 (gR s4 x0 7) 1) 3) x1.toNat), s4))))))) else (some ((-1), s4))))
set_option maxRecDepth 100000 in
set_option maxHeartbeats 4000000 in
theorem X11_dead_b23_s (G : Gx) (l : Launch) (s : St) (x0 x1 x2 k0 k1 : Int) : V G l mX11_dead 23 [(0, (2, x0)), (1, (0, x1)), (2, (0, x2))] [(0, k0), (2, k1)] s (X11_dead_b23 s x0 x1 x2 k0 k1) := by
  unfold X11_dead_b23
  refine V_iconst dec_X11_dead.1.2.1.1.2.2 rfl ?_
  refine V_callV0 (ci := 11) (a := k1) (As := [(0, k0), (0, 0)]) (st := []) rfl rfl (X11_refused_s G l s k1 k0 0) cal_X11_refused rfl ml_X11_92 rfl rfl dec_X11_dead.1.2.1.2.1 (k_tag (tag := 0) rfl fun r3 s4 => ?_)
  refine V_if_eq (tgt := 32) dec_X11_dead.1.2.1.2.2.1 (by decide) ?_ ?_
  · refine V_iload_n dec_X11_dead.1.2.2.1.2.1 2 rfl ?_
    refine V_tsw (ts := [60, 70, 83]) (td := 93) dec_X11_dead.1.2.2.1.2.2 (by decide) (by decide) (by decide) ⟨?_, ?_, ?_, trivial⟩ ?_
    · refine V_aload_n dec_X11_dead.1.2.2.2.1 0 rfl ?_
      refine V_getR 11 6 nf_11_6 ft_11_6 fl_X11_27 dec_X11_dead.1.2.2.2.2.1 ?_
      refine V_getR 9 7 nf_9_7 ft_9_7 fl_X11_163 dec_X11_dead.1.2.2.2.2.2 ?_
      refine V_iload_n dec_X11_dead.2.1.1.1.1 1 rfl ?_
      refine V_iald dec_X11_dead.2.1.1.1.2 ?_
      exact V_iret rfl dec_X11_dead.2.1.1.2.1
    · refine V_aload_n dec_X11_dead.2.1.1.2.2.1 0 rfl ?_
      refine V_getR 11 7 nf_11_7 ft_11_7 fl_X11_36 dec_X11_dead.2.1.1.2.2.2 ?_
      refine V_getR 10 1 nf_10_1 ft_10_1 fl_X11_143 dec_X11_dead.2.1.2.1.1 ?_
      refine V_getR 6 2 nf_6_2 ft_6_2 fl_X11_166 dec_X11_dead.2.1.2.1.2.1 ?_
      refine V_iload_n dec_X11_dead.2.1.2.1.2.2 1 rfl ?_
      refine V_iald dec_X11_dead.2.1.2.2.1 ?_
      exact V_iret rfl dec_X11_dead.2.1.2.2.2.1
    · refine V_aload_n dec_X11_dead.2.1.2.2.2.2 0 rfl ?_
      refine V_getR 11 6 nf_11_6 ft_11_6 fl_X11_27 dec_X11_dead.2.2.1.1.1 ?_
      refine V_getR 9 8 nf_9_8 ft_9_8 fl_X11_169 dec_X11_dead.2.2.1.1.2.1 ?_
      refine V_iload_n dec_X11_dead.2.2.1.1.2.2 1 rfl ?_
      refine V_iald dec_X11_dead.2.2.1.2.1 ?_
      exact V_iret rfl dec_X11_dead.2.2.1.2.2.1
    · refine V_aload_n dec_X11_dead.2.2.1.2.2.2 0 rfl ?_
      refine V_getR 11 7 nf_11_7 ft_11_7 fl_X11_36 dec_X11_dead.2.2.2.1.1 ?_
      refine V_getR 10 1 nf_10_1 ft_10_1 fl_X11_143 dec_X11_dead.2.2.2.1.2.1 ?_
      refine V_getR 6 3 nf_6_3 ft_6_3 fl_X11_172 dec_X11_dead.2.2.2.1.2.2 ?_
      refine V_iload_n dec_X11_dead.2.2.2.2.1 1 rfl ?_
      refine V_iald dec_X11_dead.2.2.2.2.2.1 ?_
      exact V_iret rfl dec_X11_dead.2.2.2.2.2.2
  · refine V_iconst dec_X11_dead.1.2.1.2.2.2 rfl ?_
    exact V_iret rfl dec_X11_dead.1.2.2.1.1
def X11_dead_b18 (s : St) (x0 x1 x2 k0 : Int) : Rs :=
  X11_dead_b23 s x0 x1 x2 1 k0
set_option maxRecDepth 100000 in
set_option maxHeartbeats 4000000 in
theorem X11_dead_b18_s (G : Gx) (l : Launch) (s : St) (x0 x1 x2 k0 : Int) : V G l mX11_dead 18 [(0, (2, x0)), (1, (0, x1)), (2, (0, x2))] [(2, k0)] s (X11_dead_b18 s x0 x1 x2 k0) := by
  unfold X11_dead_b18
  refine V_iconst dec_X11_dead.1.1.2.2.2.2 rfl ?_
  refine V_goto (tgt := 23) dec_X11_dead.1.2.1.1.1 (by decide) ?_
  exact V_pick [0, 1, 2] rfl (X11_dead_b23_s G l s x0 x1 x2 1 k0)
def X11_dead (s : St) (a0 a1 a2 : Int) : Rs :=
  grd (isK s 21 a0) (bnd (X11_isNoDead s a0 a1) (fun r1 s2 => if ¬ r1 = 0 then (X11_dead_b18 s2 a0 a1 a2 a0) else (if a2 < 0 then (X11_dead_b18 s2 a0 a1 a2 a0) else (if a2 ≤ (3 : Int) then (X11_dead_b23 s2 a0 a1 a2 0 a0) else (X11_dead_b18 s2 a0 a1 a2 a0)))))
set_option maxRecDepth 100000 in
set_option maxHeartbeats 4000000 in
theorem X11_dead_s (G : Gx) (l : Launch) (s : St) (a0 a1 a2 : Int) : Snd G l mX11_dead [(2, a0), (0, a1), (0, a2)] s (X11_dead s a0 a1 a2) := by
  refine Snd.of (by decide +kernel) rfl ?_
  show V G l mX11_dead 0 [(0, (2, a0)), (1, (0, a1)), (2, (0, a2))] [] s _
  unfold X11_dead
  refine V_aload_n dec_X11_dead.1.1.1.1.1 0 rfl ?_
  refine V_aload_n dec_X11_dead.1.1.1.1.2 0 rfl ?_
  refine V_iload_n dec_X11_dead.1.1.1.2.1 1 rfl ?_
  refine V_callV0 (ci := 11) (a := a0) (As := [(0, a1)]) (st := [(2, a0)]) rfl rfl (X11_isNoDead_s G l s a0 a1) cal_X11_isNoDead rfl ml_X11_160 rfl rfl dec_X11_dead.1.1.1.2.2.1 (k_tag (tag := 0) rfl fun r1 s2 => ?_)
  refine V_if_ne (tgt := 18) dec_X11_dead.1.1.1.2.2.2 (by decide) ?_ ?_
  · exact V_pick [0, 1, 2] rfl (X11_dead_b18_s G l s2 a0 a1 a2 a0)
  · refine V_iload_n dec_X11_dead.1.1.2.1.1 2 rfl ?_
    refine V_if_lt (tgt := 18) dec_X11_dead.1.1.2.1.2.1 (by decide) ?_ ?_
    · exact V_pick [0, 1, 2] rfl (X11_dead_b18_s G l s2 a0 a1 a2 a0)
    · refine V_iload_n dec_X11_dead.1.1.2.1.2.2 2 rfl ?_
      refine V_iconst dec_X11_dead.1.1.2.2.1 rfl ?_
      refine V_icmp_le (tgt := 22) dec_X11_dead.1.1.2.2.2.1 (by decide) ?_ ?_
      · refine V_iconst dec_X11_dead.1.2.1.1.2.1 rfl ?_
        exact V_pick [0, 1, 2] rfl (X11_dead_b23_s G l s2 a0 a1 a2 0 a0)
      · exact V_pick [0, 1, 2] rfl (X11_dead_b18_s G l s2 a0 a1 a2 a0)
theorem dec_X11_fault : (decode cX11_fault 0 = .ok (.aload_n 0, 1) ∧ (decode cX11_fault 1 = .ok (.getfield 103, 3) ∧ decode cX11_fault 4 = .ok (.ireturn, 1))) := by decide +kernel
def X11_fault (s : St) (a0 : Int) : Rs :=
  grd (isK s 21 a0) (some ((gI s a0 3), s))
set_option maxRecDepth 100000 in
set_option maxHeartbeats 4000000 in
theorem X11_fault_s (G : Gx) (l : Launch) (s : St) (a0 : Int) : Snd G l mX11_fault [(2, a0)] s (X11_fault s a0) := by
  refine Snd.of (by decide +kernel) rfl ?_
  show V G l mX11_fault 0 [(0, (2, a0))] [] s _
  unfold X11_fault
  refine V_aload_n dec_X11_fault.1 0 rfl ?_
  refine V_getI 11 3 nf_11_3 ft_11_3 fl_X11_103 dec_X11_fault.2.1 ?_
  exact V_iret rfl dec_X11_fault.2.2
theorem dec_X11_putNumber : ((((decode cX11_putNumber 0 = .ok (.bipush 24, 2) ∧ (decode cX11_putNumber 2 = .ok (.istore_n 2, 1) ∧ decode cX11_putNumber 3 = .ok (.iload_n 2, 1))) ∧ (decode cX11_putNumber 4 = .ok (.ifCond .lt 42, 3) ∧ (decode cX11_putNumber 7 = .ok (.aload_n 0, 1) ∧ decode cX11_putNumber 8 = .ok (.getfield 85, 3)))) ∧ ((decode cX11_putNumber 11 = .ok (.sipush 800, 3) ∧ (decode cX11_putNumber 14 = .ok (.if_icmp .ge 26, 3) ∧ decode cX11_putNumber 17 = .ok (.aload_n 0, 1))) ∧ ((decode cX11_putNumber 18 = .ok (.getfield 9, 3) ∧ decode cX11_putNumber 21 = .ok (.aload_n 0, 1)) ∧ (decode cX11_putNumber 22 = .ok (.getfield 85, 3) ∧ decode cX11_putNumber 25 = .ok (.iload_n 1, 1))))) ∧ (((decode cX11_putNumber 26 = .ok (.iload_n 2, 1) ∧ (decode cX11_putNumber 27 = .ok (.ishr, 1) ∧ decode cX11_putNumber 28 = .ok (.i2b, 1))) ∧ (decode cX11_putNumber 29 = .ok (.bastore, 1) ∧ (decode cX11_putNumber 30 = .ok (.aload_n 0, 1) ∧ decode cX11_putNumber 31 = .ok (.dup, 1)))) ∧ ((decode cX11_putNumber 32 = .ok (.getfield 85, 3) ∧ (decode cX11_putNumber 35 = .ok (.iconst 1, 1) ∧ decode cX11_putNumber 36 = .ok (.iadd, 1))) ∧ ((decode cX11_putNumber 37 = .ok (.putfield 85, 3) ∧ decode cX11_putNumber 40 = .ok (.iinc 2 (-8), 3)) ∧ (decode cX11_putNumber 43 = .ok (.goto (-40), 3) ∧ decode cX11_putNumber 46 = .ok (.return_, 1)))))) := ⟨⟨by decide +kernel, by decide +kernel⟩, ⟨by decide +kernel, by decide +kernel⟩⟩
def X11_putNumber_b40 (rk3 : St → Int → Int → Int → Rs) (s : St) (x0 x1 x2 : Int) : Rs :=
  rk3 s x0 x1 (w32 (x2 + (-8)))
set_option maxRecDepth 100000 in
set_option maxHeartbeats 4000000 in
theorem X11_putNumber_b40_s (G : Gx) (l : Launch) (rk3 : St → Int → Int → Int → Rs) (hk3 : ∀ (s : St) (x0 x1 x2 : Int), V G l mX11_putNumber 3 [(0, (2, x0)), (1, (0, x1)), (2, (0, x2))] [] s (rk3 s x0 x1 x2)) (s : St) (x0 x1 x2 : Int) : V G l mX11_putNumber 40 [(0, (2, x0)), (1, (0, x1)), (2, (0, x2))] [] s (X11_putNumber_b40 rk3 s x0 x1 x2) := by
  unfold X11_putNumber_b40
  refine V_iinc (lv' := [(2, (0, (w32 (x2 + (-8))))), (0, (2, x0)), (1, (0, x1))]) dec_X11_putNumber.2.2.2.1.2 2 rfl (by decide) rfl ?_
  refine V_goto (tgt := 3) dec_X11_putNumber.2.2.2.2.1 (by decide) ?_
  exact V_pick [1, 2, 0] rfl (hk3 s x0 x1 (w32 (x2 + (-8))))
def X11_putNumber_b3_body (rk3 : St → Int → Int → Int → Rs) (s : St) (x0 x1 x2 : Int) : Rs :=
  if x2 < 0 then (some (0, s)) else (grd (isK s 21 x0) (if (800 : Int) ≤ (gI s x0 1) then (X11_putNumber_b40 rk3 s x0 x1 x2) else (grd (isK s 21 x0) (grd (isK s 21 x0) (grd (isK s 2 (gR s x0 0) ∧ 0 ≤ (gI s x0 1) ∧ (gI s x0 1) < ln s (gR s x0 0)) (lets (pI s (gR s x0 0) (gI s x0 1).toNat (w8 (w8 (shr32 x1 x2)))) (fun s1 => grd (isK s1 21 x0) (grd (isK s1 21 x0) (lets (pI s1 x0 1 (w32 ((gI s1 x0 1) + 1))) (fun s2 => X11_putNumber_b40 rk3 s2 x0 x1 x2))))))))))
def X11_putNumber_b3 (n : Nat) (s : St) (x0 x1 x2 : Int) : Rs := iter (fun (rec : St × Int × Int × Int → Rs) (a : St × Int × Int × Int) => X11_putNumber_b3_body (fun (s : St) (x0 x1 x2 : Int) => rec (s, x0, x1, x2)) a.1 a.2.1 a.2.2.1 a.2.2.2) n (s, x0, x1, x2)
theorem X11_putNumber_b3_0 (s : St) (x0 x1 x2 : Int) : X11_putNumber_b3 0 s x0 x1 x2 = none := rfl
theorem X11_putNumber_b3_1 (n : Nat) (s : St) (x0 x1 x2 : Int) : X11_putNumber_b3 (n + 1) s x0 x1 x2 = X11_putNumber_b3_body (X11_putNumber_b3 n) s x0 x1 x2 := rfl
set_option maxRecDepth 100000 in
set_option maxHeartbeats 4000000 in
theorem X11_putNumber_b3_body_s (G : Gx) (l : Launch) (rk3 : St → Int → Int → Int → Rs) (hk3 : ∀ (s : St) (x0 x1 x2 : Int), V G l mX11_putNumber 3 [(0, (2, x0)), (1, (0, x1)), (2, (0, x2))] [] s (rk3 s x0 x1 x2)) (s : St) (x0 x1 x2 : Int) : V G l mX11_putNumber 3 [(0, (2, x0)), (1, (0, x1)), (2, (0, x2))] [] s (X11_putNumber_b3_body rk3 s x0 x1 x2) := by
  unfold X11_putNumber_b3_body
  refine V_iload_n dec_X11_putNumber.1.1.1.2.2 2 rfl ?_
  refine V_if_lt (tgt := 46) dec_X11_putNumber.1.1.2.1 (by decide) ?_ ?_
  · exact V_vret rfl dec_X11_putNumber.2.2.2.2.2
  · refine V_aload_n dec_X11_putNumber.1.1.2.2.1 0 rfl ?_
    refine V_getI 11 1 nf_11_1 ft_11_1 fl_X11_85 dec_X11_putNumber.1.1.2.2.2 ?_
    refine V_sipush dec_X11_putNumber.1.2.1.1 rfl ?_
    refine V_icmp_ge (tgt := 40) dec_X11_putNumber.1.2.1.2.1 (by decide) ?_ ?_
    · exact V_pick [0, 1, 2] rfl (X11_putNumber_b40_s G l rk3 hk3 s x0 x1 x2)
    · refine V_aload_n dec_X11_putNumber.1.2.1.2.2 0 rfl ?_
      refine V_getR 11 0 nf_11_0 ft_11_0 fl_X11_9 dec_X11_putNumber.1.2.2.1.1 ?_
      refine V_aload_n dec_X11_putNumber.1.2.2.1.2 0 rfl ?_
      refine V_getI 11 1 nf_11_1 ft_11_1 fl_X11_85 dec_X11_putNumber.1.2.2.2.1 ?_
      refine V_iload_n dec_X11_putNumber.1.2.2.2.2 1 rfl ?_
      refine V_iload_n dec_X11_putNumber.2.1.1.1 2 rfl ?_
      refine V_ishr dec_X11_putNumber.2.1.1.2.1 ?_
      refine V_i2b dec_X11_putNumber.2.1.1.2.2 ?_
      refine V_bast dec_X11_putNumber.2.1.2.1 ?_
      refine V_lets fun s1 => ?_
      refine V_aload_n dec_X11_putNumber.2.1.2.2.1 0 rfl ?_
      refine V_dup (nl2 _) dec_X11_putNumber.2.1.2.2.2 ?_
      refine V_getI 11 1 nf_11_1 ft_11_1 fl_X11_85 dec_X11_putNumber.2.2.1.1 ?_
      refine V_iconst dec_X11_putNumber.2.2.1.2.1 rfl ?_
      refine V_iadd dec_X11_putNumber.2.2.1.2.2 ?_
      refine V_putI (host := "") 11 1 nf_11_1 ty_11_1 (Or.inl ⟨fl_X11_85, Or.inl rfl⟩) dec_X11_putNumber.2.2.2.1.1 ?_
      refine V_lets fun s2 => ?_
      exact V_pick [0, 1, 2] rfl (X11_putNumber_b40_s G l rk3 hk3 s2 x0 x1 x2)
theorem X11_putNumber_b3_s (G : Gx) (l : Launch) (n : Nat) (s : St) (x0 x1 x2 : Int) : V G l mX11_putNumber 3 [(0, (2, x0)), (1, (0, x1)), (2, (0, x2))] [] s (X11_putNumber_b3 n s x0 x1 x2) :=
  V_iter (LV := fun a : St × Int × Int × Int => [(0, (2, a.2.1)), (1, (0, a.2.2.1)), (2, (0, a.2.2.2))]) (ST := fun a : St × Int × Int × Int => []) (SS := fun a : St × Int × Int × Int => a.1) (fun rec hrec a => X11_putNumber_b3_body_s G l (fun (s : St) (x0 x1 x2 : Int) => rec (s, x0, x1, x2)) (fun (s : St) (x0 x1 x2 : Int) => hrec (s, x0, x1, x2)) a.1 a.2.1 a.2.2.1 a.2.2.2) n (s, x0, x1, x2)
def X11_putNumber (s : St) (a0 a1 : Int) : Rs :=
  X11_putNumber_b3 FU s a0 a1 24
set_option maxRecDepth 100000 in
set_option maxHeartbeats 4000000 in
theorem X11_putNumber_s (G : Gx) (l : Launch) (s : St) (a0 a1 : Int) : Snd G l mX11_putNumber [(2, a0), (0, a1)] s (X11_putNumber s a0 a1) := by
  refine Snd.of (by decide +kernel) rfl ?_
  show V G l mX11_putNumber 0 [(0, (2, a0)), (1, (0, a1))] [] s _
  unfold X11_putNumber
  refine V_bipush dec_X11_putNumber.1.1.1.1 rfl ?_
  refine V_istore_n (lv' := [(2, (0, 24)), (0, (2, a0)), (1, (0, a1))]) dec_X11_putNumber.1.1.1.2.1 (by decide) rfl ?_
  exact V_pick [1, 2, 0] rfl (X11_putNumber_b3_s G l FU s a0 a1 24)
theorem dec_X11_feed : ((((decode cX11_feed 0 = .ok (.aload_n 0, 1) ∧ (decode cX11_feed 1 = .ok (.getfield 85, 3) ∧ decode cX11_feed 4 = .ok (.bipush 20, 2))) ∧ (decode cX11_feed 6 = .ok (.iadd, 1) ∧ (decode cX11_feed 7 = .ok (.sipush 800, 3) ∧ decode cX11_feed 10 = .ok (.if_icmp .le 5, 3)))) ∧ ((decode cX11_feed 13 = .ok (.iconst (-1), 1) ∧ (decode cX11_feed 14 = .ok (.ireturn, 1) ∧ decode cX11_feed 15 = .ok (.aload_n 0, 1))) ∧ ((decode cX11_feed 16 = .ok (.iload_n 1, 1) ∧ decode cX11_feed 17 = .ok (.invokevirtual 88, 3)) ∧ (decode cX11_feed 20 = .ok (.aload_n 0, 1) ∧ decode cX11_feed 21 = .ok (.iload_n 2, 1))))) ∧ (((decode cX11_feed 22 = .ok (.invokevirtual 88, 3) ∧ (decode cX11_feed 25 = .ok (.aload_n 0, 1) ∧ decode cX11_feed 26 = .ok (.iload_n 3, 1))) ∧ (decode cX11_feed 27 = .ok (.invokevirtual 88, 3) ∧ (decode cX11_feed 30 = .ok (.aload_n 0, 1) ∧ decode cX11_feed 31 = .ok (.iload 4, 2)))) ∧ ((decode cX11_feed 33 = .ok (.invokevirtual 88, 3) ∧ (decode cX11_feed 36 = .ok (.aload_n 0, 1) ∧ decode cX11_feed 37 = .ok (.iload 5, 2))) ∧ ((decode cX11_feed 39 = .ok (.invokevirtual 88, 3) ∧ decode cX11_feed 42 = .ok (.aload_n 0, 1)) ∧ (decode cX11_feed 43 = .ok (.getfield 85, 3) ∧ decode cX11_feed 46 = .ok (.ireturn, 1)))))) := ⟨⟨by decide +kernel, by decide +kernel⟩, ⟨by decide +kernel, by decide +kernel⟩⟩
def X11_feed (s : St) (a0 a1 a2 a3 a4 a5 : Int) : Rs :=
  grd (isK s 21 a0) (if (w32 ((gI s a0 1) + 20)) ≤ (800 : Int) then (grd (isK s 21 a0) (bnd (X11_putNumber s a0 a1) (fun r1 s2 => grd (isK s2 21 a0) (bnd (X11_putNumber s2 a0 a2) (fun r3 s4 => grd (isK s4 21 a0) (bnd (X11_putNumber s4 a0 a3) (fun r5 s6 => grd (isK s6 21 a0) (bnd (X11_putNumber s6 a0 a4) (fun r7 s8 => grd (isK s8 21 a0) (bnd (X11_putNumber s8 a0 a5) (fun r9 s10 => grd (isK s10 21 a0) (some ((gI s10 a0 1), s10))))))))))))) else (some ((-1), s)))
set_option maxRecDepth 100000 in
set_option maxHeartbeats 4000000 in
theorem X11_feed_s (G : Gx) (l : Launch) (s : St) (a0 a1 a2 a3 a4 a5 : Int) : Snd G l mX11_feed [(2, a0), (0, a1), (0, a2), (0, a3), (0, a4), (0, a5)] s (X11_feed s a0 a1 a2 a3 a4 a5) := by
  refine Snd.of (by decide +kernel) rfl ?_
  show V G l mX11_feed 0 [(0, (2, a0)), (1, (0, a1)), (2, (0, a2)), (3, (0, a3)), (4, (0, a4)), (5, (0, a5))] [] s _
  unfold X11_feed
  refine V_aload_n dec_X11_feed.1.1.1.1 0 rfl ?_
  refine V_getI 11 1 nf_11_1 ft_11_1 fl_X11_85 dec_X11_feed.1.1.1.2.1 ?_
  refine V_bipush dec_X11_feed.1.1.1.2.2 rfl ?_
  refine V_iadd dec_X11_feed.1.1.2.1 ?_
  refine V_sipush dec_X11_feed.1.1.2.2.1 rfl ?_
  refine V_icmp_le (tgt := 15) dec_X11_feed.1.1.2.2.2 (by decide) ?_ ?_
  · refine V_aload_n dec_X11_feed.1.2.1.2.2 0 rfl ?_
    refine V_iload_n dec_X11_feed.1.2.2.1.1 1 rfl ?_
    refine V_callV0 (ci := 11) (a := a0) (As := [(0, a1)]) (st := []) rfl rfl (X11_putNumber_s G l s a0 a1) cal_X11_putNumber rfl ml_X11_88 rfl rfl dec_X11_feed.1.2.2.1.2 (k_void rfl fun r1 s2 => ?_)
    refine V_aload_n dec_X11_feed.1.2.2.2.1 0 rfl ?_
    refine V_iload_n dec_X11_feed.1.2.2.2.2 2 rfl ?_
    refine V_callV0 (ci := 11) (a := a0) (As := [(0, a2)]) (st := []) rfl rfl (X11_putNumber_s G l s2 a0 a2) cal_X11_putNumber rfl ml_X11_88 rfl rfl dec_X11_feed.2.1.1.1 (k_void rfl fun r3 s4 => ?_)
    refine V_aload_n dec_X11_feed.2.1.1.2.1 0 rfl ?_
    refine V_iload_n dec_X11_feed.2.1.1.2.2 3 rfl ?_
    refine V_callV0 (ci := 11) (a := a0) (As := [(0, a3)]) (st := []) rfl rfl (X11_putNumber_s G l s4 a0 a3) cal_X11_putNumber rfl ml_X11_88 rfl rfl dec_X11_feed.2.1.2.1 (k_void rfl fun r5 s6 => ?_)
    refine V_aload_n dec_X11_feed.2.1.2.2.1 0 rfl ?_
    refine V_iload dec_X11_feed.2.1.2.2.2 4 rfl ?_
    refine V_callV0 (ci := 11) (a := a0) (As := [(0, a4)]) (st := []) rfl rfl (X11_putNumber_s G l s6 a0 a4) cal_X11_putNumber rfl ml_X11_88 rfl rfl dec_X11_feed.2.2.1.1 (k_void rfl fun r7 s8 => ?_)
    refine V_aload_n dec_X11_feed.2.2.1.2.1 0 rfl ?_
    refine V_iload dec_X11_feed.2.2.1.2.2 5 rfl ?_
    refine V_callV0 (ci := 11) (a := a0) (As := [(0, a5)]) (st := []) rfl rfl (X11_putNumber_s G l s8 a0 a5) cal_X11_putNumber rfl ml_X11_88 rfl rfl dec_X11_feed.2.2.2.1.1 (k_void rfl fun r9 s10 => ?_)
    refine V_aload_n dec_X11_feed.2.2.2.1.2 0 rfl ?_
    refine V_getI 11 1 nf_11_1 ft_11_1 fl_X11_85 dec_X11_feed.2.2.2.2.1 ?_
    exact V_iret rfl dec_X11_feed.2.2.2.2.2
  · refine V_iconst dec_X11_feed.1.2.1.1 rfl ?_
    exact V_iret rfl dec_X11_feed.1.2.1.2.1
theorem dec_X11_fitAt : ((((decode cX11_fitAt 0 = .ok (.aload_n 0, 1) ∧ (decode cX11_fitAt 1 = .ok (.aload_n 0, 1) ∧ decode cX11_fitAt 2 = .ok (.invokevirtual 203, 3))) ∧ (decode cX11_fitAt 5 = .ok (.ifCond .ne 18, 3) ∧ (decode cX11_fitAt 8 = .ok (.iload_n 1, 1) ∧ decode cX11_fitAt 9 = .ok (.ifCond .lt 14, 3)))) ∧ ((decode cX11_fitAt 12 = .ok (.iload_n 1, 1) ∧ (decode cX11_fitAt 13 = .ok (.aload_n 0, 1) ∧ decode cX11_fitAt 14 = .ok (.getfield 60, 3))) ∧ (decode cX11_fitAt 17 = .ok (.getfield 277, 3) ∧ (decode cX11_fitAt 20 = .ok (.if_icmp .lt 7, 3) ∧ decode cX11_fitAt 23 = .ok (.iconst 1, 1))))) ∧ (((decode cX11_fitAt 24 = .ok (.goto 4, 3) ∧ (decode cX11_fitAt 27 = .ok (.iconst 0, 1) ∧ decode cX11_fitAt 28 = .ok (.iconst 0, 1))) ∧ (decode cX11_fitAt 29 = .ok (.invokevirtual 92, 3) ∧ (decode cX11_fitAt 32 = .ok (.ifCond .eq 5, 3) ∧ decode cX11_fitAt 35 = .ok (.iconst (-1), 1)))) ∧ ((decode cX11_fitAt 36 = .ok (.ireturn, 1) ∧ (decode cX11_fitAt 37 = .ok (.aload_n 0, 1) ∧ decode cX11_fitAt 38 = .ok (.getfield 60, 3))) ∧ ((decode cX11_fitAt 41 = .ok (.getfield 278, 3) ∧ decode cX11_fitAt 44 = .ok (.iload_n 1, 1)) ∧ (decode cX11_fitAt 45 = .ok (.iaload, 1) ∧ decode cX11_fitAt 46 = .ok (.ireturn, 1)))))) := ⟨by decide +kernel, ⟨by decide +kernel, by decide +kernel⟩⟩
def X11_fitAt_b28 (s : St) (x0 x1 k0 k1 : Int) : Rs :=
  grd (isK s 21 k1) (bnd (X11_refused s k1 k0 0) (fun r3 s4 => if r3 = 0 then (grd (isK s4 21 x0) (grd (isK s4 11 (gR s4 x0 11)) (grd (isK s4 1 (gR s4 (gR s4 x0 11) 0) ∧ 0 ≤ x1 ∧ x1 < ln s4 (gR s4 (gR s4 x0 11) 0)) (some ((gI s4 (gR s4 (gR s4 x0 11) 0) x1.toNat), s4))))) else (some ((-1), s4))))
set_option maxRecDepth 100000 in
set_option maxHeartbeats 4000000 in
theorem X11_fitAt_b28_s (G : Gx) (l : Launch) (s : St) (x0 x1 k0 k1 : Int) : V G l mX11_fitAt 28 [(0, (2, x0)), (1, (0, x1))] [(0, k0), (2, k1)] s (X11_fitAt_b28 s x0 x1 k0 k1) := by
  unfold X11_fitAt_b28
  refine V_iconst dec_X11_fitAt.2.1.1.2.2 rfl ?_
  refine V_callV0 (ci := 11) (a := k1) (As := [(0, k0), (0, 0)]) (st := []) rfl rfl (X11_refused_s G l s k1 k0 0) cal_X11_refused rfl ml_X11_92 rfl rfl dec_X11_fitAt.2.1.2.1 (k_tag (tag := 0) rfl fun r3 s4 => ?_)
  refine V_if_eq (tgt := 37) dec_X11_fitAt.2.1.2.2.1 (by decide) ?_ ?_
  · refine V_aload_n dec_X11_fitAt.2.2.1.2.1 0 rfl ?_
    refine V_getR 11 11 nf_11_11 ft_11_11 fl_X11_60 dec_X11_fitAt.2.2.1.2.2 ?_
    refine V_getR 1 0 nf_1_0 ft_1_0 fl_X11_278 dec_X11_fitAt.2.2.2.1.1 ?_
    refine V_iload_n dec_X11_fitAt.2.2.2.1.2 1 rfl ?_
    refine V_iald dec_X11_fitAt.2.2.2.2.1 ?_
    exact V_iret rfl dec_X11_fitAt.2.2.2.2.2
  · refine V_iconst dec_X11_fitAt.2.1.2.2.2 rfl ?_
    exact V_iret rfl dec_X11_fitAt.2.2.1.1
def X11_fitAt_b23 (s : St) (x0 x1 k0 : Int) : Rs :=
  X11_fitAt_b28 s x0 x1 1 k0
set_option maxRecDepth 100000 in
set_option maxHeartbeats 4000000 in
theorem X11_fitAt_b23_s (G : Gx) (l : Launch) (s : St) (x0 x1 k0 : Int) : V G l mX11_fitAt 23 [(0, (2, x0)), (1, (0, x1))] [(2, k0)] s (X11_fitAt_b23 s x0 x1 k0) := by
  unfold X11_fitAt_b23
  refine V_iconst dec_X11_fitAt.1.2.2.2.2 rfl ?_
  refine V_goto (tgt := 28) dec_X11_fitAt.2.1.1.1 (by decide) ?_
  exact V_pick [0, 1] rfl (X11_fitAt_b28_s G l s x0 x1 1 k0)
def X11_fitAt (s : St) (a0 a1 : Int) : Rs :=
  grd (isK s 21 a0) (bnd (X11_isNoTown s a0) (fun r1 s2 => if ¬ r1 = 0 then (X11_fitAt_b23 s2 a0 a1 a0) else (if a1 < 0 then (X11_fitAt_b23 s2 a0 a1 a0) else (grd (isK s2 21 a0) (grd (isK s2 11 (gR s2 a0 11)) (if a1 < (gI s2 (gR s2 a0 11) 1) then (X11_fitAt_b28 s2 a0 a1 0 a0) else (X11_fitAt_b23 s2 a0 a1 a0)))))))
set_option maxRecDepth 100000 in
set_option maxHeartbeats 4000000 in
theorem X11_fitAt_s (G : Gx) (l : Launch) (s : St) (a0 a1 : Int) : Snd G l mX11_fitAt [(2, a0), (0, a1)] s (X11_fitAt s a0 a1) := by
  refine Snd.of (by decide +kernel) rfl ?_
  show V G l mX11_fitAt 0 [(0, (2, a0)), (1, (0, a1))] [] s _
  unfold X11_fitAt
  refine V_aload_n dec_X11_fitAt.1.1.1.1 0 rfl ?_
  refine V_aload_n dec_X11_fitAt.1.1.1.2.1 0 rfl ?_
  refine V_callV0 (ci := 11) (a := a0) (As := []) (st := [(2, a0)]) rfl rfl (X11_isNoTown_s G l s a0) cal_X11_isNoTown rfl ml_X11_203 rfl rfl dec_X11_fitAt.1.1.1.2.2 (k_tag (tag := 0) rfl fun r1 s2 => ?_)
  refine V_if_ne (tgt := 23) dec_X11_fitAt.1.1.2.1 (by decide) ?_ ?_
  · exact V_pick [0, 1] rfl (X11_fitAt_b23_s G l s2 a0 a1 a0)
  · refine V_iload_n dec_X11_fitAt.1.1.2.2.1 1 rfl ?_
    refine V_if_lt (tgt := 23) dec_X11_fitAt.1.1.2.2.2 (by decide) ?_ ?_
    · exact V_pick [0, 1] rfl (X11_fitAt_b23_s G l s2 a0 a1 a0)
    · refine V_iload_n dec_X11_fitAt.1.2.1.1 1 rfl ?_
      refine V_aload_n dec_X11_fitAt.1.2.1.2.1 0 rfl ?_
      refine V_getR 11 11 nf_11_11 ft_11_11 fl_X11_60 dec_X11_fitAt.1.2.1.2.2 ?_
      refine V_getI 1 1 nf_1_1 ft_1_1 fl_X11_277 dec_X11_fitAt.1.2.2.1 ?_
      refine V_icmp_lt (tgt := 27) dec_X11_fitAt.1.2.2.2.1 (by decide) ?_ ?_
      · refine V_iconst dec_X11_fitAt.2.1.1.2.1 rfl ?_
        exact V_pick [0, 1] rfl (X11_fitAt_b28_s G l s2 a0 a1 0 a0)
      · exact V_pick [0, 1] rfl (X11_fitAt_b23_s G l s2 a0 a1 a0)
theorem dec_X11_fits : (((decode cX11_fits 0 = .ok (.aload_n 0, 1) ∧ (decode cX11_fits 1 = .ok (.aload_n 0, 1) ∧ decode cX11_fits 2 = .ok (.invokevirtual 203, 3))) ∧ (decode cX11_fits 5 = .ok (.iconst 0, 1) ∧ (decode cX11_fits 6 = .ok (.invokevirtual 92, 3) ∧ decode cX11_fits 9 = .ok (.ifCond .eq 5, 3)))) ∧ ((decode cX11_fits 12 = .ok (.iconst (-1), 1) ∧ (decode cX11_fits 13 = .ok (.ireturn, 1) ∧ decode cX11_fits 14 = .ok (.aload_n 0, 1))) ∧ (decode cX11_fits 15 = .ok (.getfield 60, 3) ∧ (decode cX11_fits 18 = .ok (.getfield 277, 3) ∧ decode cX11_fits 21 = .ok (.ireturn, 1))))) := by decide +kernel
def X11_fits (s : St) (a0 : Int) : Rs :=
  grd (isK s 21 a0) (bnd (X11_isNoTown s a0) (fun r1 s2 => grd (isK s2 21 a0) (bnd (X11_refused s2 a0 r1 0) (fun r3 s4 => if r3 = 0 then (grd (isK s4 21 a0) (grd (isK s4 11 (gR s4 a0 11)) (some ((gI s4 (gR s4 a0 11) 1), s4)))) else (some ((-1), s4))))))
set_option maxRecDepth 100000 in
set_option maxHeartbeats 4000000 in
theorem X11_fits_s (G : Gx) (l : Launch) (s : St) (a0 : Int) : Snd G l mX11_fits [(2, a0)] s (X11_fits s a0) := by
  refine Snd.of (by decide +kernel) rfl ?_
  show V G l mX11_fits 0 [(0, (2, a0))] [] s _
  unfold X11_fits
  refine V_aload_n dec_X11_fits.1.1.1 0 rfl ?_
  refine V_aload_n dec_X11_fits.1.1.2.1 0 rfl ?_
  refine V_callV0 (ci := 11) (a := a0) (As := []) (st := [(2, a0)]) rfl rfl (X11_isNoTown_s G l s a0) cal_X11_isNoTown rfl ml_X11_203 rfl rfl dec_X11_fits.1.1.2.2 (k_tag (tag := 0) rfl fun r1 s2 => ?_)
  refine V_iconst dec_X11_fits.1.2.1 rfl ?_
  refine V_callV0 (ci := 11) (a := a0) (As := [(0, r1), (0, 0)]) (st := []) rfl rfl (X11_refused_s G l s2 a0 r1 0) cal_X11_refused rfl ml_X11_92 rfl rfl dec_X11_fits.1.2.2.1 (k_tag (tag := 0) rfl fun r3 s4 => ?_)
  refine V_if_eq (tgt := 14) dec_X11_fits.1.2.2.2 (by decide) ?_ ?_
  · refine V_aload_n dec_X11_fits.2.1.2.2 0 rfl ?_
    refine V_getR 11 11 nf_11_11 ft_11_11 fl_X11_60 dec_X11_fits.2.2.1 ?_
    refine V_getI 1 1 nf_1_1 ft_1_1 fl_X11_277 dec_X11_fits.2.2.2.1 ?_
    exact V_iret rfl dec_X11_fits.2.2.2.2
  · refine V_iconst dec_X11_fits.2.1.1 rfl ?_
    exact V_iret rfl dec_X11_fits.2.1.2.1
theorem dec_X11_hang : ((((decode cX11_hang 0 = .ok (.aload_n 0, 1) ∧ decode cX11_hang 1 = .ok (.aload_n 0, 1)) ∧ (decode cX11_hang 2 = .ok (.iload_n 1, 1) ∧ (decode cX11_hang 3 = .ok (.invokevirtual 160, 3) ∧ decode cX11_hang 6 = .ok (.ifCond .ne 11, 3)))) ∧ ((decode cX11_hang 9 = .ok (.aload_n 0, 1) ∧ (decode cX11_hang 10 = .ok (.iload_n 2, 1) ∧ decode cX11_hang 11 = .ok (.invokevirtual 175, 3))) ∧ (decode cX11_hang 14 = .ok (.ifCond .eq 7, 3) ∧ (decode cX11_hang 17 = .ok (.iconst 1, 1) ∧ decode cX11_hang 18 = .ok (.goto 4, 3))))) ∧ (((decode cX11_hang 21 = .ok (.iconst 0, 1) ∧ decode cX11_hang 22 = .ok (.iconst 0, 1)) ∧ (decode cX11_hang 23 = .ok (.invokevirtual 92, 3) ∧ (decode cX11_hang 26 = .ok (.ifCond .eq 5, 3) ∧ decode cX11_hang 29 = .ok (.iconst 0, 1)))) ∧ ((decode cX11_hang 30 = .ok (.ireturn, 1) ∧ (decode cX11_hang 31 = .ok (.aload_n 0, 1) ∧ decode cX11_hang 32 = .ok (.iload_n 1, 1))) ∧ (decode cX11_hang 33 = .ok (.iload_n 2, 1) ∧ (decode cX11_hang 34 = .ok (.invokevirtual 351, 3) ∧ decode cX11_hang 37 = .ok (.ireturn, 1)))))) := ⟨by decide +kernel, by decide +kernel⟩
def X11_hang_b22 (s : St) (x0 x1 x2 k0 k1 : Int) : Rs :=
  grd (isK s 21 k1) (bnd (X11_refused s k1 k0 0) (fun r3 s4 => if r3 = 0 then (grd (isK s4 21 x0) (bnd (X11_changeMirror s4 x0 x1 x2) (fun r5 s6 => grd (r5 = 0 ∨ r5 = 1) (some (r5, s6))))) else (grd ((0 : Int) = 0 ∨ (0 : Int) = 1) (some (0, s4)))))
set_option maxRecDepth 100000 in
set_option maxHeartbeats 4000000 in
theorem X11_hang_b22_s (G : Gx) (l : Launch) (s : St) (x0 x1 x2 k0 k1 : Int) : V G l mX11_hang 22 [(0, (2, x0)), (1, (0, x1)), (2, (0, x2))] [(0, k0), (2, k1)] s (X11_hang_b22 s x0 x1 x2 k0 k1) := by
  unfold X11_hang_b22
  refine V_iconst dec_X11_hang.2.1.1.2 rfl ?_
  refine V_callV0 (ci := 11) (a := k1) (As := [(0, k0), (0, 0)]) (st := []) rfl rfl (X11_refused_s G l s k1 k0 0) cal_X11_refused rfl ml_X11_92 rfl rfl dec_X11_hang.2.1.2.1 (k_tag (tag := 0) rfl fun r3 s4 => ?_)
  refine V_if_eq (tgt := 31) dec_X11_hang.2.1.2.2.1 (by decide) ?_ ?_
  · refine V_aload_n dec_X11_hang.2.2.1.2.1 0 rfl ?_
    refine V_iload_n dec_X11_hang.2.2.1.2.2 1 rfl ?_
    refine V_iload_n dec_X11_hang.2.2.2.1 2 rfl ?_
    refine V_callV0 (ci := 11) (a := x0) (As := [(0, x1), (0, x2)]) (st := []) rfl rfl (X11_changeMirror_s G l s4 x0 x1 x2) cal_X11_changeMirror rfl ml_X11_351 rfl rfl dec_X11_hang.2.2.2.2.1 (k_tag (tag := 0) rfl fun r5 s6 => ?_)
    exact V_zret rfl dec_X11_hang.2.2.2.2.2
  · refine V_iconst dec_X11_hang.2.1.2.2.2 rfl ?_
    exact V_zret rfl dec_X11_hang.2.2.1.1
def X11_hang_b17 (s : St) (x0 x1 x2 k0 : Int) : Rs :=
  X11_hang_b22 s x0 x1 x2 1 k0
set_option maxRecDepth 100000 in
set_option maxHeartbeats 4000000 in
theorem X11_hang_b17_s (G : Gx) (l : Launch) (s : St) (x0 x1 x2 k0 : Int) : V G l mX11_hang 17 [(0, (2, x0)), (1, (0, x1)), (2, (0, x2))] [(2, k0)] s (X11_hang_b17 s x0 x1 x2 k0) := by
  unfold X11_hang_b17
  refine V_iconst dec_X11_hang.1.2.2.2.1 rfl ?_
  refine V_goto (tgt := 22) dec_X11_hang.1.2.2.2.2 (by decide) ?_
  exact V_pick [0, 1, 2] rfl (X11_hang_b22_s G l s x0 x1 x2 1 k0)
def X11_hang (s : St) (a0 a1 a2 : Int) : Rs :=
  grd (isK s 21 a0) (bnd (X11_isNoDead s a0 a1) (fun r1 s2 => if ¬ r1 = 0 then (X11_hang_b17 s2 a0 a1 a2 a0) else (grd (isK s2 21 a0) (bnd (X11_isNoHouse s2 a0 a2) (fun r7 s8 => if r7 = 0 then (X11_hang_b22 s8 a0 a1 a2 0 a0) else (X11_hang_b17 s8 a0 a1 a2 a0))))))
set_option maxRecDepth 100000 in
set_option maxHeartbeats 4000000 in
theorem X11_hang_s (G : Gx) (l : Launch) (s : St) (a0 a1 a2 : Int) : Snd G l mX11_hang [(2, a0), (0, a1), (0, a2)] s (X11_hang s a0 a1 a2) := by
  refine Snd.of (by decide +kernel) rfl ?_
  show V G l mX11_hang 0 [(0, (2, a0)), (1, (0, a1)), (2, (0, a2))] [] s _
  unfold X11_hang
  refine V_aload_n dec_X11_hang.1.1.1.1 0 rfl ?_
  refine V_aload_n dec_X11_hang.1.1.1.2 0 rfl ?_
  refine V_iload_n dec_X11_hang.1.1.2.1 1 rfl ?_
  refine V_callV0 (ci := 11) (a := a0) (As := [(0, a1)]) (st := [(2, a0)]) rfl rfl (X11_isNoDead_s G l s a0 a1) cal_X11_isNoDead rfl ml_X11_160 rfl rfl dec_X11_hang.1.1.2.2.1 (k_tag (tag := 0) rfl fun r1 s2 => ?_)
  refine V_if_ne (tgt := 17) dec_X11_hang.1.1.2.2.2 (by decide) ?_ ?_
  · exact V_pick [0, 1, 2] rfl (X11_hang_b17_s G l s2 a0 a1 a2 a0)
  · refine V_aload_n dec_X11_hang.1.2.1.1 0 rfl ?_
    refine V_iload_n dec_X11_hang.1.2.1.2.1 2 rfl ?_
    refine V_callV0 (ci := 11) (a := a0) (As := [(0, a2)]) (st := [(2, a0)]) rfl rfl (X11_isNoHouse_s G l s2 a0 a2) cal_X11_isNoHouse rfl ml_X11_175 rfl rfl dec_X11_hang.1.2.1.2.2 (k_tag (tag := 0) rfl fun r7 s8 => ?_)
    refine V_if_eq (tgt := 21) dec_X11_hang.1.2.2.1 (by decide) ?_ ?_
    · refine V_iconst dec_X11_hang.2.1.1.1 rfl ?_
      exact V_pick [0, 1, 2] rfl (X11_hang_b22_s G l s8 a0 a1 a2 0 a0)
    · exact V_pick [0, 1, 2] rfl (X11_hang_b17_s G l s8 a0 a1 a2 a0)
theorem dec_X11_isNoSeed : (((decode cX11_isNoSeed 0 = .ok (.iload_n 0, 1) ∧ decode cX11_isNoSeed 1 = .ok (.ifCond .lt 10, 3)) ∧ (decode cX11_isNoSeed 4 = .ok (.iload_n 0, 1) ∧ decode cX11_isNoSeed 5 = .ok (.ldc_w 375, 3))) ∧ ((decode cX11_isNoSeed 8 = .ok (.if_icmp .le 7, 3) ∧ decode cX11_isNoSeed 11 = .ok (.iconst 1, 1)) ∧ (decode cX11_isNoSeed 12 = .ok (.goto 4, 3) ∧ (decode cX11_isNoSeed 15 = .ok (.iconst 0, 1) ∧ decode cX11_isNoSeed 16 = .ok (.ireturn, 1))))) := by decide +kernel
def X11_isNoSeed_b16 (s : St) (k0 : Int) : Rs :=
  grd (k0 = 0 ∨ k0 = 1) (some (k0, s))
set_option maxRecDepth 100000 in
set_option maxHeartbeats 4000000 in
theorem X11_isNoSeed_b16_s (G : Gx) (l : Launch) (s : St) (k0 : Int) : V G l mX11_isNoSeed 16 [] [(0, k0)] s (X11_isNoSeed_b16 s k0) := by
  unfold X11_isNoSeed_b16
  exact V_zret rfl dec_X11_isNoSeed.2.2.2.2
def X11_isNoSeed_b11 (s : St) : Rs :=
  X11_isNoSeed_b16 s 1
set_option maxRecDepth 100000 in
set_option maxHeartbeats 4000000 in
theorem X11_isNoSeed_b11_s (G : Gx) (l : Launch) (s : St) : V G l mX11_isNoSeed 11 [] [] s (X11_isNoSeed_b11 s) := by
  unfold X11_isNoSeed_b11
  refine V_iconst dec_X11_isNoSeed.2.1.2 rfl ?_
  refine V_goto (tgt := 16) dec_X11_isNoSeed.2.2.1 (by decide) ?_
  exact V_pick [] rfl (X11_isNoSeed_b16_s G l s 1)
def X11_isNoSeed (s : St) (a0 : Int) : Rs :=
  if a0 < 0 then (X11_isNoSeed_b11 s) else (if a0 ≤ (65536 : Int) then (X11_isNoSeed_b16 s 0) else (X11_isNoSeed_b11 s))
set_option maxRecDepth 100000 in
set_option maxHeartbeats 4000000 in
theorem X11_isNoSeed_s (G : Gx) (l : Launch) (s : St) (a0 : Int) : Snd G l mX11_isNoSeed [(0, a0)] s (X11_isNoSeed s a0) := by
  refine Snd.of (by decide +kernel) rfl ?_
  show V G l mX11_isNoSeed 0 [(0, (0, a0))] [] s _
  unfold X11_isNoSeed
  refine V_iload_n dec_X11_isNoSeed.1.1.1 0 rfl ?_
  refine V_if_lt (tgt := 11) dec_X11_isNoSeed.1.1.2 (by decide) ?_ ?_
  · exact V_pick [] rfl (X11_isNoSeed_b11_s G l s)
  · refine V_iload_n dec_X11_isNoSeed.1.2.1 0 rfl ?_
    refine V_ldcw (n := 65536) cw_X11_375 (by decide) dec_X11_isNoSeed.1.2.2 ?_
    refine V_icmp_le (tgt := 15) dec_X11_isNoSeed.2.1.1 (by decide) ?_ ?_
    · refine V_iconst dec_X11_isNoSeed.2.2.2.1 rfl ?_
      exact V_pick [] rfl (X11_isNoSeed_b16_s G l s 0)
    · exact V_pick [] rfl (X11_isNoSeed_b11_s G l s)
theorem dec_X2_draw : (((decode cX2_draw 0 = .ok (.aload_n 0, 1) ∧ (decode cX2_draw 1 = .ok (.bipush 75, 2) ∧ decode cX2_draw 3 = .ok (.aload_n 0, 1))) ∧ ((decode cX2_draw 4 = .ok (.getfield 45, 3) ∧ decode cX2_draw 7 = .ok (.imul, 1)) ∧ (decode cX2_draw 8 = .ok (.bipush 74, 2) ∧ decode cX2_draw 10 = .ok (.iadd, 1)))) ∧ (((decode cX2_draw 11 = .ok (.ldc 48, 2) ∧ decode cX2_draw 13 = .ok (.irem, 1)) ∧ (decode cX2_draw 14 = .ok (.putfield 45, 3) ∧ decode cX2_draw 17 = .ok (.aload_n 0, 1))) ∧ ((decode cX2_draw 18 = .ok (.getfield 45, 3) ∧ decode cX2_draw 21 = .ok (.bipush 100, 2)) ∧ (decode cX2_draw 23 = .ok (.irem, 1) ∧ decode cX2_draw 24 = .ok (.ireturn, 1))))) := ⟨by decide +kernel, by decide +kernel⟩
def X2_draw (s : St) (a0 : Int) : Rs :=
  grd (isK s 12 a0) (grd ((65537 : Int) ≠ 0) (grd (isK s 12 a0) (lets (pI s a0 1 (Int.tmod (w32 ((w32 (75 * (gI s a0 1))) + 74)) 65537)) (fun s1 => grd (isK s1 12 a0) (grd ((100 : Int) ≠ 0) (some ((Int.tmod (gI s1 a0 1) 100), s1)))))))
set_option maxRecDepth 100000 in
set_option maxHeartbeats 4000000 in
theorem X2_draw_s (G : Gx) (l : Launch) (s : St) (a0 : Int) : Snd G l mX2_draw [(2, a0)] s (X2_draw s a0) := by
  refine Snd.of (by decide +kernel) rfl ?_
  show V G l mX2_draw 0 [(0, (2, a0))] [] s _
  unfold X2_draw
  refine V_aload_n dec_X2_draw.1.1.1 0 rfl ?_
  refine V_bipush dec_X2_draw.1.1.2.1 rfl ?_
  refine V_aload_n dec_X2_draw.1.1.2.2 0 rfl ?_
  refine V_getI 2 1 nf_2_1 ft_2_1 fl_X2_45 dec_X2_draw.1.2.1.1 ?_
  refine V_imul dec_X2_draw.1.2.1.2 ?_
  refine V_bipush dec_X2_draw.1.2.2.1 rfl ?_
  refine V_iadd dec_X2_draw.1.2.2.2 ?_
  refine V_ldc (n := 65537) cw_X2_48 (by decide) dec_X2_draw.2.1.1.1 ?_
  refine V_irem dec_X2_draw.2.1.1.2 ?_
  refine V_putI (host := "") 2 1 nf_2_1 ty_2_1 (Or.inl ⟨fl_X2_45, Or.inl rfl⟩) dec_X2_draw.2.1.2.1 ?_
  refine V_lets fun s1 => ?_
  refine V_aload_n dec_X2_draw.2.1.2.2 0 rfl ?_
  refine V_getI 2 1 nf_2_1 ft_2_1 fl_X2_45 dec_X2_draw.2.2.1.1 ?_
  refine V_bipush dec_X2_draw.2.2.1.2 rfl ?_
  refine V_irem dec_X2_draw.2.2.2.1 ?_
  exact V_iret rfl dec_X2_draw.2.2.2.2
theorem dec_X2_drawnListener : ((((decode cX2_drawnListener 0 = .ok (.aload_n 0, 1) ∧ decode cX2_drawnListener 1 = .ok (.invokevirtual 49, 3)) ∧ (decode cX2_drawnListener 4 = .ok (.aload_n 1, 1) ∧ decode cX2_drawnListener 5 = .ok (.getfield 15, 3))) ∧ ((decode cX2_drawnListener 8 = .ok (.getfield 21, 3) ∧ decode cX2_drawnListener 11 = .ok (.if_icmp .ge 12, 3)) ∧ (decode cX2_drawnListener 14 = .ok (.aload_n 1, 1) ∧ decode cX2_drawnListener 15 = .ok (.iload_n 2, 1)))) ∧ (((decode cX2_drawnListener 16 = .ok (.iload_n 3, 1) ∧ decode cX2_drawnListener 17 = .ok (.invokevirtual 31, 3)) ∧ (decode cX2_drawnListener 20 = .ok (.goto 9, 3) ∧ decode cX2_drawnListener 23 = .ok (.aload_n 1, 1))) ∧ ((decode cX2_drawnListener 24 = .ok (.iload_n 2, 1) ∧ decode cX2_drawnListener 25 = .ok (.iload_n 3, 1)) ∧ (decode cX2_drawnListener 26 = .ok (.invokevirtual 27, 3) ∧ decode cX2_drawnListener 29 = .ok (.ireturn, 1))))) := ⟨by decide +kernel, by decide +kernel⟩
def X2_drawnListener_b29 (s : St) (k0 : Int) : Rs :=
  some (k0, s)
set_option maxRecDepth 100000 in
set_option maxHeartbeats 4000000 in
theorem X2_drawnListener_b29_s (G : Gx) (l : Launch) (s : St) (k0 : Int) : V G l mX2_drawnListener 29 [] [(0, k0)] s (X2_drawnListener_b29 s k0) := by
  unfold X2_drawnListener_b29
  exact V_iret rfl dec_X2_drawnListener.2.2.2.2
def X2_drawnListener (s : St) (a0 a1 a2 a3 : Int) : Rs :=
  grd (isK s 12 a0) (bnd (X2_draw s a0) (fun r1 s2 => grd (isK s2 20 a1) (grd (isK s2 19 (gR s2 a1 0)) (if (gI s2 (gR s2 a1 0) 1) ≤ r1 then (grd (isK s2 20 a1) (bnd (X10_listener s2 a1 a2 a3) (fun r3 s4 => X2_drawnListener_b29 s4 r3))) else (grd (isK s2 20 a1) (bnd (X10_listenerFurtherOn s2 a1 a2 a3) (fun r5 s6 => X2_drawnListener_b29 s6 r5)))))))
set_option maxRecDepth 100000 in
set_option maxHeartbeats 4000000 in
theorem X2_drawnListener_s (G : Gx) (l : Launch) (s : St) (a0 a1 a2 a3 : Int) : Snd G l mX2_drawnListener [(2, a0), (2, a1), (0, a2), (0, a3)] s (X2_drawnListener s a0 a1 a2 a3) := by
  refine Snd.of (by decide +kernel) rfl ?_
  show V G l mX2_drawnListener 0 [(0, (2, a0)), (1, (2, a1)), (2, (0, a2)), (3, (0, a3))] [] s _
  unfold X2_drawnListener
  refine V_aload_n dec_X2_drawnListener.1.1.1.1 0 rfl ?_
  refine V_callV0 (ci := 2) (a := a0) (As := []) (st := []) rfl rfl (X2_draw_s G l s a0) cal_X2_draw rfl ml_X2_49 rfl rfl dec_X2_drawnListener.1.1.1.2 (k_tag (tag := 0) rfl fun r1 s2 => ?_)
  refine V_aload_n dec_X2_drawnListener.1.1.2.1 1 rfl ?_
  refine V_getR 10 0 nf_10_0 ft_10_0 fl_X2_15 dec_X2_drawnListener.1.1.2.2 ?_
  refine V_getI 9 1 nf_9_1 ft_9_1 fl_X2_21 dec_X2_drawnListener.1.2.1.1 ?_
  refine V_icmp_ge (tgt := 23) dec_X2_drawnListener.1.2.1.2 (by decide) ?_ ?_
  · refine V_aload_n dec_X2_drawnListener.2.1.2.2 1 rfl ?_
    refine V_iload_n dec_X2_drawnListener.2.2.1.1 2 rfl ?_
    refine V_iload_n dec_X2_drawnListener.2.2.1.2 3 rfl ?_
    refine V_callV0 (ci := 10) (a := a1) (As := [(0, a2), (0, a3)]) (st := []) rfl rfl (X10_listener_s G l s2 a1 a2 a3) cal_X10_listener rfl ml_X2_27 rfl rfl dec_X2_drawnListener.2.2.2.1 (k_tag (tag := 0) rfl fun r3 s4 => ?_)
    exact V_pick [] rfl (X2_drawnListener_b29_s G l s4 r3)
  · refine V_aload_n dec_X2_drawnListener.1.2.2.1 1 rfl ?_
    refine V_iload_n dec_X2_drawnListener.1.2.2.2 2 rfl ?_
    refine V_iload_n dec_X2_drawnListener.2.1.1.1 3 rfl ?_
    refine V_callV0 (ci := 10) (a := a1) (As := [(0, a2), (0, a3)]) (st := []) rfl rfl (X10_listenerFurtherOn_s G l s2 a1 a2 a3) cal_X10_listenerFurtherOn rfl ml_X2_31 rfl rfl dec_X2_drawnListener.2.1.1.2 (k_tag (tag := 0) rfl fun r5 s6 => ?_)
    refine V_goto (tgt := 29) dec_X2_drawnListener.2.1.2.1 (by decide) ?_
    exact V_pick [] rfl (X2_drawnListener_b29_s G l s6 r5)
theorem dec_X2_skip : (((decode cX2_skip 0 = .ok (.iconst 0, 1) ∧ decode cX2_skip 1 = .ok (.istore_n 2, 1)) ∧ (decode cX2_skip 2 = .ok (.iload_n 2, 1) ∧ (decode cX2_skip 3 = .ok (.iload_n 1, 1) ∧ decode cX2_skip 4 = .ok (.if_icmp .ge 14, 3)))) ∧ ((decode cX2_skip 7 = .ok (.aload_n 0, 1) ∧ (decode cX2_skip 8 = .ok (.invokevirtual 49, 3) ∧ decode cX2_skip 11 = .ok (.pop, 1))) ∧ (decode cX2_skip 12 = .ok (.iinc 2 1, 3) ∧ (decode cX2_skip 15 = .ok (.goto (-13), 3) ∧ decode cX2_skip 18 = .ok (.return_, 1))))) := by decide +kernel
def X2_skip_b2_body (rk2 : St → Int → Int → Int → Rs) (s : St) (x0 x1 x2 : Int) : Rs :=
  if x1 ≤ x2 then (some (0, s)) else (grd (isK s 12 x0) (bnd (X2_draw s x0) (fun r1 s2 => rk2 s2 x0 x1 (w32 (x2 + 1)))))
def X2_skip_b2 (n : Nat) (s : St) (x0 x1 x2 : Int) : Rs := iter (fun (rec : St × Int × Int × Int → Rs) (a : St × Int × Int × Int) => X2_skip_b2_body (fun (s : St) (x0 x1 x2 : Int) => rec (s, x0, x1, x2)) a.1 a.2.1 a.2.2.1 a.2.2.2) n (s, x0, x1, x2)
theorem X2_skip_b2_0 (s : St) (x0 x1 x2 : Int) : X2_skip_b2 0 s x0 x1 x2 = none := rfl
theorem X2_skip_b2_1 (n : Nat) (s : St) (x0 x1 x2 : Int) : X2_skip_b2 (n + 1) s x0 x1 x2 = X2_skip_b2_body (X2_skip_b2 n) s x0 x1 x2 := rfl
set_option maxRecDepth 100000 in
set_option maxHeartbeats 4000000 in
theorem X2_skip_b2_body_s (G : Gx) (l : Launch) (rk2 : St → Int → Int → Int → Rs) (hk2 : ∀ (s : St) (x0 x1 x2 : Int), V G l mX2_skip 2 [(0, (2, x0)), (1, (0, x1)), (2, (0, x2))] [] s (rk2 s x0 x1 x2)) (s : St) (x0 x1 x2 : Int) : V G l mX2_skip 2 [(0, (2, x0)), (1, (0, x1)), (2, (0, x2))] [] s (X2_skip_b2_body rk2 s x0 x1 x2) := by
  unfold X2_skip_b2_body
  refine V_iload_n dec_X2_skip.1.2.1 2 rfl ?_
  refine V_iload_n dec_X2_skip.1.2.2.1 1 rfl ?_
  refine V_icmp_ge (tgt := 18) dec_X2_skip.1.2.2.2 (by decide) ?_ ?_
  · exact V_vret rfl dec_X2_skip.2.2.2.2
  · refine V_aload_n dec_X2_skip.2.1.1 0 rfl ?_
    refine V_callV0 (ci := 2) (a := x0) (As := []) (st := []) rfl rfl (X2_draw_s G l s x0) cal_X2_draw rfl ml_X2_49 rfl rfl dec_X2_skip.2.1.2.1 (k_tag (tag := 0) rfl fun r1 s2 => ?_)
    refine V_pop (nl0 _) dec_X2_skip.2.1.2.2 ?_
    refine V_iinc (lv' := [(2, (0, (w32 (x2 + 1)))), (0, (2, x0)), (1, (0, x1))]) dec_X2_skip.2.2.1 2 rfl (by decide) rfl ?_
    refine V_goto (tgt := 2) dec_X2_skip.2.2.2.1 (by decide) ?_
    exact V_pick [1, 2, 0] rfl (hk2 s2 x0 x1 (w32 (x2 + 1)))
theorem X2_skip_b2_s (G : Gx) (l : Launch) (n : Nat) (s : St) (x0 x1 x2 : Int) : V G l mX2_skip 2 [(0, (2, x0)), (1, (0, x1)), (2, (0, x2))] [] s (X2_skip_b2 n s x0 x1 x2) :=
  V_iter (LV := fun a : St × Int × Int × Int => [(0, (2, a.2.1)), (1, (0, a.2.2.1)), (2, (0, a.2.2.2))]) (ST := fun a : St × Int × Int × Int => []) (SS := fun a : St × Int × Int × Int => a.1) (fun rec hrec a => X2_skip_b2_body_s G l (fun (s : St) (x0 x1 x2 : Int) => rec (s, x0, x1, x2)) (fun (s : St) (x0 x1 x2 : Int) => hrec (s, x0, x1, x2)) a.1 a.2.1 a.2.2.1 a.2.2.2) n (s, x0, x1, x2)
def X2_skip (s : St) (a0 a1 : Int) : Rs :=
  X2_skip_b2 FU s a0 a1 0
set_option maxRecDepth 100000 in
set_option maxHeartbeats 4000000 in
theorem X2_skip_s (G : Gx) (l : Launch) (s : St) (a0 a1 : Int) : Snd G l mX2_skip [(2, a0), (0, a1)] s (X2_skip s a0 a1) := by
  refine Snd.of (by decide +kernel) rfl ?_
  show V G l mX2_skip 0 [(0, (2, a0)), (1, (0, a1))] [] s _
  unfold X2_skip
  refine V_iconst dec_X2_skip.1.1.1 rfl ?_
  refine V_istore_n (lv' := [(2, (0, 0)), (0, (2, a0)), (1, (0, a1))]) dec_X2_skip.1.1.2 (by decide) rfl ?_
  exact V_pick [1, 2, 0] rfl (X2_skip_b2_s G l FU s a0 a1 0)
theorem dec_X11_heardBy : (((((decode cX11_heardBy 0 = .ok (.aload_n 0, 1) ∧ decode cX11_heardBy 1 = .ok (.aload_n 0, 1)) ∧ (decode cX11_heardBy 2 = .ok (.iload_n 1, 1) ∧ decode cX11_heardBy 3 = .ok (.invokevirtual 160, 3))) ∧ ((decode cX11_heardBy 6 = .ok (.iload_n 2, 1) ∧ decode cX11_heardBy 7 = .ok (.invokestatic 334, 3)) ∧ (decode cX11_heardBy 10 = .ok (.ifCond .ne 10, 3) ∧ (decode cX11_heardBy 13 = .ok (.iload_n 3, 1) ∧ decode cX11_heardBy 14 = .ok (.invokestatic 187, 3))))) ∧ (((decode cX11_heardBy 17 = .ok (.ifCond .eq 7, 3) ∧ decode cX11_heardBy 20 = .ok (.iconst 1, 1)) ∧ (decode cX11_heardBy 21 = .ok (.goto 4, 3) ∧ (decode cX11_heardBy 24 = .ok (.iconst 0, 1) ∧ decode cX11_heardBy 25 = .ok (.invokevirtual 92, 3)))) ∧ ((decode cX11_heardBy 28 = .ok (.ifCond .eq 5, 3) ∧ decode cX11_heardBy 31 = .ok (.iconst (-1), 1)) ∧ (decode cX11_heardBy 32 = .ok (.ireturn, 1) ∧ (decode cX11_heardBy 33 = .ok (.aload_n 0, 1) ∧ decode cX11_heardBy 34 = .ok (.getfield 67, 3)))))) ∧ ((((decode cX11_heardBy 37 = .ok (.iload_n 2, 1) ∧ decode cX11_heardBy 38 = .ok (.putfield 337, 3)) ∧ (decode cX11_heardBy 41 = .ok (.aload_n 0, 1) ∧ (decode cX11_heardBy 42 = .ok (.getfield 67, 3) ∧ decode cX11_heardBy 45 = .ok (.iload_n 3, 1)))) ∧ ((decode cX11_heardBy 46 = .ok (.aload_n 0, 1) ∧ decode cX11_heardBy 47 = .ok (.getfield 27, 3)) ∧ (decode cX11_heardBy 50 = .ok (.getfield 225, 3) ∧ (decode cX11_heardBy 53 = .ok (.imul, 1) ∧ decode cX11_heardBy 54 = .ok (.iload_n 1, 1))))) ∧ (((decode cX11_heardBy 55 = .ok (.iadd, 1) ∧ decode cX11_heardBy 56 = .ok (.invokevirtual 340, 3)) ∧ (decode cX11_heardBy 59 = .ok (.aload_n 0, 1) ∧ (decode cX11_heardBy 60 = .ok (.getfield 67, 3) ∧ decode cX11_heardBy 63 = .ok (.aload_n 0, 1)))) ∧ ((decode cX11_heardBy 64 = .ok (.getfield 36, 3) ∧ decode cX11_heardBy 67 = .ok (.iload_n 1, 1)) ∧ (decode cX11_heardBy 68 = .ok (.iload_n 3, 1) ∧ (decode cX11_heardBy 69 = .ok (.invokevirtual 343, 3) ∧ decode cX11_heardBy 72 = .ok (.ireturn, 1))))))) := ⟨⟨by decide +kernel, by decide +kernel⟩, ⟨by decide +kernel, by decide +kernel⟩⟩
def X11_heardBy_b25 (s : St) (x0 x1 x2 x3 k0 k1 k2 : Int) : Rs :=
  grd (isK s 21 k2) (bnd (X11_refused s k2 k1 k0) (fun r5 s6 => if r5 = 0 then (grd (isK s6 21 x0) (grd (isK s6 12 (gR s6 x0 12)) (lets (pI s6 (gR s6 x0 12) 1 x2) (fun s7 => grd (isK s7 21 x0) (grd (isK s7 21 x0) (grd (isK s7 19 (gR s7 x0 6)) (grd (isK s7 12 (gR s7 x0 12)) (bnd (X2_skip s7 (gR s7 x0 12) (w32 ((w32 (x3 * (gI s7 (gR s7 x0 6) 3))) + x1))) (fun r8 s9 => grd (isK s9 21 x0) (grd (isK s9 21 x0) (grd (isK s9 12 (gR s9 x0 12)) (bnd (X2_drawnListener s9 (gR s9 x0 12) (gR s9 x0 7) x1 x3) (fun r10 s11 => some (r10, s11)))))))))))))) else (some ((-1), s6))))
set_option maxRecDepth 100000 in
set_option maxHeartbeats 4000000 in
theorem X11_heardBy_b25_s (G : Gx) (l : Launch) (s : St) (x0 x1 x2 x3 k0 k1 k2 : Int) : V G l mX11_heardBy 25 [(0, (2, x0)), (1, (0, x1)), (2, (0, x2)), (3, (0, x3))] [(0, k0), (0, k1), (2, k2)] s (X11_heardBy_b25 s x0 x1 x2 x3 k0 k1 k2) := by
  unfold X11_heardBy_b25
  refine V_callV0 (ci := 11) (a := k2) (As := [(0, k1), (0, k0)]) (st := []) rfl rfl (X11_refused_s G l s k2 k1 k0) cal_X11_refused rfl ml_X11_92 rfl rfl dec_X11_heardBy.1.2.1.2.2.2 (k_tag (tag := 0) rfl fun r5 s6 => ?_)
  refine V_if_eq (tgt := 33) dec_X11_heardBy.1.2.2.1.1 (by decide) ?_ ?_
  · refine V_aload_n dec_X11_heardBy.1.2.2.2.2.1 0 rfl ?_
    refine V_getR 11 12 nf_11_12 ft_11_12 fl_X11_67 dec_X11_heardBy.1.2.2.2.2.2 ?_
    refine V_iload_n dec_X11_heardBy.2.1.1.1.1 2 rfl ?_
    refine V_putI (host := "") 2 1 nf_2_1 ty_2_1 (Or.inl ⟨fl_X11_337, Or.inl rfl⟩) dec_X11_heardBy.2.1.1.1.2 ?_
    refine V_lets fun s7 => ?_
    refine V_aload_n dec_X11_heardBy.2.1.1.2.1 0 rfl ?_
    refine V_getR 11 12 nf_11_12 ft_11_12 fl_X11_67 dec_X11_heardBy.2.1.1.2.2.1 ?_
    refine V_iload_n dec_X11_heardBy.2.1.1.2.2.2 3 rfl ?_
    refine V_aload_n dec_X11_heardBy.2.1.2.1.1 0 rfl ?_
    refine V_getR 11 6 nf_11_6 ft_11_6 fl_X11_27 dec_X11_heardBy.2.1.2.1.2 ?_
    refine V_getI 9 3 nf_9_3 ft_9_3 fl_X11_225 dec_X11_heardBy.2.1.2.2.1 ?_
    refine V_imul dec_X11_heardBy.2.1.2.2.2.1 ?_
    refine V_iload_n dec_X11_heardBy.2.1.2.2.2.2 1 rfl ?_
    refine V_iadd dec_X11_heardBy.2.2.1.1.1 ?_
    refine V_callV0 (ci := 2) (a := (gR s7 x0 12)) (As := [(0, (w32 ((w32 (x3 * (gI s7 (gR s7 x0 6) 3))) + x1)))]) (st := []) rfl rfl (X2_skip_s G l s7 (gR s7 x0 12) (w32 ((w32 (x3 * (gI s7 (gR s7 x0 6) 3))) + x1))) cal_X2_skip rfl ml_X11_340 rfl rfl dec_X11_heardBy.2.2.1.1.2 (k_void rfl fun r8 s9 => ?_)
    refine V_aload_n dec_X11_heardBy.2.2.1.2.1 0 rfl ?_
    refine V_getR 11 12 nf_11_12 ft_11_12 fl_X11_67 dec_X11_heardBy.2.2.1.2.2.1 ?_
    refine V_aload_n dec_X11_heardBy.2.2.1.2.2.2 0 rfl ?_
    refine V_getR 11 7 nf_11_7 ft_11_7 fl_X11_36 dec_X11_heardBy.2.2.2.1.1 ?_
    refine V_iload_n dec_X11_heardBy.2.2.2.1.2 1 rfl ?_
    refine V_iload_n dec_X11_heardBy.2.2.2.2.1 3 rfl ?_
    refine V_callV0 (ci := 2) (a := (gR s9 x0 12)) (As := [(2, (gR s9 x0 7)), (0, x1), (0, x3)]) (st := []) rfl rfl (X2_drawnListener_s G l s9 (gR s9 x0 12) (gR s9 x0 7) x1 x3) cal_X2_drawnListener rfl ml_X11_343 rfl rfl dec_X11_heardBy.2.2.2.2.2.1 (k_tag (tag := 0) rfl fun r10 s11 => ?_)
    exact V_iret rfl dec_X11_heardBy.2.2.2.2.2.2
  · refine V_iconst dec_X11_heardBy.1.2.2.1.2 rfl ?_
    exact V_iret rfl dec_X11_heardBy.1.2.2.2.1
def X11_heardBy_b20 (s : St) (x0 x1 x2 x3 k0 k1 : Int) : Rs :=
  X11_heardBy_b25 s x0 x1 x2 x3 1 k0 k1
set_option maxRecDepth 100000 in
set_option maxHeartbeats 4000000 in
theorem X11_heardBy_b20_s (G : Gx) (l : Launch) (s : St) (x0 x1 x2 x3 k0 k1 : Int) : V G l mX11_heardBy 20 [(0, (2, x0)), (1, (0, x1)), (2, (0, x2)), (3, (0, x3))] [(0, k0), (2, k1)] s (X11_heardBy_b20 s x0 x1 x2 x3 k0 k1) := by
  unfold X11_heardBy_b20
  refine V_iconst dec_X11_heardBy.1.2.1.1.2 rfl ?_
  refine V_goto (tgt := 25) dec_X11_heardBy.1.2.1.2.1 (by decide) ?_
  exact V_pick [0, 1, 2, 3] rfl (X11_heardBy_b25_s G l s x0 x1 x2 x3 1 k0 k1)
def X11_heardBy (s : St) (a0 a1 a2 a3 : Int) : Rs :=
  grd (isK s 21 a0) (bnd (X11_isNoDead s a0 a1) (fun r1 s2 => bnd (X11_isNoSeed s2 a2) (fun r3 s4 => if ¬ r3 = 0 then (X11_heardBy_b20 s4 a0 a1 a2 a3 r1 a0) else (bnd (X11_isNoNight s4 a3) (fun r12 s13 => if r12 = 0 then (X11_heardBy_b25 s13 a0 a1 a2 a3 0 r1 a0) else (X11_heardBy_b20 s13 a0 a1 a2 a3 r1 a0))))))
set_option maxRecDepth 100000 in
set_option maxHeartbeats 4000000 in
theorem X11_heardBy_s (G : Gx) (l : Launch) (s : St) (a0 a1 a2 a3 : Int) : Snd G l mX11_heardBy [(2, a0), (0, a1), (0, a2), (0, a3)] s (X11_heardBy s a0 a1 a2 a3) := by
  refine Snd.of (by decide +kernel) rfl ?_
  show V G l mX11_heardBy 0 [(0, (2, a0)), (1, (0, a1)), (2, (0, a2)), (3, (0, a3))] [] s _
  unfold X11_heardBy
  refine V_aload_n dec_X11_heardBy.1.1.1.1.1 0 rfl ?_
  refine V_aload_n dec_X11_heardBy.1.1.1.1.2 0 rfl ?_
  refine V_iload_n dec_X11_heardBy.1.1.1.2.1 1 rfl ?_
  refine V_callV0 (ci := 11) (a := a0) (As := [(0, a1)]) (st := [(2, a0)]) rfl rfl (X11_isNoDead_s G l s a0 a1) cal_X11_isNoDead rfl ml_X11_160 rfl rfl dec_X11_heardBy.1.1.1.2.2 (k_tag (tag := 0) rfl fun r1 s2 => ?_)
  refine V_iload_n dec_X11_heardBy.1.1.2.1.1 2 rfl ?_
  refine V_callS0 (As := [(0, a2)]) (st := [(0, r1), (2, a0)]) (host := "") rfl (X11_isNoSeed_s G l s2 a2) cal_X11_isNoSeed rfl (Or.inl ml_X11_334) rfl rfl dec_X11_heardBy.1.1.2.1.2 (k_tag (tag := 0) rfl fun r3 s4 => ?_)
  refine V_if_ne (tgt := 20) dec_X11_heardBy.1.1.2.2.1 (by decide) ?_ ?_
  · exact V_pick [0, 1, 2, 3] rfl (X11_heardBy_b20_s G l s4 a0 a1 a2 a3 r1 a0)
  · refine V_iload_n dec_X11_heardBy.1.1.2.2.2.1 3 rfl ?_
    refine V_callS0 (As := [(0, a3)]) (st := [(0, r1), (2, a0)]) (host := "") rfl (X11_isNoNight_s G l s4 a3) cal_X11_isNoNight rfl (Or.inl ml_X11_187) rfl rfl dec_X11_heardBy.1.1.2.2.2.2 (k_tag (tag := 0) rfl fun r12 s13 => ?_)
    refine V_if_eq (tgt := 24) dec_X11_heardBy.1.2.1.1.1 (by decide) ?_ ?_
    · refine V_iconst dec_X11_heardBy.1.2.1.2.2.1 rfl ?_
      exact V_pick [0, 1, 2, 3] rfl (X11_heardBy_b25_s G l s13 a0 a1 a2 a3 0 r1 a0)
    · exact V_pick [0, 1, 2, 3] rfl (X11_heardBy_b20_s G l s13 a0 a1 a2 a3 r1 a0)
theorem dec_X11_hears : ((((decode cX11_hears 0 = .ok (.aload_n 0, 1) ∧ decode cX11_hears 1 = .ok (.aload_n 0, 1)) ∧ (decode cX11_hears 2 = .ok (.iload_n 1, 1) ∧ decode cX11_hears 3 = .ok (.invokevirtual 160, 3))) ∧ ((decode cX11_hears 6 = .ok (.iload_n 2, 1) ∧ decode cX11_hears 7 = .ok (.invokestatic 187, 3)) ∧ (decode cX11_hears 10 = .ok (.invokevirtual 92, 3) ∧ decode cX11_hears 13 = .ok (.ifCond .eq 5, 3)))) ∧ (((decode cX11_hears 16 = .ok (.iconst (-1), 1) ∧ decode cX11_hears 17 = .ok (.ireturn, 1)) ∧ (decode cX11_hears 18 = .ok (.aload_n 0, 1) ∧ decode cX11_hears 19 = .ok (.getfield 36, 3))) ∧ ((decode cX11_hears 22 = .ok (.iload_n 1, 1) ∧ decode cX11_hears 23 = .ok (.iload_n 2, 1)) ∧ (decode cX11_hears 24 = .ok (.invokevirtual 197, 3) ∧ decode cX11_hears 27 = .ok (.ireturn, 1))))) := ⟨by decide +kernel, by decide +kernel⟩
def X11_hears (s : St) (a0 a1 a2 : Int) : Rs :=
  grd (isK s 21 a0) (bnd (X11_isNoDead s a0 a1) (fun r1 s2 => bnd (X11_isNoNight s2 a2) (fun r3 s4 => grd (isK s4 21 a0) (bnd (X11_refused s4 a0 r1 r3) (fun r5 s6 => if r5 = 0 then (grd (isK s6 21 a0) (grd (isK s6 20 (gR s6 a0 7)) (bnd (X10_listener s6 (gR s6 a0 7) a1 a2) (fun r7 s8 => some (r7, s8))))) else (some ((-1), s6)))))))
set_option maxRecDepth 100000 in
set_option maxHeartbeats 4000000 in
theorem X11_hears_s (G : Gx) (l : Launch) (s : St) (a0 a1 a2 : Int) : Snd G l mX11_hears [(2, a0), (0, a1), (0, a2)] s (X11_hears s a0 a1 a2) := by
  refine Snd.of (by decide +kernel) rfl ?_
  show V G l mX11_hears 0 [(0, (2, a0)), (1, (0, a1)), (2, (0, a2))] [] s _
  unfold X11_hears
  refine V_aload_n dec_X11_hears.1.1.1.1 0 rfl ?_
  refine V_aload_n dec_X11_hears.1.1.1.2 0 rfl ?_
  refine V_iload_n dec_X11_hears.1.1.2.1 1 rfl ?_
  refine V_callV0 (ci := 11) (a := a0) (As := [(0, a1)]) (st := [(2, a0)]) rfl rfl (X11_isNoDead_s G l s a0 a1) cal_X11_isNoDead rfl ml_X11_160 rfl rfl dec_X11_hears.1.1.2.2 (k_tag (tag := 0) rfl fun r1 s2 => ?_)
  refine V_iload_n dec_X11_hears.1.2.1.1 2 rfl ?_
  refine V_callS0 (As := [(0, a2)]) (st := [(0, r1), (2, a0)]) (host := "") rfl (X11_isNoNight_s G l s2 a2) cal_X11_isNoNight rfl (Or.inl ml_X11_187) rfl rfl dec_X11_hears.1.2.1.2 (k_tag (tag := 0) rfl fun r3 s4 => ?_)
  refine V_callV0 (ci := 11) (a := a0) (As := [(0, r1), (0, r3)]) (st := []) rfl rfl (X11_refused_s G l s4 a0 r1 r3) cal_X11_refused rfl ml_X11_92 rfl rfl dec_X11_hears.1.2.2.1 (k_tag (tag := 0) rfl fun r5 s6 => ?_)
  refine V_if_eq (tgt := 18) dec_X11_hears.1.2.2.2 (by decide) ?_ ?_
  · refine V_aload_n dec_X11_hears.2.1.2.1 0 rfl ?_
    refine V_getR 11 7 nf_11_7 ft_11_7 fl_X11_36 dec_X11_hears.2.1.2.2 ?_
    refine V_iload_n dec_X11_hears.2.2.1.1 1 rfl ?_
    refine V_iload_n dec_X11_hears.2.2.1.2 2 rfl ?_
    refine V_callV0 (ci := 10) (a := (gR s6 a0 7)) (As := [(0, a1), (0, a2)]) (st := []) rfl rfl (X10_listener_s G l s6 (gR s6 a0 7) a1 a2) cal_X10_listener rfl ml_X11_197 rfl rfl dec_X11_hears.2.2.2.1 (k_tag (tag := 0) rfl fun r7 s8 => ?_)
    exact V_iret rfl dec_X11_hears.2.2.2.2
  · refine V_iconst dec_X11_hears.2.1.1.1 rfl ?_
    exact V_iret rfl dec_X11_hears.2.1.1.2
theorem dec_X7_occupantOf : (((decode cX7_occupantOf 0 = .ok (.aload_n 0, 1) ∧ decode cX7_occupantOf 1 = .ok (.iload_n 1, 1)) ∧ (decode cX7_occupantOf 2 = .ok (.invokevirtual 28, 3) ∧ (decode cX7_occupantOf 5 = .ok (.ifCond .eq 12, 3) ∧ decode cX7_occupantOf 8 = .ok (.aload_n 0, 1)))) ∧ ((decode cX7_occupantOf 9 = .ok (.getfield 9, 3) ∧ (decode cX7_occupantOf 12 = .ok (.iload_n 1, 1) ∧ decode cX7_occupantOf 13 = .ok (.iaload, 1))) ∧ (decode cX7_occupantOf 14 = .ok (.goto 5, 3) ∧ (decode cX7_occupantOf 17 = .ok (.bipush (-2), 2) ∧ decode cX7_occupantOf 19 = .ok (.ireturn, 1))))) := by decide +kernel
def X7_occupantOf_b19 (s : St) (k0 : Int) : Rs :=
  some (k0, s)
set_option maxRecDepth 100000 in
set_option maxHeartbeats 4000000 in
theorem X7_occupantOf_b19_s (G : Gx) (l : Launch) (s : St) (k0 : Int) : V G l mX7_occupantOf 19 [] [(0, k0)] s (X7_occupantOf_b19 s k0) := by
  unfold X7_occupantOf_b19
  exact V_iret rfl dec_X7_occupantOf.2.2.2.2
def X7_occupantOf (s : St) (a0 a1 : Int) : Rs :=
  grd (isK s 17 a0) (bnd (X7_isHouse s a0 a1) (fun r1 s2 => if r1 = 0 then (X7_occupantOf_b19 s2 (-2)) else (grd (isK s2 17 a0) (grd (isK s2 1 (gR s2 a0 0) ∧ 0 ≤ a1 ∧ a1 < ln s2 (gR s2 a0 0)) (X7_occupantOf_b19 s2 (gI s2 (gR s2 a0 0) a1.toNat))))))
set_option maxRecDepth 100000 in
set_option maxHeartbeats 4000000 in
theorem X7_occupantOf_s (G : Gx) (l : Launch) (s : St) (a0 a1 : Int) : Snd G l mX7_occupantOf [(2, a0), (0, a1)] s (X7_occupantOf s a0 a1) := by
  refine Snd.of (by decide +kernel) rfl ?_
  show V G l mX7_occupantOf 0 [(0, (2, a0)), (1, (0, a1))] [] s _
  unfold X7_occupantOf
  refine V_aload_n dec_X7_occupantOf.1.1.1 0 rfl ?_
  refine V_iload_n dec_X7_occupantOf.1.1.2 1 rfl ?_
  refine V_callV0 (ci := 7) (a := a0) (As := [(0, a1)]) (st := []) rfl rfl (X7_isHouse_s G l s a0 a1) cal_X7_isHouse rfl ml_X7_28 rfl rfl dec_X7_occupantOf.1.2.1 (k_tag (tag := 0) rfl fun r1 s2 => ?_)
  refine V_if_eq (tgt := 17) dec_X7_occupantOf.1.2.2.1 (by decide) ?_ ?_
  · refine V_bipush dec_X7_occupantOf.2.2.2.1 rfl ?_
    exact V_pick [] rfl (X7_occupantOf_b19_s G l s2 (-2))
  · refine V_aload_n dec_X7_occupantOf.1.2.2.2 0 rfl ?_
    refine V_getR 7 0 nf_7_0 ft_7_0 fl_X7_9 dec_X7_occupantOf.2.1.1 ?_
    refine V_iload_n dec_X7_occupantOf.2.1.2.1 1 rfl ?_
    refine V_iald dec_X7_occupantOf.2.1.2.2 ?_
    refine V_goto (tgt := 19) dec_X7_occupantOf.2.2.1 (by decide) ?_
    exact V_pick [] rfl (X7_occupantOf_b19_s G l s2 (gI s2 (gR s2 a0 0) a1.toNat))
theorem dec_X11_house : (((decode cX11_house 0 = .ok (.aload_n 0, 1) ∧ (decode cX11_house 1 = .ok (.aload_n 0, 1) ∧ decode cX11_house 2 = .ok (.iload_n 1, 1))) ∧ ((decode cX11_house 3 = .ok (.invokevirtual 175, 3) ∧ decode cX11_house 6 = .ok (.iconst 0, 1)) ∧ (decode cX11_house 7 = .ok (.invokevirtual 92, 3) ∧ decode cX11_house 10 = .ok (.ifCond .eq 5, 3)))) ∧ (((decode cX11_house 13 = .ok (.iconst (-1), 1) ∧ decode cX11_house 14 = .ok (.ireturn, 1)) ∧ (decode cX11_house 15 = .ok (.aload_n 0, 1) ∧ decode cX11_house 16 = .ok (.getfield 36, 3))) ∧ ((decode cX11_house 19 = .ok (.getfield 178, 3) ∧ decode cX11_house 22 = .ok (.iload_n 1, 1)) ∧ (decode cX11_house 23 = .ok (.invokevirtual 182, 3) ∧ decode cX11_house 26 = .ok (.ireturn, 1))))) := ⟨by decide +kernel, by decide +kernel⟩
def X11_house (s : St) (a0 a1 : Int) : Rs :=
  grd (isK s 21 a0) (bnd (X11_isNoHouse s a0 a1) (fun r1 s2 => grd (isK s2 21 a0) (bnd (X11_refused s2 a0 r1 0) (fun r3 s4 => if r3 = 0 then (grd (isK s4 21 a0) (grd (isK s4 20 (gR s4 a0 7)) (grd (isK s4 17 (gR s4 (gR s4 a0 7) 2)) (bnd (X7_occupantOf s4 (gR s4 (gR s4 a0 7) 2) a1) (fun r5 s6 => some (r5, s6)))))) else (some ((-1), s4))))))
set_option maxRecDepth 100000 in
set_option maxHeartbeats 4000000 in
theorem X11_house_s (G : Gx) (l : Launch) (s : St) (a0 a1 : Int) : Snd G l mX11_house [(2, a0), (0, a1)] s (X11_house s a0 a1) := by
  refine Snd.of (by decide +kernel) rfl ?_
  show V G l mX11_house 0 [(0, (2, a0)), (1, (0, a1))] [] s _
  unfold X11_house
  refine V_aload_n dec_X11_house.1.1.1 0 rfl ?_
  refine V_aload_n dec_X11_house.1.1.2.1 0 rfl ?_
  refine V_iload_n dec_X11_house.1.1.2.2 1 rfl ?_
  refine V_callV0 (ci := 11) (a := a0) (As := [(0, a1)]) (st := [(2, a0)]) rfl rfl (X11_isNoHouse_s G l s a0 a1) cal_X11_isNoHouse rfl ml_X11_175 rfl rfl dec_X11_house.1.2.1.1 (k_tag (tag := 0) rfl fun r1 s2 => ?_)
  refine V_iconst dec_X11_house.1.2.1.2 rfl ?_
  refine V_callV0 (ci := 11) (a := a0) (As := [(0, r1), (0, 0)]) (st := []) rfl rfl (X11_refused_s G l s2 a0 r1 0) cal_X11_refused rfl ml_X11_92 rfl rfl dec_X11_house.1.2.2.1 (k_tag (tag := 0) rfl fun r3 s4 => ?_)
  refine V_if_eq (tgt := 15) dec_X11_house.1.2.2.2 (by decide) ?_ ?_
  · refine V_aload_n dec_X11_house.2.1.2.1 0 rfl ?_
    refine V_getR 11 7 nf_11_7 ft_11_7 fl_X11_36 dec_X11_house.2.1.2.2 ?_
    refine V_getR 10 2 nf_10_2 ft_10_2 fl_X11_178 dec_X11_house.2.2.1.1 ?_
    refine V_iload_n dec_X11_house.2.2.1.2 1 rfl ?_
    refine V_callV0 (ci := 7) (a := (gR s4 (gR s4 a0 7) 2)) (As := [(0, a1)]) (st := []) rfl rfl (X7_occupantOf_s G l s4 (gR s4 (gR s4 a0 7) 2) a1) cal_X7_occupantOf rfl ml_X11_182 rfl rfl dec_X11_house.2.2.2.1 (k_tag (tag := 0) rfl fun r5 s6 => ?_)
    exact V_iret rfl dec_X11_house.2.2.2.2
  · refine V_iconst dec_X11_house.2.1.1.1 rfl ?_
    exact V_iret rfl dec_X11_house.2.1.1.2
