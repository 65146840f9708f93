theorem dec_X4_lawOfToken : ((((decode cX4_lawOfToken 0 = .ok (.aload_n 0, 1) ∧ (decode cX4_lawOfToken 1 = .ok (.getfield 25, 3) ∧ decode cX4_lawOfToken 4 = .ok (.ldc 199, 2))) ∧ ((decode cX4_lawOfToken 6 = .ok (.invokevirtual 188, 3) ∧ decode cX4_lawOfToken 9 = .ok (.ifCond .eq 5, 3)) ∧ (decode cX4_lawOfToken 12 = .ok (.iconst 0, 1) ∧ decode cX4_lawOfToken 13 = .ok (.ireturn, 1)))) ∧ (((decode cX4_lawOfToken 14 = .ok (.aload_n 0, 1) ∧ decode cX4_lawOfToken 15 = .ok (.getfield 25, 3)) ∧ (decode cX4_lawOfToken 18 = .ok (.ldc 201, 2) ∧ decode cX4_lawOfToken 20 = .ok (.invokevirtual 188, 3))) ∧ ((decode cX4_lawOfToken 23 = .ok (.ifCond .eq 5, 3) ∧ decode cX4_lawOfToken 26 = .ok (.iconst 1, 1)) ∧ (decode cX4_lawOfToken 27 = .ok (.ireturn, 1) ∧ decode cX4_lawOfToken 28 = .ok (.aload_n 0, 1))))) ∧ (((decode cX4_lawOfToken 29 = .ok (.getfield 25, 3) ∧ (decode cX4_lawOfToken 32 = .ok (.ldc 203, 2) ∧ decode cX4_lawOfToken 34 = .ok (.invokevirtual 188, 3))) ∧ ((decode cX4_lawOfToken 37 = .ok (.ifCond .eq 5, 3) ∧ decode cX4_lawOfToken 40 = .ok (.iconst 2, 1)) ∧ (decode cX4_lawOfToken 41 = .ok (.ireturn, 1) ∧ decode cX4_lawOfToken 42 = .ok (.aload_n 0, 1)))) ∧ (((decode cX4_lawOfToken 43 = .ok (.getfield 25, 3) ∧ decode cX4_lawOfToken 46 = .ok (.ldc 205, 2)) ∧ (decode cX4_lawOfToken 48 = .ok (.invokevirtual 188, 3) ∧ decode cX4_lawOfToken 51 = .ok (.ifCond .eq 7, 3))) ∧ ((decode cX4_lawOfToken 54 = .ok (.iconst 3, 1) ∧ decode cX4_lawOfToken 55 = .ok (.goto 4, 3)) ∧ (decode cX4_lawOfToken 58 = .ok (.iconst (-1), 1) ∧ decode cX4_lawOfToken 59 = .ok (.ireturn, 1)))))) := ⟨⟨by decide +kernel, by decide +kernel⟩, ⟨by decide +kernel, by decide +kernel⟩⟩
def X4_lawOfToken_b59 (s : St) (k0 : Int) : Rs :=
  some (k0, s)
set_option maxRecDepth 100000 in
set_option maxHeartbeats 4000000 in
theorem X4_lawOfToken_b59_s (G : Gx) (l : Launch) (s : St) (k0 : Int) : V G l mX4_lawOfToken 59 [] [(0, k0)] s (X4_lawOfToken_b59 s k0) := by
  unfold X4_lawOfToken_b59
  exact V_iret rfl dec_X4_lawOfToken.2.2.2.2.2
def X4_lawOfToken (s : St) (a0 : Int) : Rs :=
  grd (isK s 14 a0) (grd (isK s 18 (gR s a0 3)) (bnd (X8_isWord s (gR s a0 3) (1000000 + ((9 : Nat) : Int))) (fun r1 s2 => if r1 = 0 then (grd (isK s2 14 a0) (grd (isK s2 18 (gR s2 a0 3)) (bnd (X8_isWord s2 (gR s2 a0 3) (1000000 + ((10 : Nat) : Int))) (fun r3 s4 => if r3 = 0 then (grd (isK s4 14 a0) (grd (isK s4 18 (gR s4 a0 3)) (bnd (X8_isWord s4 (gR s4 a0 3) (1000000 + ((11 : Nat) : Int))) (fun r5 s6 => if r5 = 0 then (grd (isK s6 14 a0) (grd (isK s6 18 (gR s6 a0 3)) (bnd (X8_isWord s6 (gR s6 a0 3) (1000000 + ((12 : Nat) : Int))) (fun r7 s8 => if r7 = 0 then (X4_lawOfToken_b59 s8 (-1)) else (X4_lawOfToken_b59 s8 3))))) else (some (2, s6)))))) else (some (1, s4)))))) else (some (0, s2)))))
set_option maxRecDepth 100000 in
set_option maxHeartbeats 4000000 in
theorem X4_lawOfToken_s (G : Gx) (l : Launch) (s : St) (a0 : Int) : Snd G l mX4_lawOfToken [(2, a0)] s (X4_lawOfToken s a0) := by
  refine Snd.of (by decide +kernel) rfl ?_
  show V G l mX4_lawOfToken 0 [(0, (2, a0))] [] s _
  unfold X4_lawOfToken
  refine V_aload_n dec_X4_lawOfToken.1.1.1.1 0 rfl ?_
  refine V_getR 4 3 nf_4_3 ft_4_3 fl_X4_25 dec_X4_lawOfToken.1.1.1.2.1 ?_
  refine V_ldcS 9 _ rfl rfl rfl dec_X4_lawOfToken.1.1.1.2.2 ?_
  refine V_callV0 (ci := 8) (a := (gR s a0 3)) (As := [(2, (1000000 + ((9 : Nat) : Int)))]) (st := []) rfl rfl (X8_isWord_s G l s (gR s a0 3) (1000000 + ((9 : Nat) : Int))) cal_X8_isWord rfl ml_X4_188 rfl rfl dec_X4_lawOfToken.1.1.2.1.1 (k_tag (tag := 0) rfl fun r1 s2 => ?_)
  refine V_if_eq (tgt := 14) dec_X4_lawOfToken.1.1.2.1.2 (by decide) ?_ ?_
  · refine V_aload_n dec_X4_lawOfToken.1.2.1.1.1 0 rfl ?_
    refine V_getR 4 3 nf_4_3 ft_4_3 fl_X4_25 dec_X4_lawOfToken.1.2.1.1.2 ?_
    refine V_ldcS 10 _ rfl rfl rfl dec_X4_lawOfToken.1.2.1.2.1 ?_
    refine V_callV0 (ci := 8) (a := (gR s2 a0 3)) (As := [(2, (1000000 + ((10 : Nat) : Int)))]) (st := []) rfl rfl (X8_isWord_s G l s2 (gR s2 a0 3) (1000000 + ((10 : Nat) : Int))) cal_X8_isWord rfl ml_X4_188 rfl rfl dec_X4_lawOfToken.1.2.1.2.2 (k_tag (tag := 0) rfl fun r3 s4 => ?_)
    refine V_if_eq (tgt := 28) dec_X4_lawOfToken.1.2.2.1.1 (by decide) ?_ ?_
    · refine V_aload_n dec_X4_lawOfToken.1.2.2.2.2 0 rfl ?_
      refine V_getR 4 3 nf_4_3 ft_4_3 fl_X4_25 dec_X4_lawOfToken.2.1.1.1 ?_
      refine V_ldcS 11 _ rfl rfl rfl dec_X4_lawOfToken.2.1.1.2.1 ?_
      refine V_callV0 (ci := 8) (a := (gR s4 a0 3)) (As := [(2, (1000000 + ((11 : Nat) : Int)))]) (st := []) rfl rfl (X8_isWord_s G l s4 (gR s4 a0 3) (1000000 + ((11 : Nat) : Int))) cal_X8_isWord rfl ml_X4_188 rfl rfl dec_X4_lawOfToken.2.1.1.2.2 (k_tag (tag := 0) rfl fun r5 s6 => ?_)
      refine V_if_eq (tgt := 42) dec_X4_lawOfToken.2.1.2.1.1 (by decide) ?_ ?_
      · refine V_aload_n dec_X4_lawOfToken.2.1.2.2.2 0 rfl ?_
        refine V_getR 4 3 nf_4_3 ft_4_3 fl_X4_25 dec_X4_lawOfToken.2.2.1.1.1 ?_
        refine V_ldcS 12 _ rfl rfl rfl dec_X4_lawOfToken.2.2.1.1.2 ?_
        refine V_callV0 (ci := 8) (a := (gR s6 a0 3)) (As := [(2, (1000000 + ((12 : Nat) : Int)))]) (st := []) rfl rfl (X8_isWord_s G l s6 (gR s6 a0 3) (1000000 + ((12 : Nat) : Int))) cal_X8_isWord rfl ml_X4_188 rfl rfl dec_X4_lawOfToken.2.2.1.2.1 (k_tag (tag := 0) rfl fun r7 s8 => ?_)
        refine V_if_eq (tgt := 58) dec_X4_lawOfToken.2.2.1.2.2 (by decide) ?_ ?_
        · refine V_iconst dec_X4_lawOfToken.2.2.2.2.1 rfl ?_
          exact V_pick [] rfl (X4_lawOfToken_b59_s G l s8 (-1))
        · refine V_iconst dec_X4_lawOfToken.2.2.2.1.1 rfl ?_
          refine V_goto (tgt := 59) dec_X4_lawOfToken.2.2.2.1.2 (by decide) ?_
          exact V_pick [] rfl (X4_lawOfToken_b59_s G l s8 3)
      · refine V_iconst dec_X4_lawOfToken.2.1.2.1.2 rfl ?_
        exact V_iret rfl dec_X4_lawOfToken.2.1.2.2.1
    · refine V_iconst dec_X4_lawOfToken.1.2.2.1.2 rfl ?_
      exact V_iret rfl dec_X4_lawOfToken.1.2.2.2.1
  · refine V_iconst dec_X4_lawOfToken.1.1.2.2.1 rfl ?_
    exact V_iret rfl dec_X4_lawOfToken.1.1.2.2.2
theorem dec_X4_takeLaw : (((decode cX4_takeLaw 0 = .ok (.aload_n 0, 1) ∧ (decode cX4_takeLaw 1 = .ok (.invokevirtual 196, 3) ∧ decode cX4_takeLaw 4 = .ok (.istore_n 1, 1))) ∧ (decode cX4_takeLaw 5 = .ok (.aload_n 0, 1) ∧ (decode cX4_takeLaw 6 = .ok (.iload_n 1, 1) ∧ decode cX4_takeLaw 7 = .ok (.ifCond .lt 7, 3)))) ∧ ((decode cX4_takeLaw 10 = .ok (.iconst 1, 1) ∧ (decode cX4_takeLaw 11 = .ok (.goto 4, 3) ∧ decode cX4_takeLaw 14 = .ok (.iconst 0, 1))) ∧ (decode cX4_takeLaw 15 = .ok (.invokevirtual 52, 3) ∧ (decode cX4_takeLaw 18 = .ok (.iload_n 1, 1) ∧ decode cX4_takeLaw 19 = .ok (.ireturn, 1))))) := by decide +kernel
def X4_takeLaw_b15 (s : St) (x1 k0 k1 : Int) : Rs :=
  grd (isK s 14 k1) (bnd (X4_takeToken s k1 k0) (fun r3 s4 => some (x1, s4)))
set_option maxRecDepth 100000 in
set_option maxHeartbeats 4000000 in
theorem X4_takeLaw_b15_s (G : Gx) (l : Launch) (s : St) (x1 k0 k1 : Int) : V G l mX4_takeLaw 15 [(1, (0, x1))] [(0, k0), (2, k1)] s (X4_takeLaw_b15 s x1 k0 k1) := by
  unfold X4_takeLaw_b15
  refine V_callV0 (ci := 4) (a := k1) (As := [(0, k0)]) (st := []) rfl rfl (X4_takeToken_s G l s k1 k0) cal_X4_takeToken rfl ml_X4_52 rfl rfl dec_X4_takeLaw.2.2.1 (k_void rfl fun r3 s4 => ?_)
  refine V_iload_n dec_X4_takeLaw.2.2.2.1 0 rfl ?_
  exact V_iret rfl dec_X4_takeLaw.2.2.2.2
def X4_takeLaw (s : St) (a0 : Int) : Rs :=
  grd (isK s 14 a0) (bnd (X4_lawOfToken s a0) (fun r1 s2 => if r1 < 0 then (X4_takeLaw_b15 s2 r1 0 a0) else (X4_takeLaw_b15 s2 r1 1 a0)))
set_option maxRecDepth 100000 in
set_option maxHeartbeats 4000000 in
theorem X4_takeLaw_s (G : Gx) (l : Launch) (s : St) (a0 : Int) : Snd G l mX4_takeLaw [(2, a0)] s (X4_takeLaw s a0) := by
  refine Snd.of (by decide +kernel) rfl ?_
  show V G l mX4_takeLaw 0 [(0, (2, a0))] [] s _
  unfold X4_takeLaw
  refine V_aload_n dec_X4_takeLaw.1.1.1 0 rfl ?_
  refine V_callV0 (ci := 4) (a := a0) (As := []) (st := []) rfl rfl (X4_lawOfToken_s G l s a0) cal_X4_lawOfToken rfl ml_X4_196 rfl rfl dec_X4_takeLaw.1.1.2.1 (k_tag (tag := 0) rfl fun r1 s2 => ?_)
  refine V_istore_n (lv' := [(1, (0, r1)), (0, (2, a0))]) dec_X4_takeLaw.1.1.2.2 (by decide) rfl ?_
  refine V_aload_n dec_X4_takeLaw.1.2.1 1 rfl ?_
  refine V_iload_n dec_X4_takeLaw.1.2.2.1 0 rfl ?_
  refine V_if_lt (tgt := 14) dec_X4_takeLaw.1.2.2.2 (by decide) ?_ ?_
  · refine V_iconst dec_X4_takeLaw.2.1.2.2 rfl ?_
    exact V_pick [0] rfl (X4_takeLaw_b15_s G l s2 r1 0 a0)
  · refine V_iconst dec_X4_takeLaw.2.1.1 rfl ?_
    refine V_goto (tgt := 15) dec_X4_takeLaw.2.1.2.1 (by decide) ?_
    exact V_pick [0] rfl (X4_takeLaw_b15_s G l s2 r1 1 a0)
theorem dec_X4_find : ((((decode cX4_find 0 = .ok (.iconst 0, 1) ∧ decode cX4_find 1 = .ok (.istore 4, 2)) ∧ (decode cX4_find 3 = .ok (.iload 4, 2) ∧ (decode cX4_find 5 = .ok (.iload_n 3, 1) ∧ decode cX4_find 6 = .ok (.if_icmp .ge 28, 3)))) ∧ ((decode cX4_find 9 = .ok (.iload 4, 2) ∧ decode cX4_find 11 = .ok (.aload_n 2, 1)) ∧ (decode cX4_find 12 = .ok (.arraylength, 1) ∧ (decode cX4_find 13 = .ok (.if_icmp .ge 21, 3) ∧ decode cX4_find 16 = .ok (.aload_n 2, 1))))) ∧ (((decode cX4_find 17 = .ok (.iload 4, 2) ∧ decode cX4_find 19 = .ok (.laload, 1)) ∧ (decode cX4_find 20 = .ok (.lload_n 0, 1) ∧ (decode cX4_find 21 = .ok (.lcmp, 1) ∧ decode cX4_find 22 = .ok (.ifCond .ne 6, 3)))) ∧ ((decode cX4_find 25 = .ok (.iload 4, 2) ∧ (decode cX4_find 27 = .ok (.ireturn, 1) ∧ decode cX4_find 28 = .ok (.iinc 4 1, 3))) ∧ (decode cX4_find 31 = .ok (.goto (-28), 3) ∧ (decode cX4_find 34 = .ok (.iconst (-1), 1) ∧ decode cX4_find 35 = .ok (.ireturn, 1)))))) := ⟨by decide +kernel, by decide +kernel⟩
def X4_find_b34 (s : St) : Rs :=
  some ((-1), s)
set_option maxRecDepth 100000 in
set_option maxHeartbeats 4000000 in
theorem X4_find_b34_s (G : Gx) (l : Launch) (s : St) : V G l mX4_find 34 [] [] s (X4_find_b34 s) := by
  unfold X4_find_b34
  refine V_iconst dec_X4_find.2.2.2.2.1 rfl ?_
  exact V_iret rfl dec_X4_find.2.2.2.2.2
def X4_find_b3_body (rk3 : St → Int → Int → Int → Int → Rs) (s : St) (x0 x2 x3 x4 : Int) : Rs :=
  if x3 ≤ x4 then (X4_find_b34 s) else (grd (isK s 3 x2) (if (ln s x2) ≤ x4 then (X4_find_b34 s) else (grd (isK s 3 x2 ∧ 0 ≤ x4 ∧ x4 < ln s x2) (if ¬ (cmp3 (gI s x2 x4.toNat) x0) = 0 then (rk3 s x0 x2 x3 (w32 (x4 + 1))) else (some (x4, s))))))
def X4_find_b3 (n : Nat) (s : St) (x0 x2 x3 x4 : Int) : Rs := iter (fun (rec : St × Int × Int × Int × Int → Rs) (a : St × Int × Int × Int × Int) => X4_find_b3_body (fun (s : St) (x0 x2 x3 x4 : Int) => rec (s, x0, x2, x3, x4)) a.1 a.2.1 a.2.2.1 a.2.2.2.1 a.2.2.2.2) n (s, x0, x2, x3, x4)
theorem X4_find_b3_0 (s : St) (x0 x2 x3 x4 : Int) : X4_find_b3 0 s x0 x2 x3 x4 = none := rfl
theorem X4_find_b3_1 (n : Nat) (s : St) (x0 x2 x3 x4 : Int) : X4_find_b3 (n + 1) s x0 x2 x3 x4 = X4_find_b3_body (X4_find_b3 n) s x0 x2 x3 x4 := rfl
set_option maxRecDepth 100000 in
set_option maxHeartbeats 4000000 in
theorem X4_find_b3_body_s (G : Gx) (l : Launch) (rk3 : St → Int → Int → Int → Int → Rs) (hk3 : ∀ (s : St) (x0 x2 x3 x4 : Int), V G l mX4_find 3 [(0, (1, x0)), (2, (2, x2)), (3, (0, x3)), (4, (0, x4))] [] s (rk3 s x0 x2 x3 x4)) (s : St) (x0 x2 x3 x4 : Int) : V G l mX4_find 3 [(0, (1, x0)), (2, (2, x2)), (3, (0, x3)), (4, (0, x4))] [] s (X4_find_b3_body rk3 s x0 x2 x3 x4) := by
  unfold X4_find_b3_body
  refine V_iload dec_X4_find.1.1.2.1 3 rfl ?_
  refine V_iload_n dec_X4_find.1.1.2.2.1 2 rfl ?_
  refine V_icmp_ge (tgt := 34) dec_X4_find.1.1.2.2.2 (by decide) ?_ ?_
  · exact V_pick [] rfl (X4_find_b34_s G l s)
  · refine V_iload dec_X4_find.1.2.1.1 3 rfl ?_
    refine V_aload_n dec_X4_find.1.2.1.2 1 rfl ?_
    refine V_alen 3 (by decide) dec_X4_find.1.2.2.1 ?_
    refine V_icmp_ge (tgt := 34) dec_X4_find.1.2.2.2.1 (by decide) ?_ ?_
    · exact V_pick [] rfl (X4_find_b34_s G l s)
    · refine V_aload_n dec_X4_find.1.2.2.2.2 1 rfl ?_
      refine V_iload dec_X4_find.2.1.1.1 3 rfl ?_
      refine V_lald dec_X4_find.2.1.1.2 ?_
      refine V_lload_n dec_X4_find.2.1.2.1 0 rfl ?_
      refine V_lcmp dec_X4_find.2.1.2.2.1 ?_
      refine V_if_ne (tgt := 28) dec_X4_find.2.1.2.2.2 (by decide) ?_ ?_
      · refine V_iinc (lv' := [(4, (0, (w32 (x4 + 1)))), (0, (1, x0)), (2, (2, x2)), (3, (0, x3))]) dec_X4_find.2.2.1.2.2 3 rfl (by decide) rfl ?_
        refine V_goto (tgt := 3) dec_X4_find.2.2.2.1 (by decide) ?_
        exact V_pick [1, 2, 3, 0] rfl (hk3 s x0 x2 x3 (w32 (x4 + 1)))
      · refine V_iload dec_X4_find.2.2.1.1 3 rfl ?_
        exact V_iret rfl dec_X4_find.2.2.1.2.1
theorem X4_find_b3_s (G : Gx) (l : Launch) (n : Nat) (s : St) (x0 x2 x3 x4 : Int) : V G l mX4_find 3 [(0, (1, x0)), (2, (2, x2)), (3, (0, x3)), (4, (0, x4))] [] s (X4_find_b3 n s x0 x2 x3 x4) :=
  V_iter (LV := fun a : St × Int × Int × Int × Int => [(0, (1, a.2.1)), (2, (2, a.2.2.1)), (3, (0, a.2.2.2.1)), (4, (0, a.2.2.2.2))]) (ST := fun a : St × Int × Int × Int × Int => []) (SS := fun a : St × Int × Int × Int × Int => a.1) (fun rec hrec a => X4_find_b3_body_s G l (fun (s : St) (x0 x2 x3 x4 : Int) => rec (s, x0, x2, x3, x4)) (fun (s : St) (x0 x2 x3 x4 : Int) => hrec (s, x0, x2, x3, x4)) a.1 a.2.1 a.2.2.1 a.2.2.2.1 a.2.2.2.2) n (s, x0, x2, x3, x4)
def X4_find (s : St) (a0 a1 a2 : Int) : Rs :=
  X4_find_b3 FU s a0 a1 a2 0
set_option maxRecDepth 100000 in
set_option maxHeartbeats 4000000 in
theorem X4_find_s (G : Gx) (l : Launch) (s : St) (a0 a1 a2 : Int) : Snd G l mX4_find [(1, a0), (2, a1), (0, a2)] s (X4_find s a0 a1 a2) := by
  refine Snd.of (by decide +kernel) rfl ?_
  show V G l mX4_find 0 [(0, (1, a0)), (2, (2, a1)), (3, (0, a2))] [] s _
  unfold X4_find
  refine V_iconst dec_X4_find.1.1.1.1 rfl ?_
  refine V_istore (lv' := [(4, (0, 0)), (0, (1, a0)), (2, (2, a1)), (3, (0, a2))]) dec_X4_find.1.1.1.2 (by decide) rfl ?_
  exact V_pick [1, 2, 3, 0] rfl (X4_find_b3_s G l FU s a0 a1 a2 0)
theorem dec_X4_takeNewName : (((((decode cX4_takeNewName 0 = .ok (.aload_n 0, 1) ∧ decode cX4_takeNewName 1 = .ok (.getfield 25, 3)) ∧ (decode cX4_takeNewName 4 = .ok (.getfield 192, 3) ∧ (decode cX4_takeNewName 7 = .ok (.lstore_n 1, 1) ∧ decode cX4_takeNewName 8 = .ok (.aload_n 0, 1)))) ∧ ((decode cX4_takeNewName 9 = .ok (.aload_n 0, 1) ∧ (decode cX4_takeNewName 10 = .ok (.getfield 25, 3) ∧ decode cX4_takeNewName 13 = .ok (.getfield 49, 3))) ∧ (decode cX4_takeNewName 16 = .ok (.iconst 1, 1) ∧ (decode cX4_takeNewName 17 = .ok (.if_icmp .ne 15, 3) ∧ decode cX4_takeNewName 20 = .ok (.aload_n 0, 1))))) ∧ (((decode cX4_takeNewName 21 = .ok (.invokevirtual 66, 3) ∧ (decode cX4_takeNewName 24 = .ok (.iconst (-1), 1) ∧ decode cX4_takeNewName 25 = .ok (.if_icmp .ne 7, 3))) ∧ (decode cX4_takeNewName 28 = .ok (.iconst 1, 1) ∧ (decode cX4_takeNewName 29 = .ok (.goto 4, 3) ∧ decode cX4_takeNewName 32 = .ok (.iconst 0, 1)))) ∧ ((decode cX4_takeNewName 33 = .ok (.invokevirtual 52, 3) ∧ (decode cX4_takeNewName 36 = .ok (.lload_n 1, 1) ∧ decode cX4_takeNewName 37 = .ok (.aload_n 0, 1))) ∧ (decode cX4_takeNewName 38 = .ok (.getfield 29, 3) ∧ (decode cX4_takeNewName 41 = .ok (.aload_n 0, 1) ∧ decode cX4_takeNewName 42 = .ok (.getfield 12, 3)))))) ∧ ((((decode cX4_takeNewName 45 = .ok (.getfield 56, 3) ∧ (decode cX4_takeNewName 48 = .ok (.invokestatic 215, 3) ∧ decode cX4_takeNewName 51 = .ok (.ifCond .ge 21, 3))) ∧ (decode cX4_takeNewName 54 = .ok (.lload_n 1, 1) ∧ (decode cX4_takeNewName 55 = .ok (.aload_n 0, 1) ∧ decode cX4_takeNewName 56 = .ok (.getfield 33, 3)))) ∧ ((decode cX4_takeNewName 59 = .ok (.aload_n 0, 1) ∧ (decode cX4_takeNewName 60 = .ok (.getfield 12, 3) ∧ decode cX4_takeNewName 63 = .ok (.getfield 130, 3))) ∧ (decode cX4_takeNewName 66 = .ok (.invokestatic 215, 3) ∧ (decode cX4_takeNewName 69 = .ok (.ifCond .lt 7, 3) ∧ decode cX4_takeNewName 72 = .ok (.iconst 1, 1))))) ∧ (((decode cX4_takeNewName 73 = .ok (.goto 4, 3) ∧ (decode cX4_takeNewName 76 = .ok (.iconst 0, 1) ∧ decode cX4_takeNewName 77 = .ok (.istore_n 3, 1))) ∧ (decode cX4_takeNewName 78 = .ok (.iload_n 3, 1) ∧ (decode cX4_takeNewName 79 = .ok (.ifCond .eq 12, 3) ∧ decode cX4_takeNewName 82 = .ok (.aload_n 0, 1)))) ∧ ((decode cX4_takeNewName 83 = .ok (.iconst 3, 1) ∧ (decode cX4_takeNewName 84 = .ok (.aload_n 0, 1) ∧ decode cX4_takeNewName 85 = .ok (.getfield 117, 3))) ∧ (decode cX4_takeNewName 88 = .ok (.invokevirtual 62, 3) ∧ (decode cX4_takeNewName 91 = .ok (.lload_n 1, 1) ∧ decode cX4_takeNewName 92 = .ok (.lreturn, 1))))))) := ⟨⟨by decide +kernel, by decide +kernel⟩, ⟨by decide +kernel, by decide +kernel⟩⟩
def X4_takeNewName_b91 (s : St) (x1 : Int) : Rs :=
  some (x1, s)
set_option maxRecDepth 100000 in
set_option maxHeartbeats 4000000 in
theorem X4_takeNewName_b91_s (G : Gx) (l : Launch) (s : St) (x1 : Int) : V G l mX4_takeNewName 91 [(1, (1, x1))] [] s (X4_takeNewName_b91 s x1) := by
  unfold X4_takeNewName_b91
  refine V_lload_n dec_X4_takeNewName.2.2.2.2.2.1 0 rfl ?_
  exact V_lret rfl dec_X4_takeNewName.2.2.2.2.2.2
def X4_takeNewName_b77 (s : St) (x0 x1 k0 : Int) : Rs :=
  if k0 = 0 then (X4_takeNewName_b91 s x1) else (grd (isK s 14 x0) (grd (isK s 14 x0) (bnd (X4_fail s x0 3 (gI s x0 6)) (fun r5 s6 => X4_takeNewName_b91 s6 x1))))
set_option maxRecDepth 100000 in
set_option maxHeartbeats 4000000 in
theorem X4_takeNewName_b77_s (G : Gx) (l : Launch) (s : St) (x0 x1 k0 : Int) : V G l mX4_takeNewName 77 [(0, (2, x0)), (1, (1, x1))] [(0, k0)] s (X4_takeNewName_b77 s x0 x1 k0) := by
  unfold X4_takeNewName_b77
  refine V_istore_n (lv' := [(3, (0, k0)), (0, (2, x0)), (1, (1, x1))]) dec_X4_takeNewName.2.2.1.1.2.2 (by decide) rfl ?_
  refine V_iload_n dec_X4_takeNewName.2.2.1.2.1 0 rfl ?_
  refine V_if_eq (tgt := 91) dec_X4_takeNewName.2.2.1.2.2.1 (by decide) ?_ ?_
  · exact V_pick [2] rfl (X4_takeNewName_b91_s G l s x1)
  · refine V_aload_n dec_X4_takeNewName.2.2.1.2.2.2 1 rfl ?_
    refine V_iconst dec_X4_takeNewName.2.2.2.1.1 rfl ?_
    refine V_aload_n dec_X4_takeNewName.2.2.2.1.2.1 1 rfl ?_
    refine V_getI 4 6 nf_4_6 ft_4_6 fl_X4_117 dec_X4_takeNewName.2.2.2.1.2.2 ?_
    refine V_callV0 (ci := 4) (a := x0) (As := [(0, 3), (0, (gI s x0 6))]) (st := []) rfl rfl (X4_fail_s G l s x0 3 (gI s x0 6)) cal_X4_fail rfl ml_X4_62 rfl rfl dec_X4_takeNewName.2.2.2.2.1 (k_void rfl fun r5 s6 => ?_)
    exact V_pick [2] rfl (X4_takeNewName_b91_s G l s6 x1)
def X4_takeNewName_b72 (s : St) (x0 x1 : Int) : Rs :=
  X4_takeNewName_b77 s x0 x1 1
set_option maxRecDepth 100000 in
set_option maxHeartbeats 4000000 in
theorem X4_takeNewName_b72_s (G : Gx) (l : Launch) (s : St) (x0 x1 : Int) : V G l mX4_takeNewName 72 [(0, (2, x0)), (1, (1, x1))] [] s (X4_takeNewName_b72 s x0 x1) := by
  unfold X4_takeNewName_b72
  refine V_iconst dec_X4_takeNewName.2.1.2.2.2.2 rfl ?_
  refine V_goto (tgt := 77) dec_X4_takeNewName.2.2.1.1.1 (by decide) ?_
  exact V_pick [0, 1] rfl (X4_takeNewName_b77_s G l s x0 x1 1)
def X4_takeNewName_b33 (s : St) (x0 x1 k0 k1 : Int) : Rs :=
  grd (isK s 14 k1) (bnd (X4_takeToken s k1 k0) (fun r1 s2 => grd (isK s2 14 x0) (grd (isK s2 14 x0) (grd (isK s2 19 (gR s2 x0 0)) (bnd (X4_find s2 x1 (gR s2 x0 4) (gI s2 (gR s2 x0 0) 2)) (fun r3 s4 => if 0 ≤ r3 then (X4_takeNewName_b72 s4 x0 x1) else (grd (isK s4 14 x0) (grd (isK s4 14 x0) (grd (isK s4 19 (gR s4 x0 0)) (bnd (X4_find s4 x1 (gR s4 x0 5) (gI s4 (gR s4 x0 0) 3)) (fun r7 s8 => if r7 < 0 then (X4_takeNewName_b77 s8 x0 x1 0) else (X4_takeNewName_b72 s8 x0 x1))))))))))))
set_option maxRecDepth 100000 in
set_option maxHeartbeats 4000000 in
theorem X4_takeNewName_b33_s (G : Gx) (l : Launch) (s : St) (x0 x1 k0 k1 : Int) : V G l mX4_takeNewName 33 [(0, (2, x0)), (1, (1, x1))] [(0, k0), (2, k1)] s (X4_takeNewName_b33 s x0 x1 k0 k1) := by
  unfold X4_takeNewName_b33
  refine V_callV0 (ci := 4) (a := k1) (As := [(0, k0)]) (st := []) rfl rfl (X4_takeToken_s G l s k1 k0) cal_X4_takeToken rfl ml_X4_52 rfl rfl dec_X4_takeNewName.1.2.2.1.1 (k_void rfl fun r1 s2 => ?_)
  refine V_lload_n dec_X4_takeNewName.1.2.2.1.2.1 1 rfl ?_
  refine V_aload_n dec_X4_takeNewName.1.2.2.1.2.2 0 rfl ?_
  refine V_getR 4 4 nf_4_4 ft_4_4 fl_X4_29 dec_X4_takeNewName.1.2.2.2.1 ?_
  refine V_aload_n dec_X4_takeNewName.1.2.2.2.2.1 0 rfl ?_
  refine V_getR 4 0 nf_4_0 ft_4_0 fl_X4_12 dec_X4_takeNewName.1.2.2.2.2.2 ?_
  refine V_getI 9 2 nf_9_2 ft_9_2 fl_X4_56 dec_X4_takeNewName.2.1.1.1.1 ?_
  refine V_callS0 (As := [(1, x1), (2, (gR s2 x0 4)), (0, (gI s2 (gR s2 x0 0) 2))]) (st := []) (host := "") rfl (X4_find_s G l s2 x1 (gR s2 x0 4) (gI s2 (gR s2 x0 0) 2)) cal_X4_find rfl (Or.inl ml_X4_215) rfl rfl dec_X4_takeNewName.2.1.1.1.2.1 (k_tag (tag := 0) rfl fun r3 s4 => ?_)
  refine V_if_ge (tgt := 72) dec_X4_takeNewName.2.1.1.1.2.2 (by decide) ?_ ?_
  · exact V_pick [0, 1] rfl (X4_takeNewName_b72_s G l s4 x0 x1)
  · refine V_lload_n dec_X4_takeNewName.2.1.1.2.1 1 rfl ?_
    refine V_aload_n dec_X4_takeNewName.2.1.1.2.2.1 0 rfl ?_
    refine V_getR 4 5 nf_4_5 ft_4_5 fl_X4_33 dec_X4_takeNewName.2.1.1.2.2.2 ?_
    refine V_aload_n dec_X4_takeNewName.2.1.2.1.1 0 rfl ?_
    refine V_getR 4 0 nf_4_0 ft_4_0 fl_X4_12 dec_X4_takeNewName.2.1.2.1.2.1 ?_
    refine V_getI 9 3 nf_9_3 ft_9_3 fl_X4_130 dec_X4_takeNewName.2.1.2.1.2.2 ?_
    refine V_callS0 (As := [(1, x1), (2, (gR s4 x0 5)), (0, (gI s4 (gR s4 x0 0) 3))]) (st := []) (host := "") rfl (X4_find_s G l s4 x1 (gR s4 x0 5) (gI s4 (gR s4 x0 0) 3)) cal_X4_find rfl (Or.inl ml_X4_215) rfl rfl dec_X4_takeNewName.2.1.2.2.1 (k_tag (tag := 0) rfl fun r7 s8 => ?_)
    refine V_if_lt (tgt := 76) dec_X4_takeNewName.2.1.2.2.2.1 (by decide) ?_ ?_
    · refine V_iconst dec_X4_takeNewName.2.2.1.1.2.1 rfl ?_
      exact V_pick [0, 1] rfl (X4_takeNewName_b77_s G l s8 x0 x1 0)
    · exact V_pick [0, 1] rfl (X4_takeNewName_b72_s G l s8 x0 x1)
def X4_takeNewName_b32 (s : St) (x0 x1 k0 : Int) : Rs :=
  X4_takeNewName_b33 s x0 x1 0 k0
set_option maxRecDepth 100000 in
set_option maxHeartbeats 4000000 in
theorem X4_takeNewName_b32_s (G : Gx) (l : Launch) (s : St) (x0 x1 k0 : Int) : V G l mX4_takeNewName 32 [(0, (2, x0)), (1, (1, x1))] [(2, k0)] s (X4_takeNewName_b32 s x0 x1 k0) := by
  unfold X4_takeNewName_b32
  refine V_iconst dec_X4_takeNewName.1.2.1.2.2.2 rfl ?_
  exact V_pick [0, 1] rfl (X4_takeNewName_b33_s G l s x0 x1 0 k0)
def X4_takeNewName (s : St) (a0 : Int) : Rs :=
  grd (isK s 14 a0) (grd (isK s 18 (gR s a0 3)) (grd (isK s 14 a0) (grd (isK s 18 (gR s a0 3)) (if ¬ (gI s (gR s a0 3) 0) = (1 : Int) then (X4_takeNewName_b32 s a0 (gI s (gR s a0 3) 2) a0) else (grd (isK s 14 a0) (bnd (X4_lineSort s a0) (fun r9 s10 => if ¬ r9 = ((-1) : Int) then (X4_takeNewName_b32 s10 a0 (gI s (gR s a0 3) 2) a0) else (X4_takeNewName_b33 s10 a0 (gI s (gR s a0 3) 2) 1 a0))))))))
set_option maxRecDepth 100000 in
set_option maxHeartbeats 4000000 in
theorem X4_takeNewName_s (G : Gx) (l : Launch) (s : St) (a0 : Int) : Snd G l mX4_takeNewName [(2, a0)] s (X4_takeNewName s a0) := by
  refine Snd.of (by decide +kernel) rfl ?_
  show V G l mX4_takeNewName 0 [(0, (2, a0))] [] s _
  unfold X4_takeNewName
  refine V_aload_n dec_X4_takeNewName.1.1.1.1.1 0 rfl ?_
  refine V_getR 4 3 nf_4_3 ft_4_3 fl_X4_25 dec_X4_takeNewName.1.1.1.1.2 ?_
  refine V_getL 8 2 nf_8_2 ft_8_2 fl_X4_192 dec_X4_takeNewName.1.1.1.2.1 ?_
  refine V_lstore_n (lv' := [(1, (1, (gI s (gR s a0 3) 2))), (0, (2, a0))]) dec_X4_takeNewName.1.1.1.2.2.1 (by decide) rfl ?_
  refine V_aload_n dec_X4_takeNewName.1.1.1.2.2.2 1 rfl ?_
  refine V_aload_n dec_X4_takeNewName.1.1.2.1.1 1 rfl ?_
  refine V_getR 4 3 nf_4_3 ft_4_3 fl_X4_25 dec_X4_takeNewName.1.1.2.1.2.1 ?_
  refine V_getI 8 0 nf_8_0 ft_8_0 fl_X4_49 dec_X4_takeNewName.1.1.2.1.2.2 ?_
  refine V_iconst dec_X4_takeNewName.1.1.2.2.1 rfl ?_
  refine V_icmp_ne (tgt := 32) dec_X4_takeNewName.1.1.2.2.2.1 (by decide) ?_ ?_
  · exact V_pick [1, 0] rfl (X4_takeNewName_b32_s G l s a0 (gI s (gR s a0 3) 2) a0)
  · refine V_aload_n dec_X4_takeNewName.1.1.2.2.2.2 1 rfl ?_
    refine V_callV0 (ci := 4) (a := a0) (As := []) (st := [(2, a0)]) rfl rfl (X4_lineSort_s G l s a0) cal_X4_lineSort rfl ml_X4_66 rfl rfl dec_X4_takeNewName.1.2.1.1.1 (k_tag (tag := 0) rfl fun r9 s10 => ?_)
    refine V_iconst dec_X4_takeNewName.1.2.1.1.2.1 rfl ?_
    refine V_icmp_ne (tgt := 32) dec_X4_takeNewName.1.2.1.1.2.2 (by decide) ?_ ?_
    · exact V_pick [1, 0] rfl (X4_takeNewName_b32_s G l s10 a0 (gI s (gR s a0 3) 2) a0)
    · refine V_iconst dec_X4_takeNewName.1.2.1.2.1 rfl ?_
      refine V_goto (tgt := 33) dec_X4_takeNewName.1.2.1.2.2.1 (by decide) ?_
      exact V_pick [1, 0] rfl (X4_takeNewName_b33_s G l s10 a0 (gI s (gR s a0 3) 2) 1 a0)
theorem dec_X4_takeTold : ((((decode cX4_takeTold 0 = .ok (.aload_n 0, 1) ∧ (decode cX4_takeTold 1 = .ok (.getfield 25, 3) ∧ decode cX4_takeTold 4 = .ok (.getfield 192, 3))) ∧ ((decode cX4_takeTold 7 = .ok (.aload_n 1, 1) ∧ decode cX4_takeTold 8 = .ok (.iload_n 2, 1)) ∧ (decode cX4_takeTold 9 = .ok (.invokestatic 215, 3) ∧ decode cX4_takeTold 12 = .ok (.istore_n 3, 1)))) ∧ (((decode cX4_takeTold 13 = .ok (.aload_n 0, 1) ∧ decode cX4_takeTold 14 = .ok (.aload_n 0, 1)) ∧ (decode cX4_takeTold 15 = .ok (.getfield 25, 3) ∧ decode cX4_takeTold 18 = .ok (.getfield 49, 3))) ∧ ((decode cX4_takeTold 21 = .ok (.iconst 1, 1) ∧ decode cX4_takeTold 22 = .ok (.if_icmp .ne 15, 3)) ∧ (decode cX4_takeTold 25 = .ok (.aload_n 0, 1) ∧ decode cX4_takeTold 26 = .ok (.invokevirtual 66, 3))))) ∧ (((decode cX4_takeTold 29 = .ok (.iconst (-1), 1) ∧ (decode cX4_takeTold 30 = .ok (.if_icmp .ne 7, 3) ∧ decode cX4_takeTold 33 = .ok (.iconst 1, 1))) ∧ ((decode cX4_takeTold 34 = .ok (.goto 4, 3) ∧ decode cX4_takeTold 37 = .ok (.iconst 0, 1)) ∧ (decode cX4_takeTold 38 = .ok (.invokevirtual 52, 3) ∧ decode cX4_takeTold 41 = .ok (.iload_n 3, 1)))) ∧ (((decode cX4_takeTold 42 = .ok (.ifCond .ge 12, 3) ∧ decode cX4_takeTold 45 = .ok (.aload_n 0, 1)) ∧ (decode cX4_takeTold 46 = .ok (.iconst 2, 1) ∧ decode cX4_takeTold 47 = .ok (.aload_n 0, 1))) ∧ ((decode cX4_takeTold 48 = .ok (.getfield 117, 3) ∧ decode cX4_takeTold 51 = .ok (.invokevirtual 62, 3)) ∧ (decode cX4_takeTold 54 = .ok (.iload_n 3, 1) ∧ decode cX4_takeTold 55 = .ok (.ireturn, 1)))))) := ⟨⟨by decide +kernel, by decide +kernel⟩, ⟨by decide +kernel, by decide +kernel⟩⟩
def X4_takeTold_b54 (s : St) (x3 : Int) : Rs :=
  some (x3, s)
set_option maxRecDepth 100000 in
set_option maxHeartbeats 4000000 in
theorem X4_takeTold_b54_s (G : Gx) (l : Launch) (s : St) (x3 : Int) : V G l mX4_takeTold 54 [(3, (0, x3))] [] s (X4_takeTold_b54 s x3) := by
  unfold X4_takeTold_b54
  refine V_iload_n dec_X4_takeTold.2.2.2.2.1 0 rfl ?_
  exact V_iret rfl dec_X4_takeTold.2.2.2.2.2
def X4_takeTold_b38 (s : St) (x0 x3 k0 k1 : Int) : Rs :=
  grd (isK s 14 k1) (bnd (X4_takeToken s k1 k0) (fun r3 s4 => if 0 ≤ x3 then (X4_takeTold_b54 s4 x3) else (grd (isK s4 14 x0) (grd (isK s4 14 x0) (bnd (X4_fail s4 x0 2 (gI s4 x0 6)) (fun r5 s6 => X4_takeTold_b54 s6 x3))))))
set_option maxRecDepth 100000 in
set_option maxHeartbeats 4000000 in
theorem X4_takeTold_b38_s (G : Gx) (l : Launch) (s : St) (x0 x3 k0 k1 : Int) : V G l mX4_takeTold 38 [(0, (2, x0)), (3, (0, x3))] [(0, k0), (2, k1)] s (X4_takeTold_b38 s x0 x3 k0 k1) := by
  unfold X4_takeTold_b38
  refine V_callV0 (ci := 4) (a := k1) (As := [(0, k0)]) (st := []) rfl rfl (X4_takeToken_s G l s k1 k0) cal_X4_takeToken rfl ml_X4_52 rfl rfl dec_X4_takeTold.2.1.2.2.1 (k_void rfl fun r3 s4 => ?_)
  refine V_iload_n dec_X4_takeTold.2.1.2.2.2 1 rfl ?_
  refine V_if_ge (tgt := 54) dec_X4_takeTold.2.2.1.1.1 (by decide) ?_ ?_
  · exact V_pick [1] rfl (X4_takeTold_b54_s G l s4 x3)
  · refine V_aload_n dec_X4_takeTold.2.2.1.1.2 0 rfl ?_
    refine V_iconst dec_X4_takeTold.2.2.1.2.1 rfl ?_
    refine V_aload_n dec_X4_takeTold.2.2.1.2.2 0 rfl ?_
    refine V_getI 4 6 nf_4_6 ft_4_6 fl_X4_117 dec_X4_takeTold.2.2.2.1.1 ?_
    refine V_callV0 (ci := 4) (a := x0) (As := [(0, 2), (0, (gI s4 x0 6))]) (st := []) rfl rfl (X4_fail_s G l s4 x0 2 (gI s4 x0 6)) cal_X4_fail rfl ml_X4_62 rfl rfl dec_X4_takeTold.2.2.2.1.2 (k_void rfl fun r5 s6 => ?_)
    exact V_pick [1] rfl (X4_takeTold_b54_s G l s6 x3)
def X4_takeTold_b37 (s : St) (x0 x3 k0 : Int) : Rs :=
  X4_takeTold_b38 s x0 x3 0 k0
set_option maxRecDepth 100000 in
set_option maxHeartbeats 4000000 in
theorem X4_takeTold_b37_s (G : Gx) (l : Launch) (s : St) (x0 x3 k0 : Int) : V G l mX4_takeTold 37 [(0, (2, x0)), (3, (0, x3))] [(2, k0)] s (X4_takeTold_b37 s x0 x3 k0) := by
  unfold X4_takeTold_b37
  refine V_iconst dec_X4_takeTold.2.1.2.1.2 rfl ?_
  exact V_pick [0, 1] rfl (X4_takeTold_b38_s G l s x0 x3 0 k0)
def X4_takeTold (s : St) (a0 a1 a2 : Int) : Rs :=
  grd (isK s 14 a0) (grd (isK s 18 (gR s a0 3)) (bnd (X4_find s (gI s (gR s a0 3) 2) a1 a2) (fun r1 s2 => grd (isK s2 14 a0) (grd (isK s2 18 (gR s2 a0 3)) (if ¬ (gI s2 (gR s2 a0 3) 0) = (1 : Int) then (X4_takeTold_b37 s2 a0 r1 a0) else (grd (isK s2 14 a0) (bnd (X4_lineSort s2 a0) (fun r7 s8 => if ¬ r7 = ((-1) : Int) then (X4_takeTold_b37 s8 a0 r1 a0) else (X4_takeTold_b38 s8 a0 r1 1 a0)))))))))
set_option maxRecDepth 100000 in
set_option maxHeartbeats 4000000 in
theorem X4_takeTold_s (G : Gx) (l : Launch) (s : St) (a0 a1 a2 : Int) : Snd G l mX4_takeTold [(2, a0), (2, a1), (0, a2)] s (X4_takeTold s a0 a1 a2) := by
  refine Snd.of (by decide +kernel) rfl ?_
  show V G l mX4_takeTold 0 [(0, (2, a0)), (1, (2, a1)), (2, (0, a2))] [] s _
  unfold X4_takeTold
  refine V_aload_n dec_X4_takeTold.1.1.1.1 0 rfl ?_
  refine V_getR 4 3 nf_4_3 ft_4_3 fl_X4_25 dec_X4_takeTold.1.1.1.2.1 ?_
  refine V_getL 8 2 nf_8_2 ft_8_2 fl_X4_192 dec_X4_takeTold.1.1.1.2.2 ?_
  refine V_aload_n dec_X4_takeTold.1.1.2.1.1 1 rfl ?_
  refine V_iload_n dec_X4_takeTold.1.1.2.1.2 2 rfl ?_
  refine V_callS0 (As := [(1, (gI s (gR s a0 3) 2)), (2, a1), (0, a2)]) (st := []) (host := "") rfl (X4_find_s G l s (gI s (gR s a0 3) 2) a1 a2) cal_X4_find rfl (Or.inl ml_X4_215) rfl rfl dec_X4_takeTold.1.1.2.2.1 (k_tag (tag := 0) rfl fun r1 s2 => ?_)
  refine V_istore_n (lv' := [(3, (0, r1)), (0, (2, a0)), (1, (2, a1)), (2, (0, a2))]) dec_X4_takeTold.1.1.2.2.2 (by decide) rfl ?_
  refine V_aload_n dec_X4_takeTold.1.2.1.1.1 1 rfl ?_
  refine V_aload_n dec_X4_takeTold.1.2.1.1.2 1 rfl ?_
  refine V_getR 4 3 nf_4_3 ft_4_3 fl_X4_25 dec_X4_takeTold.1.2.1.2.1 ?_
  refine V_getI 8 0 nf_8_0 ft_8_0 fl_X4_49 dec_X4_takeTold.1.2.1.2.2 ?_
  refine V_iconst dec_X4_takeTold.1.2.2.1.1 rfl ?_
  refine V_icmp_ne (tgt := 37) dec_X4_takeTold.1.2.2.1.2 (by decide) ?_ ?_
  · exact V_pick [1, 0] rfl (X4_takeTold_b37_s G l s2 a0 r1 a0)
  · refine V_aload_n dec_X4_takeTold.1.2.2.2.1 1 rfl ?_
    refine V_callV0 (ci := 4) (a := a0) (As := []) (st := [(2, a0)]) rfl rfl (X4_lineSort_s G l s2 a0) cal_X4_lineSort rfl ml_X4_66 rfl rfl dec_X4_takeTold.1.2.2.2.2 (k_tag (tag := 0) rfl fun r7 s8 => ?_)
    refine V_iconst dec_X4_takeTold.2.1.1.1 rfl ?_
    refine V_icmp_ne (tgt := 37) dec_X4_takeTold.2.1.1.2.1 (by decide) ?_ ?_
    · exact V_pick [1, 0] rfl (X4_takeTold_b37_s G l s8 a0 r1 a0)
    · refine V_iconst dec_X4_takeTold.2.1.1.2.2 rfl ?_
      refine V_goto (tgt := 38) dec_X4_takeTold.2.1.2.1.1 (by decide) ?_
      exact V_pick [1, 0] rfl (X4_takeTold_b38_s G l s8 a0 r1 1 a0)
theorem dec_X4_takeWhole : ((((decode cX4_takeWhole 0 = .ok (.aload_n 0, 1) ∧ (decode cX4_takeWhole 1 = .ok (.getfield 25, 3) ∧ decode cX4_takeWhole 4 = .ok (.getfield 192, 3))) ∧ ((decode cX4_takeWhole 7 = .ok (.l2i, 1) ∧ decode cX4_takeWhole 8 = .ok (.istore_n 3, 1)) ∧ (decode cX4_takeWhole 9 = .ok (.aload_n 0, 1) ∧ decode cX4_takeWhole 10 = .ok (.aload_n 0, 1)))) ∧ ((decode cX4_takeWhole 11 = .ok (.getfield 25, 3) ∧ (decode cX4_takeWhole 14 = .ok (.getfield 49, 3) ∧ decode cX4_takeWhole 17 = .ok (.iconst 2, 1))) ∧ ((decode cX4_takeWhole 18 = .ok (.if_icmp .ne 7, 3) ∧ decode cX4_takeWhole 21 = .ok (.iconst 1, 1)) ∧ (decode cX4_takeWhole 22 = .ok (.goto 4, 3) ∧ decode cX4_takeWhole 25 = .ok (.iconst 0, 1))))) ∧ (((decode cX4_takeWhole 26 = .ok (.invokevirtual 52, 3) ∧ (decode cX4_takeWhole 29 = .ok (.iload_n 3, 1) ∧ decode cX4_takeWhole 30 = .ok (.iload_n 1, 1))) ∧ ((decode cX4_takeWhole 31 = .ok (.if_icmp .lt 8, 3) ∧ decode cX4_takeWhole 34 = .ok (.iload_n 3, 1)) ∧ (decode cX4_takeWhole 35 = .ok (.iload_n 2, 1) ∧ decode cX4_takeWhole 36 = .ok (.if_icmp .le 12, 3)))) ∧ ((decode cX4_takeWhole 39 = .ok (.aload_n 0, 1) ∧ (decode cX4_takeWhole 40 = .ok (.iconst 4, 1) ∧ decode cX4_takeWhole 41 = .ok (.aload_n 0, 1))) ∧ ((decode cX4_takeWhole 42 = .ok (.getfield 117, 3) ∧ decode cX4_takeWhole 45 = .ok (.invokevirtual 62, 3)) ∧ (decode cX4_takeWhole 48 = .ok (.iload_n 3, 1) ∧ decode cX4_takeWhole 49 = .ok (.ireturn, 1)))))) := ⟨⟨by decide +kernel, by decide +kernel⟩, ⟨by decide +kernel, by decide +kernel⟩⟩
def X4_takeWhole_b48 (s : St) (x3 : Int) : Rs :=
  some (x3, s)
set_option maxRecDepth 100000 in
set_option maxHeartbeats 4000000 in
theorem X4_takeWhole_b48_s (G : Gx) (l : Launch) (s : St) (x3 : Int) : V G l mX4_takeWhole 48 [(3, (0, x3))] [] s (X4_takeWhole_b48 s x3) := by
  unfold X4_takeWhole_b48
  refine V_iload_n dec_X4_takeWhole.2.2.2.2.1 0 rfl ?_
  exact V_iret rfl dec_X4_takeWhole.2.2.2.2.2
def X4_takeWhole_b39 (s : St) (x0 x3 : Int) : Rs :=
  grd (isK s 14 x0) (grd (isK s 14 x0) (bnd (X4_fail s x0 4 (gI s x0 6)) (fun r4 s5 => X4_takeWhole_b48 s5 x3)))
set_option maxRecDepth 100000 in
set_option maxHeartbeats 4000000 in
theorem X4_takeWhole_b39_s (G : Gx) (l : Launch) (s : St) (x0 x3 : Int) : V G l mX4_takeWhole 39 [(0, (2, x0)), (3, (0, x3))] [] s (X4_takeWhole_b39 s x0 x3) := by
  unfold X4_takeWhole_b39
  refine V_aload_n dec_X4_takeWhole.2.2.1.1 0 rfl ?_
  refine V_iconst dec_X4_takeWhole.2.2.1.2.1 rfl ?_
  refine V_aload_n dec_X4_takeWhole.2.2.1.2.2 0 rfl ?_
  refine V_getI 4 6 nf_4_6 ft_4_6 fl_X4_117 dec_X4_takeWhole.2.2.2.1.1 ?_
  refine V_callV0 (ci := 4) (a := x0) (As := [(0, 4), (0, (gI s x0 6))]) (st := []) rfl rfl (X4_fail_s G l s x0 4 (gI s x0 6)) cal_X4_fail rfl ml_X4_62 rfl rfl dec_X4_takeWhole.2.2.2.1.2 (k_void rfl fun r4 s5 => ?_)
  exact V_pick [1] rfl (X4_takeWhole_b48_s G l s5 x3)
def X4_takeWhole_b26 (s : St) (x0 x1 x2 x3 k0 k1 : Int) : Rs :=
  grd (isK s 14 k1) (bnd (X4_takeToken s k1 k0) (fun r2 s3 => if x3 < x1 then (X4_takeWhole_b39 s3 x0 x3) else (if x3 ≤ x2 then (X4_takeWhole_b48 s3 x3) else (X4_takeWhole_b39 s3 x0 x3))))
set_option maxRecDepth 100000 in
set_option maxHeartbeats 4000000 in
theorem X4_takeWhole_b26_s (G : Gx) (l : Launch) (s : St) (x0 x1 x2 x3 k0 k1 : Int) : V G l mX4_takeWhole 26 [(0, (2, x0)), (1, (0, x1)), (2, (0, x2)), (3, (0, x3))] [(0, k0), (2, k1)] s (X4_takeWhole_b26 s x0 x1 x2 x3 k0 k1) := by
  unfold X4_takeWhole_b26
  refine V_callV0 (ci := 4) (a := k1) (As := [(0, k0)]) (st := []) rfl rfl (X4_takeToken_s G l s k1 k0) cal_X4_takeToken rfl ml_X4_52 rfl rfl dec_X4_takeWhole.2.1.1.1 (k_void rfl fun r2 s3 => ?_)
  refine V_iload_n dec_X4_takeWhole.2.1.1.2.1 3 rfl ?_
  refine V_iload_n dec_X4_takeWhole.2.1.1.2.2 1 rfl ?_
  refine V_icmp_lt (tgt := 39) dec_X4_takeWhole.2.1.2.1.1 (by decide) ?_ ?_
  · exact V_pick [0, 3] rfl (X4_takeWhole_b39_s G l s3 x0 x3)
  · refine V_iload_n dec_X4_takeWhole.2.1.2.1.2 3 rfl ?_
    refine V_iload_n dec_X4_takeWhole.2.1.2.2.1 2 rfl ?_
    refine V_icmp_le (tgt := 48) dec_X4_takeWhole.2.1.2.2.2 (by decide) ?_ ?_
    · exact V_pick [3] rfl (X4_takeWhole_b48_s G l s3 x3)
    · exact V_pick [0, 3] rfl (X4_takeWhole_b39_s G l s3 x0 x3)
def X4_takeWhole (s : St) (a0 a1 a2 : Int) : Rs :=
  grd (isK s 14 a0) (grd (isK s 18 (gR s a0 3)) (letv (w32 (gI s (gR s a0 3) 2)) (fun y1 => grd (isK s 14 a0) (grd (isK s 18 (gR s a0 3)) (if ¬ (gI s (gR s a0 3) 0) = (2 : Int) then (X4_takeWhole_b26 s a0 a1 a2 y1 0 a0) else (X4_takeWhole_b26 s a0 a1 a2 y1 1 a0))))))
set_option maxRecDepth 100000 in
set_option maxHeartbeats 4000000 in
theorem X4_takeWhole_s (G : Gx) (l : Launch) (s : St) (a0 a1 a2 : Int) : Snd G l mX4_takeWhole [(2, a0), (0, a1), (0, a2)] s (X4_takeWhole s a0 a1 a2) := by
  refine Snd.of (by decide +kernel) rfl ?_
  show V G l mX4_takeWhole 0 [(0, (2, a0)), (1, (0, a1)), (2, (0, a2))] [] s _
  unfold X4_takeWhole
  refine V_aload_n dec_X4_takeWhole.1.1.1.1 0 rfl ?_
  refine V_getR 4 3 nf_4_3 ft_4_3 fl_X4_25 dec_X4_takeWhole.1.1.1.2.1 ?_
  refine V_getL 8 2 nf_8_2 ft_8_2 fl_X4_192 dec_X4_takeWhole.1.1.1.2.2 ?_
  refine V_l2i dec_X4_takeWhole.1.1.2.1.1 ?_
  refine V_letv fun y1 => ?_
  refine V_istore_n (lv' := [(3, (0, y1)), (0, (2, a0)), (1, (0, a1)), (2, (0, a2))]) dec_X4_takeWhole.1.1.2.1.2 (by decide) rfl ?_
  refine V_aload_n dec_X4_takeWhole.1.1.2.2.1 1 rfl ?_
  refine V_aload_n dec_X4_takeWhole.1.1.2.2.2 1 rfl ?_
  refine V_getR 4 3 nf_4_3 ft_4_3 fl_X4_25 dec_X4_takeWhole.1.2.1.1 ?_
  refine V_getI 8 0 nf_8_0 ft_8_0 fl_X4_49 dec_X4_takeWhole.1.2.1.2.1 ?_
  refine V_iconst dec_X4_takeWhole.1.2.1.2.2 rfl ?_
  refine V_icmp_ne (tgt := 25) dec_X4_takeWhole.1.2.2.1.1 (by decide) ?_ ?_
  · refine V_iconst dec_X4_takeWhole.1.2.2.2.2 rfl ?_
    exact V_pick [1, 2, 3, 0] rfl (X4_takeWhole_b26_s G l s a0 a1 a2 y1 0 a0)
  · refine V_iconst dec_X4_takeWhole.1.2.2.1.2 rfl ?_
    refine V_goto (tgt := 26) dec_X4_takeWhole.1.2.2.2.1 (by decide) ?_
    exact V_pick [1, 2, 3, 0] rfl (X4_takeWhole_b26_s G l s a0 a1 a2 y1 1 a0)
theorem dec_X4_takeWord : ((decode cX4_takeWord 0 = .ok (.aload_n 0, 1) ∧ (decode cX4_takeWord 1 = .ok (.aload_n 0, 1) ∧ decode cX4_takeWord 2 = .ok (.getfield 25, 3))) ∧ ((decode cX4_takeWord 5 = .ok (.aload_n 1, 1) ∧ decode cX4_takeWord 6 = .ok (.invokevirtual 188, 3)) ∧ (decode cX4_takeWord 9 = .ok (.invokevirtual 52, 3) ∧ decode cX4_takeWord 12 = .ok (.return_, 1)))) := by decide +kernel
def X4_takeWord (s : St) (a0 a1 : Int) : Rs :=
  grd (isK s 14 a0) (grd (isK s 18 (gR s a0 3)) (bnd (X8_isWord s (gR s a0 3) a1) (fun r1 s2 => grd (isK s2 14 a0) (bnd (X4_takeToken s2 a0 r1) (fun r3 s4 => some (0, s4))))))
set_option maxRecDepth 100000 in
set_option maxHeartbeats 4000000 in
theorem X4_takeWord_s (G : Gx) (l : Launch) (s : St) (a0 a1 : Int) : Snd G l mX4_takeWord [(2, a0), (2, a1)] s (X4_takeWord s a0 a1) := by
  refine Snd.of (by decide +kernel) rfl ?_
  show V G l mX4_takeWord 0 [(0, (2, a0)), (1, (2, a1))] [] s _
  unfold X4_takeWord
  refine V_aload_n dec_X4_takeWord.1.1 0 rfl ?_
  refine V_aload_n dec_X4_takeWord.1.2.1 0 rfl ?_
  refine V_getR 4 3 nf_4_3 ft_4_3 fl_X4_25 dec_X4_takeWord.1.2.2 ?_
  refine V_aload_n dec_X4_takeWord.2.1.1 1 rfl ?_
  refine V_callV0 (ci := 8) (a := (gR s a0 3)) (As := [(2, a1)]) (st := [(2, a0)]) rfl rfl (X8_isWord_s G l s (gR s a0 3) a1) cal_X8_isWord rfl ml_X4_188 rfl rfl dec_X4_takeWord.2.1.2 (k_tag (tag := 0) rfl fun r1 s2 => ?_)
  refine V_callV0 (ci := 4) (a := a0) (As := [(0, r1)]) (st := []) rfl rfl (X4_takeToken_s G l s2 a0 r1) cal_X4_takeToken rfl ml_X4_52 rfl rfl dec_X4_takeWord.2.2.1 (k_void rfl fun r3 s4 => ?_)
  exact V_vret rfl dec_X4_takeWord.2.2.2
theorem dec_X4_readDead : ((((((decode cX4_readDead 0 = .ok (.aload_n 0, 1) ∧ decode cX4_readDead 1 = .ok (.aload_n 0, 1)) ∧ (decode cX4_readDead 2 = .ok (.getfield 12, 3) ∧ (decode cX4_readDead 5 = .ok (.getfield 130, 3) ∧ decode cX4_readDead 8 = .ok (.bipush 6, 2)))) ∧ ((decode cX4_readDead 10 = .ok (.if_icmp .lt 7, 3) ∧ decode cX4_readDead 13 = .ok (.iconst 1, 1)) ∧ (decode cX4_readDead 14 = .ok (.goto 4, 3) ∧ (decode cX4_readDead 17 = .ok (.iconst 0, 1) ∧ decode cX4_readDead 18 = .ok (.invokevirtual 104, 3))))) ∧ (((decode cX4_readDead 21 = .ok (.aload_n 0, 1) ∧ decode cX4_readDead 22 = .ok (.invokevirtual 107, 3)) ∧ (decode cX4_readDead 25 = .ok (.lstore_n 1, 1) ∧ (decode cX4_readDead 26 = .ok (.aload_n 0, 1) ∧ decode cX4_readDead 27 = .ok (.invokevirtual 133, 3)))) ∧ ((decode cX4_readDead 30 = .ok (.istore_n 3, 1) ∧ (decode cX4_readDead 31 = .ok (.aload_n 0, 1) ∧ decode cX4_readDead 32 = .ok (.ldc 136, 2))) ∧ (decode cX4_readDead 34 = .ok (.invokevirtual 92, 3) ∧ (decode cX4_readDead 37 = .ok (.aload_n 0, 1) ∧ decode cX4_readDead 38 = .ok (.iconst 0, 1)))))) ∧ ((((decode cX4_readDead 39 = .ok (.bipush 39, 2) ∧ decode cX4_readDead 41 = .ok (.invokevirtual 96, 3)) ∧ (decode cX4_readDead 44 = .ok (.istore 4, 2) ∧ (decode cX4_readDead 46 = .ok (.aload_n 0, 1) ∧ decode cX4_readDead 47 = .ok (.ldc 138, 2)))) ∧ ((decode cX4_readDead 49 = .ok (.invokevirtual 92, 3) ∧ (decode cX4_readDead 52 = .ok (.aload_n 0, 1) ∧ decode cX4_readDead 53 = .ok (.aload_n 0, 1))) ∧ (decode cX4_readDead 54 = .ok (.getfield 29, 3) ∧ (decode cX4_readDead 57 = .ok (.aload_n 0, 1) ∧ decode cX4_readDead 58 = .ok (.getfield 12, 3))))) ∧ (((decode cX4_readDead 61 = .ok (.getfield 56, 3) ∧ decode cX4_readDead 64 = .ok (.invokevirtual 140, 3)) ∧ (decode cX4_readDead 67 = .ok (.istore 5, 2) ∧ (decode cX4_readDead 69 = .ok (.aload_n 0, 1) ∧ decode cX4_readDead 70 = .ok (.getfield 36, 3)))) ∧ ((decode cX4_readDead 73 = .ok (.ifCond .ne 102, 3) ∧ (decode cX4_readDead 76 = .ok (.aload_n 0, 1) ∧ decode cX4_readDead 77 = .ok (.getfield 33, 3))) ∧ (decode cX4_readDead 80 = .ok (.aload_n 0, 1) ∧ (decode cX4_readDead 81 = .ok (.getfield 12, 3) ∧ decode cX4_readDead 84 = .ok (.getfield 130, 3))))))) ∧ (((((decode cX4_readDead 87 = .ok (.lload_n 1, 1) ∧ decode cX4_readDead 88 = .ok (.lastore, 1)) ∧ (decode cX4_readDead 89 = .ok (.aload_n 0, 1) ∧ (decode cX4_readDead 90 = .ok (.getfield 12, 3) ∧ decode cX4_readDead 93 = .ok (.getfield 144, 3)))) ∧ ((decode cX4_readDead 96 = .ok (.aload_n 0, 1) ∧ (decode cX4_readDead 97 = .ok (.getfield 12, 3) ∧ decode cX4_readDead 100 = .ok (.getfield 130, 3))) ∧ (decode cX4_readDead 103 = .ok (.iload_n 3, 1) ∧ (decode cX4_readDead 104 = .ok (.iastore, 1) ∧ decode cX4_readDead 105 = .ok (.aload_n 0, 1))))) ∧ (((decode cX4_readDead 106 = .ok (.getfield 12, 3) ∧ decode cX4_readDead 109 = .ok (.getfield 147, 3)) ∧ (decode cX4_readDead 112 = .ok (.aload_n 0, 1) ∧ (decode cX4_readDead 113 = .ok (.getfield 12, 3) ∧ decode cX4_readDead 116 = .ok (.getfield 130, 3)))) ∧ ((decode cX4_readDead 119 = .ok (.iload 5, 2) ∧ (decode cX4_readDead 121 = .ok (.iastore, 1) ∧ decode cX4_readDead 122 = .ok (.aload_n 0, 1))) ∧ (decode cX4_readDead 123 = .ok (.getfield 12, 3) ∧ (decode cX4_readDead 126 = .ok (.getfield 120, 3) ∧ decode cX4_readDead 129 = .ok (.getfield 150, 3)))))) ∧ ((((decode cX4_readDead 132 = .ok (.aload_n 0, 1) ∧ decode cX4_readDead 133 = .ok (.getfield 12, 3)) ∧ (decode cX4_readDead 136 = .ok (.getfield 130, 3) ∧ (decode cX4_readDead 139 = .ok (.iload 4, 2) ∧ decode cX4_readDead 141 = .ok (.iastore, 1)))) ∧ ((decode cX4_readDead 142 = .ok (.aload_n 0, 1) ∧ (decode cX4_readDead 143 = .ok (.getfield 12, 3) ∧ decode cX4_readDead 146 = .ok (.getfield 120, 3))) ∧ (decode cX4_readDead 149 = .ok (.getfield 152, 3) ∧ (decode cX4_readDead 152 = .ok (.aload_n 0, 1) ∧ decode cX4_readDead 153 = .ok (.getfield 12, 3))))) ∧ (((decode cX4_readDead 156 = .ok (.getfield 130, 3) ∧ decode cX4_readDead 159 = .ok (.bipush (-2), 2)) ∧ (decode cX4_readDead 161 = .ok (.iastore, 1) ∧ (decode cX4_readDead 162 = .ok (.aload_n 0, 1) ∧ decode cX4_readDead 163 = .ok (.getfield 12, 3)))) ∧ ((decode cX4_readDead 166 = .ok (.dup, 1) ∧ (decode cX4_readDead 167 = .ok (.getfield 130, 3) ∧ decode cX4_readDead 170 = .ok (.iconst 1, 1))) ∧ (decode cX4_readDead 171 = .ok (.iadd, 1) ∧ (decode cX4_readDead 172 = .ok (.putfield 130, 3) ∧ decode cX4_readDead 175 = .ok (.return_, 1)))))))) := ⟨⟨⟨by decide +kernel, by decide +kernel⟩, ⟨by decide +kernel, by decide +kernel⟩⟩, ⟨⟨by decide +kernel, by decide +kernel⟩, ⟨by decide +kernel, by decide +kernel⟩⟩⟩
def X4_readDead_b175 (s : St) : Rs :=
  some (0, s)
set_option maxRecDepth 100000 in
set_option maxHeartbeats 4000000 in
theorem X4_readDead_b175_s (G : Gx) (l : Launch) (s : St) : V G l mX4_readDead 175 [] [] s (X4_readDead_b175 s) := by
  unfold X4_readDead_b175
  exact V_vret rfl dec_X4_readDead.2.2.2.2.2.2.2
def X4_readDead_b18 (s : St) (x0 k0 k1 : Int) : Rs :=
  grd (isK s 14 k1) (bnd (X4_beginLine s k1 k0) (fun r1 s2 => grd (isK s2 14 x0) (bnd (X4_takeNewName s2 x0) (fun r3 s4 => grd (isK s4 14 x0) (bnd (X4_takeLaw s4 x0) (fun r5 s6 => grd (isK s6 14 x0) (bnd (X4_takeWord s6 x0 (1000000 + ((13 : Nat) : Int))) (fun r7 s8 => grd (isK s8 14 x0) (bnd (X4_takeWhole s8 x0 0 39) (fun r9 s10 => grd (isK s10 14 x0) (bnd (X4_takeWord s10 x0 (1000000 + ((14 : Nat) : Int))) (fun r11 s12 => grd (isK s12 14 x0) (grd (isK s12 14 x0) (grd (isK s12 19 (gR s12 x0 0)) (grd (isK s12 14 x0) (bnd (X4_takeTold s12 x0 (gR s12 x0 4) (gI s12 (gR s12 x0 0) 2)) (fun r13 s14 => grd (isK s14 14 x0) (if ¬ (gI s14 x0 1) = 0 then (X4_readDead_b175 s14) else (grd (isK s14 14 x0) (grd (isK s14 14 x0) (grd (isK s14 19 (gR s14 x0 0)) (grd (isK s14 3 (gR s14 x0 5) ∧ 0 ≤ (gI s14 (gR s14 x0 0) 3) ∧ (gI s14 (gR s14 x0 0) 3) < ln s14 (gR s14 x0 5)) (lets (pI s14 (gR s14 x0 5) (gI s14 (gR s14 x0 0) 3).toNat r3) (fun s15 => grd (isK s15 14 x0) (grd (isK s15 19 (gR s15 x0 0)) (grd (isK s15 14 x0) (grd (isK s15 19 (gR s15 x0 0)) (grd (isK s15 1 (gR s15 (gR s15 x0 0) 7) ∧ 0 ≤ (gI s15 (gR s15 x0 0) 3) ∧ (gI s15 (gR s15 x0 0) 3) < ln s15 (gR s15 (gR s15 x0 0) 7)) (lets (pI s15 (gR s15 (gR s15 x0 0) 7) (gI s15 (gR s15 x0 0) 3).toNat r5) (fun s16 => grd (isK s16 14 x0) (grd (isK s16 19 (gR s16 x0 0)) (grd (isK s16 14 x0) (grd (isK s16 19 (gR s16 x0 0)) (grd (isK s16 1 (gR s16 (gR s16 x0 0) 8) ∧ 0 ≤ (gI s16 (gR s16 x0 0) 3) ∧ (gI s16 (gR s16 x0 0) 3) < ln s16 (gR s16 (gR s16 x0 0) 8)) (lets (pI s16 (gR s16 (gR s16 x0 0) 8) (gI s16 (gR s16 x0 0) 3).toNat r13) (fun s17 => grd (isK s17 14 x0) (grd (isK s17 19 (gR s17 x0 0)) (grd (isK s17 16 (gR s17 (gR s17 x0 0) 6)) (grd (isK s17 14 x0) (grd (isK s17 19 (gR s17 x0 0)) (grd (isK s17 1 (gR s17 (gR s17 (gR s17 x0 0) 6) 2) ∧ 0 ≤ (gI s17 (gR s17 x0 0) 3) ∧ (gI s17 (gR s17 x0 0) 3) < ln s17 (gR s17 (gR s17 (gR s17 x0 0) 6) 2)) (lets (pI s17 (gR s17 (gR s17 (gR s17 x0 0) 6) 2) (gI s17 (gR s17 x0 0) 3).toNat r9) (fun s18 => grd (isK s18 14 x0) (grd (isK s18 19 (gR s18 x0 0)) (grd (isK s18 16 (gR s18 (gR s18 x0 0) 6)) (grd (isK s18 14 x0) (grd (isK s18 19 (gR s18 x0 0)) (grd (isK s18 1 (gR s18 (gR s18 (gR s18 x0 0) 6) 3) ∧ 0 ≤ (gI s18 (gR s18 x0 0) 3) ∧ (gI s18 (gR s18 x0 0) 3) < ln s18 (gR s18 (gR s18 (gR s18 x0 0) 6) 3)) (lets (pI s18 (gR s18 (gR s18 (gR s18 x0 0) 6) 3) (gI s18 (gR s18 x0 0) 3).toNat (-2)) (fun s19 => grd (isK s19 14 x0) (grd (isK s19 19 (gR s19 x0 0)) (grd (isK s19 19 (gR s19 x0 0)) (lets (pI s19 (gR s19 x0 0) 3 (w32 ((gI s19 (gR s19 x0 0) 3) + 1))) (fun s20 => X4_readDead_b175 s20))))))))))))))))))))))))))))))))))))))))))))))))))))))
set_option maxRecDepth 100000 in
set_option maxHeartbeats 4000000 in
theorem X4_readDead_b18_s (G : Gx) (l : Launch) (s : St) (x0 k0 k1 : Int) : V G l mX4_readDead 18 [(0, (2, x0))] [(0, k0), (2, k1)] s (X4_readDead_b18 s x0 k0 k1) := by
  unfold X4_readDead_b18
  refine V_callV0 (ci := 4) (a := k1) (As := [(0, k0)]) (st := []) rfl rfl (X4_beginLine_s G l s k1 k0) cal_X4_beginLine rfl ml_X4_104 rfl rfl dec_X4_readDead.1.1.1.2.2.2.2 (k_void rfl fun r1 s2 => ?_)
  refine V_aload_n dec_X4_readDead.1.1.2.1.1.1 0 rfl ?_
  refine V_callV0 (ci := 4) (a := x0) (As := []) (st := []) rfl rfl (X4_takeNewName_s G l s2 x0) cal_X4_takeNewName rfl ml_X4_107 rfl rfl dec_X4_readDead.1.1.2.1.1.2 (k_tag (tag := 1) rfl fun r3 s4 => ?_)
  refine V_lstore_n (lv' := [(1, (1, r3)), (0, (2, x0))]) dec_X4_readDead.1.1.2.1.2.1 (by decide) rfl ?_
  refine V_aload_n dec_X4_readDead.1.1.2.1.2.2.1 1 rfl ?_
  refine V_callV0 (ci := 4) (a := x0) (As := []) (st := []) rfl rfl (X4_takeLaw_s G l s4 x0) cal_X4_takeLaw rfl ml_X4_133 rfl rfl dec_X4_readDead.1.1.2.1.2.2.2 (k_tag (tag := 0) rfl fun r5 s6 => ?_)
  refine V_istore_n (lv' := [(3, (0, r5)), (1, (1, r3)), (0, (2, x0))]) dec_X4_readDead.1.1.2.2.1.1 (by decide) rfl ?_
  refine V_aload_n dec_X4_readDead.1.1.2.2.1.2.1 2 rfl ?_
  refine V_ldcS 13 _ rfl rfl rfl dec_X4_readDead.1.1.2.2.1.2.2 ?_
  refine V_callV0 (ci := 4) (a := x0) (As := [(2, (1000000 + ((13 : Nat) : Int)))]) (st := []) rfl rfl (X4_takeWord_s G l s6 x0 (1000000 + ((13 : Nat) : Int))) cal_X4_takeWord rfl ml_X4_92 rfl rfl dec_X4_readDead.1.1.2.2.2.1 (k_void rfl fun r7 s8 => ?_)
  refine V_aload_n dec_X4_readDead.1.1.2.2.2.2.1 2 rfl ?_
  refine V_iconst dec_X4_readDead.1.1.2.2.2.2.2 rfl ?_
  refine V_bipush dec_X4_readDead.1.2.1.1.1.1 rfl ?_
  refine V_callV0 (ci := 4) (a := x0) (As := [(0, 0), (0, 39)]) (st := []) rfl rfl (X4_takeWhole_s G l s8 x0 0 39) cal_X4_takeWhole rfl ml_X4_96 rfl rfl dec_X4_readDead.1.2.1.1.1.2 (k_tag (tag := 0) rfl fun r9 s10 => ?_)
  refine V_istore (lv' := [(4, (0, r9)), (3, (0, r5)), (1, (1, r3)), (0, (2, x0))]) dec_X4_readDead.1.2.1.1.2.1 (by decide) rfl ?_
  refine V_aload_n dec_X4_readDead.1.2.1.1.2.2.1 3 rfl ?_
  refine V_ldcS 14 _ rfl rfl rfl dec_X4_readDead.1.2.1.1.2.2.2 ?_
  refine V_callV0 (ci := 4) (a := x0) (As := [(2, (1000000 + ((14 : Nat) : Int)))]) (st := []) rfl rfl (X4_takeWord_s G l s10 x0 (1000000 + ((14 : Nat) : Int))) cal_X4_takeWord rfl ml_X4_92 rfl rfl dec_X4_readDead.1.2.1.2.1.1 (k_void rfl fun r11 s12 => ?_)
  refine V_aload_n dec_X4_readDead.1.2.1.2.1.2.1 3 rfl ?_
  refine V_aload_n dec_X4_readDead.1.2.1.2.1.2.2 3 rfl ?_
  refine V_getR 4 4 nf_4_4 ft_4_4 fl_X4_29 dec_X4_readDead.1.2.1.2.2.1 ?_
  refine V_aload_n dec_X4_readDead.1.2.1.2.2.2.1 3 rfl ?_
  refine V_getR 4 0 nf_4_0 ft_4_0 fl_X4_12 dec_X4_readDead.1.2.1.2.2.2.2 ?_
  refine V_getI 9 2 nf_9_2 ft_9_2 fl_X4_56 dec_X4_readDead.1.2.2.1.1.1 ?_
  refine V_callV0 (ci := 4) (a := x0) (As := [(2, (gR s12 x0 4)), (0, (gI s12 (gR s12 x0 0) 2))]) (st := []) rfl rfl (X4_takeTold_s G l s12 x0 (gR s12 x0 4) (gI s12 (gR s12 x0 0) 2)) cal_X4_takeTold rfl ml_X4_140 rfl rfl dec_X4_readDead.1.2.2.1.1.2 (k_tag (tag := 0) rfl fun r13 s14 => ?_)
  refine V_istore (lv' := [(5, (0, r13)), (4, (0, r9)), (3, (0, r5)), (1, (1, r3)), (0, (2, x0))]) dec_X4_readDead.1.2.2.1.2.1 (by decide) rfl ?_
  refine V_aload_n dec_X4_readDead.1.2.2.1.2.2.1 4 rfl ?_
  refine V_getI 4 1 nf_4_1 ft_4_1 fl_X4_36 dec_X4_readDead.1.2.2.1.2.2.2 ?_
  refine V_if_ne (tgt := 175) dec_X4_readDead.1.2.2.2.1.1 (by decide) ?_ ?_
  · exact V_pick [] rfl (X4_readDead_b175_s G l s14)
  · refine V_aload_n dec_X4_readDead.1.2.2.2.1.2.1 4 rfl ?_
    refine V_getR 4 5 nf_4_5 ft_4_5 fl_X4_33 dec_X4_readDead.1.2.2.2.1.2.2 ?_
    refine V_aload_n dec_X4_readDead.1.2.2.2.2.1 4 rfl ?_
    refine V_getR 4 0 nf_4_0 ft_4_0 fl_X4_12 dec_X4_readDead.1.2.2.2.2.2.1 ?_
    refine V_getI 9 3 nf_9_3 ft_9_3 fl_X4_130 dec_X4_readDead.1.2.2.2.2.2.2 ?_
    refine V_lload_n dec_X4_readDead.2.1.1.1.1.1 3 rfl ?_
    refine V_last dec_X4_readDead.2.1.1.1.1.2 ?_
    refine V_lets fun s15 => ?_
    refine V_aload_n dec_X4_readDead.2.1.1.1.2.1 4 rfl ?_
    refine V_getR 4 0 nf_4_0 ft_4_0 fl_X4_12 dec_X4_readDead.2.1.1.1.2.2.1 ?_
    refine V_getR 9 7 nf_9_7 ft_9_7 fl_X4_144 dec_X4_readDead.2.1.1.1.2.2.2 ?_
    refine V_aload_n dec_X4_readDead.2.1.1.2.1.1 4 rfl ?_
    refine V_getR 4 0 nf_4_0 ft_4_0 fl_X4_12 dec_X4_readDead.2.1.1.2.1.2.1 ?_
    refine V_getI 9 3 nf_9_3 ft_9_3 fl_X4_130 dec_X4_readDead.2.1.1.2.1.2.2 ?_
    refine V_iload_n dec_X4_readDead.2.1.1.2.2.1 2 rfl ?_
    refine V_iast dec_X4_readDead.2.1.1.2.2.2.1 ?_
    refine V_lets fun s16 => ?_
    refine V_aload_n dec_X4_readDead.2.1.1.2.2.2.2 4 rfl ?_
    refine V_getR 4 0 nf_4_0 ft_4_0 fl_X4_12 dec_X4_readDead.2.1.2.1.1.1 ?_
    refine V_getR 9 8 nf_9_8 ft_9_8 fl_X4_147 dec_X4_readDead.2.1.2.1.1.2 ?_
    refine V_aload_n dec_X4_readDead.2.1.2.1.2.1 4 rfl ?_
    refine V_getR 4 0 nf_4_0 ft_4_0 fl_X4_12 dec_X4_readDead.2.1.2.1.2.2.1 ?_
    refine V_getI 9 3 nf_9_3 ft_9_3 fl_X4_130 dec_X4_readDead.2.1.2.1.2.2.2 ?_
    refine V_iload dec_X4_readDead.2.1.2.2.1.1 0 rfl ?_
    refine V_iast dec_X4_readDead.2.1.2.2.1.2.1 ?_
    refine V_lets fun s17 => ?_
    refine V_aload_n dec_X4_readDead.2.1.2.2.1.2.2 4 rfl ?_
    refine V_getR 4 0 nf_4_0 ft_4_0 fl_X4_12 dec_X4_readDead.2.1.2.2.2.1 ?_
    refine V_getR 9 6 nf_9_6 ft_9_6 fl_X4_120 dec_X4_readDead.2.1.2.2.2.2.1 ?_
    refine V_getR 6 2 nf_6_2 ft_6_2 fl_X4_150 dec_X4_readDead.2.1.2.2.2.2.2 ?_
    refine V_aload_n dec_X4_readDead.2.2.1.1.1.1 4 rfl ?_
    refine V_getR 4 0 nf_4_0 ft_4_0 fl_X4_12 dec_X4_readDead.2.2.1.1.1.2 ?_
    refine V_getI 9 3 nf_9_3 ft_9_3 fl_X4_130 dec_X4_readDead.2.2.1.1.2.1 ?_
    refine V_iload dec_X4_readDead.2.2.1.1.2.2.1 1 rfl ?_
    refine V_iast dec_X4_readDead.2.2.1.1.2.2.2 ?_
    refine V_lets fun s18 => ?_
    refine V_aload_n dec_X4_readDead.2.2.1.2.1.1 4 rfl ?_
    refine V_getR 4 0 nf_4_0 ft_4_0 fl_X4_12 dec_X4_readDead.2.2.1.2.1.2.1 ?_
    refine V_getR 9 6 nf_9_6 ft_9_6 fl_X4_120 dec_X4_readDead.2.2.1.2.1.2.2 ?_
    refine V_getR 6 3 nf_6_3 ft_6_3 fl_X4_152 dec_X4_readDead.2.2.1.2.2.1 ?_
    refine V_aload_n dec_X4_readDead.2.2.1.2.2.2.1 4 rfl ?_
    refine V_getR 4 0 nf_4_0 ft_4_0 fl_X4_12 dec_X4_readDead.2.2.1.2.2.2.2 ?_
    refine V_getI 9 3 nf_9_3 ft_9_3 fl_X4_130 dec_X4_readDead.2.2.2.1.1.1 ?_
    refine V_bipush dec_X4_readDead.2.2.2.1.1.2 rfl ?_
    refine V_iast dec_X4_readDead.2.2.2.1.2.1 ?_
    refine V_lets fun s19 => ?_
    refine V_aload_n dec_X4_readDead.2.2.2.1.2.2.1 4 rfl ?_
    refine V_getR 4 0 nf_4_0 ft_4_0 fl_X4_12 dec_X4_readDead.2.2.2.1.2.2.2 ?_
    refine V_dup (nl2 _) dec_X4_readDead.2.2.2.2.1.1 ?_
    refine V_getI 9 3 nf_9_3 ft_9_3 fl_X4_130 dec_X4_readDead.2.2.2.2.1.2.1 ?_
    refine V_iconst dec_X4_readDead.2.2.2.2.1.2.2 rfl ?_
    refine V_iadd dec_X4_readDead.2.2.2.2.2.1 ?_
    refine V_putI (host := "") 9 3 nf_9_3 ty_9_3 (Or.inl ⟨fl_X4_130, Or.inl rfl⟩) dec_X4_readDead.2.2.2.2.2.2.1 ?_
    refine V_lets fun s20 => ?_
    exact V_pick [] rfl (X4_readDead_b175_s G l s20)
def X4_readDead (s : St) (a0 : Int) : Rs :=
  grd (isK s 14 a0) (grd (isK s 19 (gR s a0 0)) (if (gI s (gR s a0 0) 3) < (6 : Int) then (X4_readDead_b18 s a0 0 a0) else (X4_readDead_b18 s a0 1 a0)))
set_option maxRecDepth 100000 in
set_option maxHeartbeats 4000000 in
theorem X4_readDead_s (G : Gx) (l : Launch) (s : St) (a0 : Int) : Snd G l mX4_readDead [(2, a0)] s (X4_readDead s a0) := by
  refine Snd.of (by decide +kernel) rfl ?_
  show V G l mX4_readDead 0 [(0, (2, a0))] [] s _
  unfold X4_readDead
  refine V_aload_n dec_X4_readDead.1.1.1.1.1.1 0 rfl ?_
  refine V_aload_n dec_X4_readDead.1.1.1.1.1.2 0 rfl ?_
  refine V_getR 4 0 nf_4_0 ft_4_0 fl_X4_12 dec_X4_readDead.1.1.1.1.2.1 ?_
  refine V_getI 9 3 nf_9_3 ft_9_3 fl_X4_130 dec_X4_readDead.1.1.1.1.2.2.1 ?_
  refine V_bipush dec_X4_readDead.1.1.1.1.2.2.2 rfl ?_
  refine V_icmp_lt (tgt := 17) dec_X4_readDead.1.1.1.2.1.1 (by decide) ?_ ?_
  · refine V_iconst dec_X4_readDead.1.1.1.2.2.2.1 rfl ?_
    exact V_pick [0] rfl (X4_readDead_b18_s G l s a0 0 a0)
  · refine V_iconst dec_X4_readDead.1.1.1.2.1.2 rfl ?_
    refine V_goto (tgt := 18) dec_X4_readDead.1.1.1.2.2.1 (by decide) ?_
    exact V_pick [0] rfl (X4_readDead_b18_s G l s a0 1 a0)
theorem dec_X9_isHeard : ((((decode cX9_isHeard 0 = .ok (.iconst 0, 1) ∧ (decode cX9_isHeard 1 = .ok (.istore_n 3, 1) ∧ decode cX9_isHeard 2 = .ok (.iload_n 3, 1))) ∧ (decode cX9_isHeard 3 = .ok (.aload_n 0, 1) ∧ (decode cX9_isHeard 4 = .ok (.getfield 56, 3) ∧ decode cX9_isHeard 7 = .ok (.if_icmp .ge 31, 3)))) ∧ ((decode cX9_isHeard 10 = .ok (.aload_n 0, 1) ∧ (decode cX9_isHeard 11 = .ok (.getfield 34, 3) ∧ decode cX9_isHeard 14 = .ok (.iload_n 3, 1))) ∧ (decode cX9_isHeard 15 = .ok (.iaload, 1) ∧ (decode cX9_isHeard 16 = .ok (.iload_n 1, 1) ∧ decode cX9_isHeard 17 = .ok (.if_icmp .ne 15, 3))))) ∧ (((decode cX9_isHeard 20 = .ok (.aload_n 0, 1) ∧ (decode cX9_isHeard 21 = .ok (.getfield 37, 3) ∧ decode cX9_isHeard 24 = .ok (.iload_n 3, 1))) ∧ (decode cX9_isHeard 25 = .ok (.iaload, 1) ∧ (decode cX9_isHeard 26 = .ok (.iload_n 2, 1) ∧ decode cX9_isHeard 27 = .ok (.if_icmp .ne 5, 3)))) ∧ ((decode cX9_isHeard 30 = .ok (.iconst 1, 1) ∧ (decode cX9_isHeard 31 = .ok (.ireturn, 1) ∧ decode cX9_isHeard 32 = .ok (.iinc 3 1, 3))) ∧ (decode cX9_isHeard 35 = .ok (.goto (-33), 3) ∧ (decode cX9_isHeard 38 = .ok (.iconst 0, 1) ∧ decode cX9_isHeard 39 = .ok (.ireturn, 1)))))) := ⟨by decide +kernel, by decide +kernel⟩
def X9_isHeard_b32 (rk2 : St → Int → Int → Int → Int → Rs) (s : St) (x0 x1 x2 x3 : Int) : Rs :=
  rk2 s x0 x1 x2 (w32 (x3 + 1))
set_option maxRecDepth 100000 in
set_option maxHeartbeats 4000000 in
theorem X9_isHeard_b32_s (G : Gx) (l : Launch) (rk2 : St → Int → Int → Int → Int → Rs) (hk2 : ∀ (s : St) (x0 x1 x2 x3 : Int), V G l mX9_isHeard 2 [(0, (2, x0)), (1, (0, x1)), (2, (0, x2)), (3, (0, x3))] [] s (rk2 s x0 x1 x2 x3)) (s : St) (x0 x1 x2 x3 : Int) : V G l mX9_isHeard 32 [(0, (2, x0)), (1, (0, x1)), (2, (0, x2)), (3, (0, x3))] [] s (X9_isHeard_b32 rk2 s x0 x1 x2 x3) := by
  unfold X9_isHeard_b32
  refine V_iinc (lv' := [(3, (0, (w32 (x3 + 1)))), (0, (2, x0)), (1, (0, x1)), (2, (0, x2))]) dec_X9_isHeard.2.2.1.2.2 3 rfl (by decide) rfl ?_
  refine V_goto (tgt := 2) dec_X9_isHeard.2.2.2.1 (by decide) ?_
  exact V_pick [1, 2, 3, 0] rfl (hk2 s x0 x1 x2 (w32 (x3 + 1)))
def X9_isHeard_b2_body (rk2 : St → Int → Int → Int → Int → Rs) (s : St) (x0 x1 x2 x3 : Int) : Rs :=
  grd (isK s 19 x0) (if (gI s x0 5) ≤ x3 then (grd ((0 : Int) = 0 ∨ (0 : Int) = 1) (some (0, s))) else (grd (isK s 19 x0) (grd (isK s 1 (gR s x0 12) ∧ 0 ≤ x3 ∧ x3 < ln s (gR s x0 12)) (if ¬ (gI s (gR s x0 12) x3.toNat) = x1 then (X9_isHeard_b32 rk2 s x0 x1 x2 x3) else (grd (isK s 19 x0) (grd (isK s 1 (gR s x0 13) ∧ 0 ≤ x3 ∧ x3 < ln s (gR s x0 13)) (if ¬ (gI s (gR s x0 13) x3.toNat) = x2 then (X9_isHeard_b32 rk2 s x0 x1 x2 x3) else (grd ((1 : Int) = 0 ∨ (1 : Int) = 1) (some (1, s))))))))))
def X9_isHeard_b2 (n : Nat) (s : St) (x0 x1 x2 x3 : Int) : Rs := iter (fun (rec : St × Int × Int × Int × Int → Rs) (a : St × Int × Int × Int × Int) => X9_isHeard_b2_body (fun (s : St) (x0 x1 x2 x3 : Int) => rec (s, x0, x1, x2, x3)) a.1 a.2.1 a.2.2.1 a.2.2.2.1 a.2.2.2.2) n (s, x0, x1, x2, x3)
theorem X9_isHeard_b2_0 (s : St) (x0 x1 x2 x3 : Int) : X9_isHeard_b2 0 s x0 x1 x2 x3 = none := rfl
theorem X9_isHeard_b2_1 (n : Nat) (s : St) (x0 x1 x2 x3 : Int) : X9_isHeard_b2 (n + 1) s x0 x1 x2 x3 = X9_isHeard_b2_body (X9_isHeard_b2 n) s x0 x1 x2 x3 := rfl
set_option maxRecDepth 100000 in
set_option maxHeartbeats 4000000 in
theorem X9_isHeard_b2_body_s (G : Gx) (l : Launch) (rk2 : St → Int → Int → Int → Int → Rs) (hk2 : ∀ (s : St) (x0 x1 x2 x3 : Int), V G l mX9_isHeard 2 [(0, (2, x0)), (1, (0, x1)), (2, (0, x2)), (3, (0, x3))] [] s (rk2 s x0 x1 x2 x3)) (s : St) (x0 x1 x2 x3 : Int) : V G l mX9_isHeard 2 [(0, (2, x0)), (1, (0, x1)), (2, (0, x2)), (3, (0, x3))] [] s (X9_isHeard_b2_body rk2 s x0 x1 x2 x3) := by
  unfold X9_isHeard_b2_body
  refine V_iload_n dec_X9_isHeard.1.1.1.2.2 3 rfl ?_
  refine V_aload_n dec_X9_isHeard.1.1.2.1 0 rfl ?_
  refine V_getI 9 5 nf_9_5 ft_9_5 fl_X9_56 dec_X9_isHeard.1.1.2.2.1 ?_
  refine V_icmp_ge (tgt := 38) dec_X9_isHeard.1.1.2.2.2 (by decide) ?_ ?_
  · refine V_iconst dec_X9_isHeard.2.2.2.2.1 rfl ?_
    exact V_zret rfl dec_X9_isHeard.2.2.2.2.2
  · refine V_aload_n dec_X9_isHeard.1.2.1.1 0 rfl ?_
    refine V_getR 9 12 nf_9_12 ft_9_12 fl_X9_34 dec_X9_isHeard.1.2.1.2.1 ?_
    refine V_iload_n dec_X9_isHeard.1.2.1.2.2 3 rfl ?_
    refine V_iald dec_X9_isHeard.1.2.2.1 ?_
    refine V_iload_n dec_X9_isHeard.1.2.2.2.1 1 rfl ?_
    refine V_icmp_ne (tgt := 32) dec_X9_isHeard.1.2.2.2.2 (by decide) ?_ ?_
    · exact V_pick [0, 1, 2, 3] rfl (X9_isHeard_b32_s G l rk2 hk2 s x0 x1 x2 x3)
    · refine V_aload_n dec_X9_isHeard.2.1.1.1 0 rfl ?_
      refine V_getR 9 13 nf_9_13 ft_9_13 fl_X9_37 dec_X9_isHeard.2.1.1.2.1 ?_
      refine V_iload_n dec_X9_isHeard.2.1.1.2.2 3 rfl ?_
      refine V_iald dec_X9_isHeard.2.1.2.1 ?_
      refine V_iload_n dec_X9_isHeard.2.1.2.2.1 2 rfl ?_
      refine V_icmp_ne (tgt := 32) dec_X9_isHeard.2.1.2.2.2 (by decide) ?_ ?_
      · exact V_pick [0, 1, 2, 3] rfl (X9_isHeard_b32_s G l rk2 hk2 s x0 x1 x2 x3)
      · refine V_iconst dec_X9_isHeard.2.2.1.1 rfl ?_
        exact V_zret rfl dec_X9_isHeard.2.2.1.2.1
theorem X9_isHeard_b2_s (G : Gx) (l : Launch) (n : Nat) (s : St) (x0 x1 x2 x3 : Int) : V G l mX9_isHeard 2 [(0, (2, x0)), (1, (0, x1)), (2, (0, x2)), (3, (0, x3))] [] s (X9_isHeard_b2 n s x0 x1 x2 x3) :=
  V_iter (LV := fun a : St × Int × Int × Int × Int => [(0, (2, a.2.1)), (1, (0, a.2.2.1)), (2, (0, a.2.2.2.1)), (3, (0, a.2.2.2.2))]) (ST := fun a : St × Int × Int × Int × Int => []) (SS := fun a : St × Int × Int × Int × Int => a.1) (fun rec hrec a => X9_isHeard_b2_body_s G l (fun (s : St) (x0 x1 x2 x3 : Int) => rec (s, x0, x1, x2, x3)) (fun (s : St) (x0 x1 x2 x3 : Int) => hrec (s, x0, x1, x2, x3)) a.1 a.2.1 a.2.2.1 a.2.2.2.1 a.2.2.2.2) n (s, x0, x1, x2, x3)
def X9_isHeard (s : St) (a0 a1 a2 : Int) : Rs :=
  X9_isHeard_b2 FU s a0 a1 a2 0
set_option maxRecDepth 100000 in
set_option maxHeartbeats 4000000 in
theorem X9_isHeard_s (G : Gx) (l : Launch) (s : St) (a0 a1 a2 : Int) : Snd G l mX9_isHeard [(2, a0), (0, a1), (0, a2)] s (X9_isHeard s a0 a1 a2) := by
  refine Snd.of (by decide +kernel) rfl ?_
  show V G l mX9_isHeard 0 [(0, (2, a0)), (1, (0, a1)), (2, (0, a2))] [] s _
  unfold X9_isHeard
  refine V_iconst dec_X9_isHeard.1.1.1.1 rfl ?_
  refine V_istore_n (lv' := [(3, (0, 0)), (0, (2, a0)), (1, (0, a1)), (2, (0, a2))]) dec_X9_isHeard.1.1.1.2.1 (by decide) rfl ?_
  exact V_pick [1, 2, 3, 0] rfl (X9_isHeard_b2_s G l FU s a0 a1 a2 0)
theorem dec_X4_readHeard : ((((((decode cX4_readHeard 0 = .ok (.aload_n 0, 1) ∧ decode cX4_readHeard 1 = .ok (.aload_n 0, 1)) ∧ (decode cX4_readHeard 2 = .ok (.getfield 12, 3) ∧ (decode cX4_readHeard 5 = .ok (.getfield 167, 3) ∧ decode cX4_readHeard 8 = .ok (.bipush 8, 2)))) ∧ ((decode cX4_readHeard 10 = .ok (.if_icmp .lt 7, 3) ∧ decode cX4_readHeard 13 = .ok (.iconst 1, 1)) ∧ (decode cX4_readHeard 14 = .ok (.goto 4, 3) ∧ (decode cX4_readHeard 17 = .ok (.iconst 0, 1) ∧ decode cX4_readHeard 18 = .ok (.invokevirtual 104, 3))))) ∧ (((decode cX4_readHeard 21 = .ok (.aload_n 0, 1) ∧ decode cX4_readHeard 22 = .ok (.aload_n 0, 1)) ∧ (decode cX4_readHeard 23 = .ok (.getfield 29, 3) ∧ (decode cX4_readHeard 26 = .ok (.aload_n 0, 1) ∧ decode cX4_readHeard 27 = .ok (.getfield 12, 3)))) ∧ ((decode cX4_readHeard 30 = .ok (.getfield 56, 3) ∧ decode cX4_readHeard 33 = .ok (.invokevirtual 140, 3)) ∧ (decode cX4_readHeard 36 = .ok (.istore_n 1, 1) ∧ (decode cX4_readHeard 37 = .ok (.aload_n 0, 1) ∧ decode cX4_readHeard 38 = .ok (.aload_n 0, 1)))))) ∧ ((((decode cX4_readHeard 39 = .ok (.getfield 33, 3) ∧ decode cX4_readHeard 42 = .ok (.aload_n 0, 1)) ∧ (decode cX4_readHeard 43 = .ok (.getfield 12, 3) ∧ (decode cX4_readHeard 46 = .ok (.getfield 130, 3) ∧ decode cX4_readHeard 49 = .ok (.invokevirtual 140, 3)))) ∧ ((decode cX4_readHeard 52 = .ok (.istore_n 2, 1) ∧ decode cX4_readHeard 53 = .ok (.aload_n 0, 1)) ∧ (decode cX4_readHeard 54 = .ok (.ldc 170, 2) ∧ (decode cX4_readHeard 56 = .ok (.invokevirtual 92, 3) ∧ decode cX4_readHeard 59 = .ok (.aload_n 0, 1))))) ∧ (((decode cX4_readHeard 60 = .ok (.iconst 0, 1) ∧ decode cX4_readHeard 61 = .ok (.bipush 60, 2)) ∧ (decode cX4_readHeard 63 = .ok (.invokevirtual 96, 3) ∧ (decode cX4_readHeard 66 = .ok (.istore_n 3, 1) ∧ decode cX4_readHeard 67 = .ok (.aload_n 0, 1)))) ∧ ((decode cX4_readHeard 68 = .ok (.getfield 36, 3) ∧ (decode cX4_readHeard 71 = .ok (.ifCond .ne 24, 3) ∧ decode cX4_readHeard 74 = .ok (.aload_n 0, 1))) ∧ (decode cX4_readHeard 75 = .ok (.getfield 12, 3) ∧ (decode cX4_readHeard 78 = .ok (.iload_n 2, 1) ∧ decode cX4_readHeard 79 = .ok (.iload_n 3, 1))))))) ∧ (((((decode cX4_readHeard 80 = .ok (.invokevirtual 172, 3) ∧ decode cX4_readHeard 83 = .ok (.ifCond .eq 12, 3)) ∧ (decode cX4_readHeard 86 = .ok (.aload_n 0, 1) ∧ (decode cX4_readHeard 87 = .ok (.iconst 3, 1) ∧ decode cX4_readHeard 88 = .ok (.aload_n 0, 1)))) ∧ ((decode cX4_readHeard 89 = .ok (.getfield 117, 3) ∧ decode cX4_readHeard 92 = .ok (.invokevirtual 62, 3)) ∧ (decode cX4_readHeard 95 = .ok (.aload_n 0, 1) ∧ (decode cX4_readHeard 96 = .ok (.getfield 36, 3) ∧ decode cX4_readHeard 99 = .ok (.ifCond .ne 64, 3))))) ∧ (((decode cX4_readHeard 102 = .ok (.aload_n 0, 1) ∧ decode cX4_readHeard 103 = .ok (.getfield 12, 3)) ∧ (decode cX4_readHeard 106 = .ok (.getfield 176, 3) ∧ (decode cX4_readHeard 109 = .ok (.aload_n 0, 1) ∧ decode cX4_readHeard 110 = .ok (.getfield 12, 3)))) ∧ ((decode cX4_readHeard 113 = .ok (.getfield 167, 3) ∧ (decode cX4_readHeard 116 = .ok (.iload_n 1, 1) ∧ decode cX4_readHeard 117 = .ok (.iastore, 1))) ∧ (decode cX4_readHeard 118 = .ok (.aload_n 0, 1) ∧ (decode cX4_readHeard 119 = .ok (.getfield 12, 3) ∧ decode cX4_readHeard 122 = .ok (.getfield 179, 3)))))) ∧ ((((decode cX4_readHeard 125 = .ok (.aload_n 0, 1) ∧ decode cX4_readHeard 126 = .ok (.getfield 12, 3)) ∧ (decode cX4_readHeard 129 = .ok (.getfield 167, 3) ∧ (decode cX4_readHeard 132 = .ok (.iload_n 2, 1) ∧ decode cX4_readHeard 133 = .ok (.iastore, 1)))) ∧ ((decode cX4_readHeard 134 = .ok (.aload_n 0, 1) ∧ decode cX4_readHeard 135 = .ok (.getfield 12, 3)) ∧ (decode cX4_readHeard 138 = .ok (.getfield 182, 3) ∧ (decode cX4_readHeard 141 = .ok (.aload_n 0, 1) ∧ decode cX4_readHeard 142 = .ok (.getfield 12, 3))))) ∧ (((decode cX4_readHeard 145 = .ok (.getfield 167, 3) ∧ decode cX4_readHeard 148 = .ok (.iload_n 3, 1)) ∧ (decode cX4_readHeard 149 = .ok (.iastore, 1) ∧ (decode cX4_readHeard 150 = .ok (.aload_n 0, 1) ∧ decode cX4_readHeard 151 = .ok (.getfield 12, 3)))) ∧ ((decode cX4_readHeard 154 = .ok (.dup, 1) ∧ (decode cX4_readHeard 155 = .ok (.getfield 167, 3) ∧ decode cX4_readHeard 158 = .ok (.iconst 1, 1))) ∧ (decode cX4_readHeard 159 = .ok (.iadd, 1) ∧ (decode cX4_readHeard 160 = .ok (.putfield 167, 3) ∧ decode cX4_readHeard 163 = .ok (.return_, 1)))))))) := ⟨⟨⟨by decide +kernel, by decide +kernel⟩, ⟨by decide +kernel, by decide +kernel⟩⟩, ⟨⟨by decide +kernel, by decide +kernel⟩, ⟨by decide +kernel, by decide +kernel⟩⟩⟩
def X4_readHeard_b163 (s : St) : Rs :=
  some (0, s)
set_option maxRecDepth 100000 in
set_option maxHeartbeats 4000000 in
theorem X4_readHeard_b163_s (G : Gx) (l : Launch) (s : St) : V G l mX4_readHeard 163 [] [] s (X4_readHeard_b163 s) := by
  unfold X4_readHeard_b163
  exact V_vret rfl dec_X4_readHeard.2.2.2.2.2.2.2
def X4_readHeard_b95 (s : St) (x0 x1 x2 x3 : Int) : Rs :=
  grd (isK s 14 x0) (if ¬ (gI s x0 1) = 0 then (X4_readHeard_b163 s) else (grd (isK s 14 x0) (grd (isK s 19 (gR s x0 0)) (grd (isK s 14 x0) (grd (isK s 19 (gR s x0 0)) (grd (isK s 1 (gR s (gR s x0 0) 11) ∧ 0 ≤ (gI s (gR s x0 0) 5) ∧ (gI s (gR s x0 0) 5) < ln s (gR s (gR s x0 0) 11)) (lets (pI s (gR s (gR s x0 0) 11) (gI s (gR s x0 0) 5).toNat x1) (fun s11 => grd (isK s11 14 x0) (grd (isK s11 19 (gR s11 x0 0)) (grd (isK s11 14 x0) (grd (isK s11 19 (gR s11 x0 0)) (grd (isK s11 1 (gR s11 (gR s11 x0 0) 12) ∧ 0 ≤ (gI s11 (gR s11 x0 0) 5) ∧ (gI s11 (gR s11 x0 0) 5) < ln s11 (gR s11 (gR s11 x0 0) 12)) (lets (pI s11 (gR s11 (gR s11 x0 0) 12) (gI s11 (gR s11 x0 0) 5).toNat x2) (fun s12 => grd (isK s12 14 x0) (grd (isK s12 19 (gR s12 x0 0)) (grd (isK s12 14 x0) (grd (isK s12 19 (gR s12 x0 0)) (grd (isK s12 1 (gR s12 (gR s12 x0 0) 13) ∧ 0 ≤ (gI s12 (gR s12 x0 0) 5) ∧ (gI s12 (gR s12 x0 0) 5) < ln s12 (gR s12 (gR s12 x0 0) 13)) (lets (pI s12 (gR s12 (gR s12 x0 0) 13) (gI s12 (gR s12 x0 0) 5).toNat x3) (fun s13 => grd (isK s13 14 x0) (grd (isK s13 19 (gR s13 x0 0)) (grd (isK s13 19 (gR s13 x0 0)) (lets (pI s13 (gR s13 x0 0) 5 (w32 ((gI s13 (gR s13 x0 0) 5) + 1))) (fun s14 => X4_readHeard_b163 s14))))))))))))))))))))))))
set_option maxRecDepth 100000 in
set_option maxHeartbeats 4000000 in
theorem X4_readHeard_b95_s (G : Gx) (l : Launch) (s : St) (x0 x1 x2 x3 : Int) : V G l mX4_readHeard 95 [(0, (2, x0)), (1, (0, x1)), (2, (0, x2)), (3, (0, x3))] [] s (X4_readHeard_b95 s x0 x1 x2 x3) := by
  unfold X4_readHeard_b95
  refine V_aload_n dec_X4_readHeard.2.1.1.2.2.1 0 rfl ?_
  refine V_getI 4 1 nf_4_1 ft_4_1 fl_X4_36 dec_X4_readHeard.2.1.1.2.2.2.1 ?_
  refine V_if_ne (tgt := 163) dec_X4_readHeard.2.1.1.2.2.2.2 (by decide) ?_ ?_
  · exact V_pick [] rfl (X4_readHeard_b163_s G l s)
  · refine V_aload_n dec_X4_readHeard.2.1.2.1.1.1 0 rfl ?_
    refine V_getR 4 0 nf_4_0 ft_4_0 fl_X4_12 dec_X4_readHeard.2.1.2.1.1.2 ?_
    refine V_getR 9 11 nf_9_11 ft_9_11 fl_X4_176 dec_X4_readHeard.2.1.2.1.2.1 ?_
    refine V_aload_n dec_X4_readHeard.2.1.2.1.2.2.1 0 rfl ?_
    refine V_getR 4 0 nf_4_0 ft_4_0 fl_X4_12 dec_X4_readHeard.2.1.2.1.2.2.2 ?_
    refine V_getI 9 5 nf_9_5 ft_9_5 fl_X4_167 dec_X4_readHeard.2.1.2.2.1.1 ?_
    refine V_iload_n dec_X4_readHeard.2.1.2.2.1.2.1 1 rfl ?_
    refine V_iast dec_X4_readHeard.2.1.2.2.1.2.2 ?_
    refine V_lets fun s11 => ?_
    refine V_aload_n dec_X4_readHeard.2.1.2.2.2.1 0 rfl ?_
    refine V_getR 4 0 nf_4_0 ft_4_0 fl_X4_12 dec_X4_readHeard.2.1.2.2.2.2.1 ?_
    refine V_getR 9 12 nf_9_12 ft_9_12 fl_X4_179 dec_X4_readHeard.2.1.2.2.2.2.2 ?_
    refine V_aload_n dec_X4_readHeard.2.2.1.1.1.1 0 rfl ?_
    refine V_getR 4 0 nf_4_0 ft_4_0 fl_X4_12 dec_X4_readHeard.2.2.1.1.1.2 ?_
    refine V_getI 9 5 nf_9_5 ft_9_5 fl_X4_167 dec_X4_readHeard.2.2.1.1.2.1 ?_
    refine V_iload_n dec_X4_readHeard.2.2.1.1.2.2.1 2 rfl ?_
    refine V_iast dec_X4_readHeard.2.2.1.1.2.2.2 ?_
    refine V_lets fun s12 => ?_
    refine V_aload_n dec_X4_readHeard.2.2.1.2.1.1 0 rfl ?_
    refine V_getR 4 0 nf_4_0 ft_4_0 fl_X4_12 dec_X4_readHeard.2.2.1.2.1.2 ?_
    refine V_getR 9 13 nf_9_13 ft_9_13 fl_X4_182 dec_X4_readHeard.2.2.1.2.2.1 ?_
    refine V_aload_n dec_X4_readHeard.2.2.1.2.2.2.1 0 rfl ?_
    refine V_getR 4 0 nf_4_0 ft_4_0 fl_X4_12 dec_X4_readHeard.2.2.1.2.2.2.2 ?_
    refine V_getI 9 5 nf_9_5 ft_9_5 fl_X4_167 dec_X4_readHeard.2.2.2.1.1.1 ?_
    refine V_iload_n dec_X4_readHeard.2.2.2.1.1.2 3 rfl ?_
    refine V_iast dec_X4_readHeard.2.2.2.1.2.1 ?_
    refine V_lets fun s13 => ?_
    refine V_aload_n dec_X4_readHeard.2.2.2.1.2.2.1 0 rfl ?_
    refine V_getR 4 0 nf_4_0 ft_4_0 fl_X4_12 dec_X4_readHeard.2.2.2.1.2.2.2 ?_
    refine V_dup (nl2 _) dec_X4_readHeard.2.2.2.2.1.1 ?_
    refine V_getI 9 5 nf_9_5 ft_9_5 fl_X4_167 dec_X4_readHeard.2.2.2.2.1.2.1 ?_
    refine V_iconst dec_X4_readHeard.2.2.2.2.1.2.2 rfl ?_
    refine V_iadd dec_X4_readHeard.2.2.2.2.2.1 ?_
    refine V_putI (host := "") 9 5 nf_9_5 ty_9_5 (Or.inl ⟨fl_X4_167, Or.inl rfl⟩) dec_X4_readHeard.2.2.2.2.2.2.1 ?_
    refine V_lets fun s14 => ?_
    exact V_pick [] rfl (X4_readHeard_b163_s G l s14)
def X4_readHeard_b18 (s : St) (x0 k0 k1 : Int) : Rs :=
  grd (isK s 14 k1) (bnd (X4_beginLine s k1 k0) (fun r1 s2 => grd (isK s2 14 x0) (grd (isK s2 14 x0) (grd (isK s2 19 (gR s2 x0 0)) (grd (isK s2 14 x0) (bnd (X4_takeTold s2 x0 (gR s2 x0 4) (gI s2 (gR s2 x0 0) 2)) (fun r3 s4 => grd (isK s4 14 x0) (grd (isK s4 14 x0) (grd (isK s4 19 (gR s4 x0 0)) (grd (isK s4 14 x0) (bnd (X4_takeTold s4 x0 (gR s4 x0 5) (gI s4 (gR s4 x0 0) 3)) (fun r5 s6 => grd (isK s6 14 x0) (bnd (X4_takeWord s6 x0 (1000000 + ((15 : Nat) : Int))) (fun r7 s8 => grd (isK s8 14 x0) (bnd (X4_takeWhole s8 x0 0 60) (fun r9 s10 => grd (isK s10 14 x0) (if ¬ (gI s10 x0 1) = 0 then (X4_readHeard_b95 s10 x0 r3 r5 r9) else (grd (isK s10 14 x0) (grd (isK s10 19 (gR s10 x0 0)) (bnd (X9_isHeard s10 (gR s10 x0 0) r5 r9) (fun r15 s16 => if r15 = 0 then (X4_readHeard_b95 s16 x0 r3 r5 r9) else (grd (isK s16 14 x0) (grd (isK s16 14 x0) (bnd (X4_fail s16 x0 3 (gI s16 x0 6)) (fun r17 s18 => X4_readHeard_b95 s18 x0 r3 r5 r9)))))))))))))))))))))))))
set_option maxRecDepth 100000 in
set_option maxHeartbeats 4000000 in
theorem X4_readHeard_b18_s (G : Gx) (l : Launch) (s : St) (x0 k0 k1 : Int) : V G l mX4_readHeard 18 [(0, (2, x0))] [(0, k0), (2, k1)] s (X4_readHeard_b18 s x0 k0 k1) := by
  unfold X4_readHeard_b18
  refine V_callV0 (ci := 4) (a := k1) (As := [(0, k0)]) (st := []) rfl rfl (X4_beginLine_s G l s k1 k0) cal_X4_beginLine rfl ml_X4_104 rfl rfl dec_X4_readHeard.1.1.1.2.2.2.2 (k_void rfl fun r1 s2 => ?_)
  refine V_aload_n dec_X4_readHeard.1.1.2.1.1.1 0 rfl ?_
  refine V_aload_n dec_X4_readHeard.1.1.2.1.1.2 0 rfl ?_
  refine V_getR 4 4 nf_4_4 ft_4_4 fl_X4_29 dec_X4_readHeard.1.1.2.1.2.1 ?_
  refine V_aload_n dec_X4_readHeard.1.1.2.1.2.2.1 0 rfl ?_
  refine V_getR 4 0 nf_4_0 ft_4_0 fl_X4_12 dec_X4_readHeard.1.1.2.1.2.2.2 ?_
  refine V_getI 9 2 nf_9_2 ft_9_2 fl_X4_56 dec_X4_readHeard.1.1.2.2.1.1 ?_
  refine V_callV0 (ci := 4) (a := x0) (As := [(2, (gR s2 x0 4)), (0, (gI s2 (gR s2 x0 0) 2))]) (st := []) rfl rfl (X4_takeTold_s G l s2 x0 (gR s2 x0 4) (gI s2 (gR s2 x0 0) 2)) cal_X4_takeTold rfl ml_X4_140 rfl rfl dec_X4_readHeard.1.1.2.2.1.2 (k_tag (tag := 0) rfl fun r3 s4 => ?_)
  refine V_istore_n (lv' := [(1, (0, r3)), (0, (2, x0))]) dec_X4_readHeard.1.1.2.2.2.1 (by decide) rfl ?_
  refine V_aload_n dec_X4_readHeard.1.1.2.2.2.2.1 1 rfl ?_
  refine V_aload_n dec_X4_readHeard.1.1.2.2.2.2.2 1 rfl ?_
  refine V_getR 4 5 nf_4_5 ft_4_5 fl_X4_33 dec_X4_readHeard.1.2.1.1.1.1 ?_
  refine V_aload_n dec_X4_readHeard.1.2.1.1.1.2 1 rfl ?_
  refine V_getR 4 0 nf_4_0 ft_4_0 fl_X4_12 dec_X4_readHeard.1.2.1.1.2.1 ?_
  refine V_getI 9 3 nf_9_3 ft_9_3 fl_X4_130 dec_X4_readHeard.1.2.1.1.2.2.1 ?_
  refine V_callV0 (ci := 4) (a := x0) (As := [(2, (gR s4 x0 5)), (0, (gI s4 (gR s4 x0 0) 3))]) (st := []) rfl rfl (X4_takeTold_s G l s4 x0 (gR s4 x0 5) (gI s4 (gR s4 x0 0) 3)) cal_X4_takeTold rfl ml_X4_140 rfl rfl dec_X4_readHeard.1.2.1.1.2.2.2 (k_tag (tag := 0) rfl fun r5 s6 => ?_)
  refine V_istore_n (lv' := [(2, (0, r5)), (1, (0, r3)), (0, (2, x0))]) dec_X4_readHeard.1.2.1.2.1.1 (by decide) rfl ?_
  refine V_aload_n dec_X4_readHeard.1.2.1.2.1.2 2 rfl ?_
  refine V_ldcS 15 _ rfl rfl rfl dec_X4_readHeard.1.2.1.2.2.1 ?_
  refine V_callV0 (ci := 4) (a := x0) (As := [(2, (1000000 + ((15 : Nat) : Int)))]) (st := []) rfl rfl (X4_takeWord_s G l s6 x0 (1000000 + ((15 : Nat) : Int))) cal_X4_takeWord rfl ml_X4_92 rfl rfl dec_X4_readHeard.1.2.1.2.2.2.1 (k_void rfl fun r7 s8 => ?_)
  refine V_aload_n dec_X4_readHeard.1.2.1.2.2.2.2 2 rfl ?_
  refine V_iconst dec_X4_readHeard.1.2.2.1.1.1 rfl ?_
  refine V_bipush dec_X4_readHeard.1.2.2.1.1.2 rfl ?_
  refine V_callV0 (ci := 4) (a := x0) (As := [(0, 0), (0, 60)]) (st := []) rfl rfl (X4_takeWhole_s G l s8 x0 0 60) cal_X4_takeWhole rfl ml_X4_96 rfl rfl dec_X4_readHeard.1.2.2.1.2.1 (k_tag (tag := 0) rfl fun r9 s10 => ?_)
  refine V_istore_n (lv' := [(3, (0, r9)), (2, (0, r5)), (1, (0, r3)), (0, (2, x0))]) dec_X4_readHeard.1.2.2.1.2.2.1 (by decide) rfl ?_
  refine V_aload_n dec_X4_readHeard.1.2.2.1.2.2.2 3 rfl ?_
  refine V_getI 4 1 nf_4_1 ft_4_1 fl_X4_36 dec_X4_readHeard.1.2.2.2.1.1 ?_
  refine V_if_ne (tgt := 95) dec_X4_readHeard.1.2.2.2.1.2.1 (by decide) ?_ ?_
  · exact V_pick [3, 2, 1, 0] rfl (X4_readHeard_b95_s G l s10 x0 r3 r5 r9)
  · refine V_aload_n dec_X4_readHeard.1.2.2.2.1.2.2 3 rfl ?_
    refine V_getR 4 0 nf_4_0 ft_4_0 fl_X4_12 dec_X4_readHeard.1.2.2.2.2.1 ?_
    refine V_iload_n dec_X4_readHeard.1.2.2.2.2.2.1 1 rfl ?_
    refine V_iload_n dec_X4_readHeard.1.2.2.2.2.2.2 0 rfl ?_
    refine V_callV0 (ci := 9) (a := (gR s10 x0 0)) (As := [(0, r5), (0, r9)]) (st := []) rfl rfl (X9_isHeard_s G l s10 (gR s10 x0 0) r5 r9) cal_X9_isHeard rfl ml_X4_172 rfl rfl dec_X4_readHeard.2.1.1.1.1.1 (k_tag (tag := 0) rfl fun r15 s16 => ?_)
    refine V_if_eq (tgt := 95) dec_X4_readHeard.2.1.1.1.1.2 (by decide) ?_ ?_
    · exact V_pick [3, 2, 1, 0] rfl (X4_readHeard_b95_s G l s16 x0 r3 r5 r9)
    · refine V_aload_n dec_X4_readHeard.2.1.1.1.2.1 3 rfl ?_
      refine V_iconst dec_X4_readHeard.2.1.1.1.2.2.1 rfl ?_
      refine V_aload_n dec_X4_readHeard.2.1.1.1.2.2.2 3 rfl ?_
      refine V_getI 4 6 nf_4_6 ft_4_6 fl_X4_117 dec_X4_readHeard.2.1.1.2.1.1 ?_
      refine V_callV0 (ci := 4) (a := x0) (As := [(0, 3), (0, (gI s16 x0 6))]) (st := []) rfl rfl (X4_fail_s G l s16 x0 3 (gI s16 x0 6)) cal_X4_fail rfl ml_X4_62 rfl rfl dec_X4_readHeard.2.1.1.2.1.2 (k_void rfl fun r17 s18 => ?_)
      exact V_pick [3, 2, 1, 0] rfl (X4_readHeard_b95_s G l s18 x0 r3 r5 r9)
def X4_readHeard (s : St) (a0 : Int) : Rs :=
  grd (isK s 14 a0) (grd (isK s 19 (gR s a0 0)) (if (gI s (gR s a0 0) 5) < (8 : Int) then (X4_readHeard_b18 s a0 0 a0) else (X4_readHeard_b18 s a0 1 a0)))
set_option maxRecDepth 100000 in
set_option maxHeartbeats 4000000 in
theorem X4_readHeard_s (G : Gx) (l : Launch) (s : St) (a0 : Int) : Snd G l mX4_readHeard [(2, a0)] s (X4_readHeard s a0) := by
  refine Snd.of (by decide +kernel) rfl ?_
  show V G l mX4_readHeard 0 [(0, (2, a0))] [] s _
  unfold X4_readHeard
  refine V_aload_n dec_X4_readHeard.1.1.1.1.1.1 0 rfl ?_
  refine V_aload_n dec_X4_readHeard.1.1.1.1.1.2 0 rfl ?_
  refine V_getR 4 0 nf_4_0 ft_4_0 fl_X4_12 dec_X4_readHeard.1.1.1.1.2.1 ?_
  refine V_getI 9 5 nf_9_5 ft_9_5 fl_X4_167 dec_X4_readHeard.1.1.1.1.2.2.1 ?_
  refine V_bipush dec_X4_readHeard.1.1.1.1.2.2.2 rfl ?_
  refine V_icmp_lt (tgt := 17) dec_X4_readHeard.1.1.1.2.1.1 (by decide) ?_ ?_
  · refine V_iconst dec_X4_readHeard.1.1.1.2.2.2.1 rfl ?_
    exact V_pick [0] rfl (X4_readHeard_b18_s G l s a0 0 a0)
  · refine V_iconst dec_X4_readHeard.1.1.1.2.1.2 rfl ?_
    refine V_goto (tgt := 18) dec_X4_readHeard.1.1.1.2.2.1 (by decide) ?_
    exact V_pick [0] rfl (X4_readHeard_b18_s G l s a0 1 a0)
theorem dec_X4_readMirror : (((((decode cX4_readMirror 0 = .ok (.aload_n 0, 1) ∧ decode cX4_readMirror 1 = .ok (.iconst 0, 1)) ∧ (decode cX4_readMirror 2 = .ok (.invokevirtual 104, 3) ∧ (decode cX4_readMirror 5 = .ok (.aload_n 0, 1) ∧ decode cX4_readMirror 6 = .ok (.aload_n 0, 1)))) ∧ ((decode cX4_readMirror 7 = .ok (.getfield 33, 3) ∧ (decode cX4_readMirror 10 = .ok (.aload_n 0, 1) ∧ decode cX4_readMirror 11 = .ok (.getfield 12, 3))) ∧ (decode cX4_readMirror 14 = .ok (.getfield 130, 3) ∧ (decode cX4_readMirror 17 = .ok (.invokevirtual 140, 3) ∧ decode cX4_readMirror 20 = .ok (.istore_n 1, 1))))) ∧ (((decode cX4_readMirror 21 = .ok (.aload_n 0, 1) ∧ (decode cX4_readMirror 22 = .ok (.getfield 36, 3) ∧ decode cX4_readMirror 25 = .ok (.ifCond .ne 27, 3))) ∧ (decode cX4_readMirror 28 = .ok (.aload_n 0, 1) ∧ (decode cX4_readMirror 29 = .ok (.getfield 12, 3) ∧ decode cX4_readMirror 32 = .ok (.getfield 120, 3)))) ∧ ((decode cX4_readMirror 35 = .ok (.getfield 152, 3) ∧ (decode cX4_readMirror 38 = .ok (.iload_n 1, 1) ∧ decode cX4_readMirror 39 = .ok (.iaload, 1))) ∧ (decode cX4_readMirror 40 = .ok (.ifCond .lt 12, 3) ∧ (decode cX4_readMirror 43 = .ok (.aload_n 0, 1) ∧ decode cX4_readMirror 44 = .ok (.iconst 3, 1)))))) ∧ ((((decode cX4_readMirror 45 = .ok (.aload_n 0, 1) ∧ decode cX4_readMirror 46 = .ok (.getfield 117, 3)) ∧ (decode cX4_readMirror 49 = .ok (.invokevirtual 62, 3) ∧ (decode cX4_readMirror 52 = .ok (.aload_n 0, 1) ∧ decode cX4_readMirror 53 = .ok (.iconst 0, 1)))) ∧ ((decode cX4_readMirror 54 = .ok (.aload_n 0, 1) ∧ (decode cX4_readMirror 55 = .ok (.getfield 12, 3) ∧ decode cX4_readMirror 58 = .ok (.getfield 88, 3))) ∧ (decode cX4_readMirror 61 = .ok (.iconst 1, 1) ∧ (decode cX4_readMirror 62 = .ok (.isub, 1) ∧ decode cX4_readMirror 63 = .ok (.invokevirtual 96, 3))))) ∧ (((decode cX4_readMirror 66 = .ok (.istore_n 2, 1) ∧ (decode cX4_readMirror 67 = .ok (.aload_n 0, 1) ∧ decode cX4_readMirror 68 = .ok (.getfield 36, 3))) ∧ (decode cX4_readMirror 71 = .ok (.ifCond .ne 16, 3) ∧ (decode cX4_readMirror 74 = .ok (.aload_n 0, 1) ∧ decode cX4_readMirror 75 = .ok (.getfield 12, 3)))) ∧ ((decode cX4_readMirror 78 = .ok (.getfield 120, 3) ∧ (decode cX4_readMirror 81 = .ok (.getfield 152, 3) ∧ decode cX4_readMirror 84 = .ok (.iload_n 1, 1))) ∧ (decode cX4_readMirror 85 = .ok (.iload_n 2, 1) ∧ (decode cX4_readMirror 86 = .ok (.iastore, 1) ∧ decode cX4_readMirror 87 = .ok (.return_, 1))))))) := ⟨⟨by decide +kernel, by decide +kernel⟩, ⟨by decide +kernel, by decide +kernel⟩⟩
def X4_readMirror_b87 (s : St) : Rs :=
  some (0, s)
set_option maxRecDepth 100000 in
set_option maxHeartbeats 4000000 in
theorem X4_readMirror_b87_s (G : Gx) (l : Launch) (s : St) : V G l mX4_readMirror 87 [] [] s (X4_readMirror_b87 s) := by
  unfold X4_readMirror_b87
  exact V_vret rfl dec_X4_readMirror.2.2.2.2.2.2
def X4_readMirror_b52 (s : St) (x0 x1 : Int) : Rs :=
  grd (isK s 14 x0) (grd (isK s 19 (gR s x0 0)) (grd (isK s 14 x0) (bnd (X4_takeWhole s x0 0 (w32 ((gI s (gR s x0 0) 0) - 1))) (fun r5 s6 => grd (isK s6 14 x0) (if ¬ (gI s6 x0 1) = 0 then (X4_readMirror_b87 s6) else (grd (isK s6 14 x0) (grd (isK s6 19 (gR s6 x0 0)) (grd (isK s6 16 (gR s6 (gR s6 x0 0) 6)) (grd (isK s6 1 (gR s6 (gR s6 (gR s6 x0 0) 6) 3) ∧ 0 ≤ x1 ∧ x1 < ln s6 (gR s6 (gR s6 (gR s6 x0 0) 6) 3)) (lets (pI s6 (gR s6 (gR s6 (gR s6 x0 0) 6) 3) x1.toNat r5) (fun s7 => X4_readMirror_b87 s7)))))))))))
set_option maxRecDepth 100000 in
set_option maxHeartbeats 4000000 in
theorem X4_readMirror_b52_s (G : Gx) (l : Launch) (s : St) (x0 x1 : Int) : V G l mX4_readMirror 52 [(0, (2, x0)), (1, (0, x1))] [] s (X4_readMirror_b52 s x0 x1) := by
  unfold X4_readMirror_b52
  refine V_aload_n dec_X4_readMirror.2.1.1.2.2.1 0 rfl ?_
  refine V_iconst dec_X4_readMirror.2.1.1.2.2.2 rfl ?_
  refine V_aload_n dec_X4_readMirror.2.1.2.1.1 0 rfl ?_
  refine V_getR 4 0 nf_4_0 ft_4_0 fl_X4_12 dec_X4_readMirror.2.1.2.1.2.1 ?_
  refine V_getI 9 0 nf_9_0 ft_9_0 fl_X4_88 dec_X4_readMirror.2.1.2.1.2.2 ?_
  refine V_iconst dec_X4_readMirror.2.1.2.2.1 rfl ?_
  refine V_isub dec_X4_readMirror.2.1.2.2.2.1 ?_
  refine V_callV0 (ci := 4) (a := x0) (As := [(0, 0), (0, (w32 ((gI s (gR s x0 0) 0) - 1)))]) (st := []) rfl rfl (X4_takeWhole_s G l s x0 0 (w32 ((gI s (gR s x0 0) 0) - 1))) cal_X4_takeWhole rfl ml_X4_96 rfl rfl dec_X4_readMirror.2.1.2.2.2.2 (k_tag (tag := 0) rfl fun r5 s6 => ?_)
  refine V_istore_n (lv' := [(2, (0, r5)), (0, (2, x0)), (1, (0, x1))]) dec_X4_readMirror.2.2.1.1.1 (by decide) rfl ?_
  refine V_aload_n dec_X4_readMirror.2.2.1.1.2.1 1 rfl ?_
  refine V_getI 4 1 nf_4_1 ft_4_1 fl_X4_36 dec_X4_readMirror.2.2.1.1.2.2 ?_
  refine V_if_ne (tgt := 87) dec_X4_readMirror.2.2.1.2.1 (by decide) ?_ ?_
  · exact V_pick [] rfl (X4_readMirror_b87_s G l s6)
  · refine V_aload_n dec_X4_readMirror.2.2.1.2.2.1 1 rfl ?_
    refine V_getR 4 0 nf_4_0 ft_4_0 fl_X4_12 dec_X4_readMirror.2.2.1.2.2.2 ?_
    refine V_getR 9 6 nf_9_6 ft_9_6 fl_X4_120 dec_X4_readMirror.2.2.2.1.1 ?_
    refine V_getR 6 3 nf_6_3 ft_6_3 fl_X4_152 dec_X4_readMirror.2.2.2.1.2.1 ?_
    refine V_iload_n dec_X4_readMirror.2.2.2.1.2.2 2 rfl ?_
    refine V_iload_n dec_X4_readMirror.2.2.2.2.1 0 rfl ?_
    refine V_iast dec_X4_readMirror.2.2.2.2.2.1 ?_
    refine V_lets fun s7 => ?_
    exact V_pick [] rfl (X4_readMirror_b87_s G l s7)
def X4_readMirror (s : St) (a0 : Int) : Rs :=
  grd (isK s 14 a0) (bnd (X4_beginLine s a0 0) (fun r1 s2 => grd (isK s2 14 a0) (grd (isK s2 14 a0) (grd (isK s2 19 (gR s2 a0 0)) (grd (isK s2 14 a0) (bnd (X4_takeTold s2 a0 (gR s2 a0 5) (gI s2 (gR s2 a0 0) 3)) (fun r3 s4 => grd (isK s4 14 a0) (if ¬ (gI s4 a0 1) = 0 then (X4_readMirror_b52 s4 a0 r3) else (grd (isK s4 14 a0) (grd (isK s4 19 (gR s4 a0 0)) (grd (isK s4 16 (gR s4 (gR s4 a0 0) 6)) (grd (isK s4 1 (gR s4 (gR s4 (gR s4 a0 0) 6) 3) ∧ 0 ≤ r3 ∧ r3 < ln s4 (gR s4 (gR s4 (gR s4 a0 0) 6) 3)) (if (gI s4 (gR s4 (gR s4 (gR s4 a0 0) 6) 3) r3.toNat) < 0 then (X4_readMirror_b52 s4 a0 r3) else (grd (isK s4 14 a0) (grd (isK s4 14 a0) (bnd (X4_fail s4 a0 3 (gI s4 a0 6)) (fun r8 s9 => X4_readMirror_b52 s9 a0 r3)))))))))))))))))
set_option maxRecDepth 100000 in
set_option maxHeartbeats 4000000 in
theorem X4_readMirror_s (G : Gx) (l : Launch) (s : St) (a0 : Int) : Snd G l mX4_readMirror [(2, a0)] s (X4_readMirror s a0) := by
  refine Snd.of (by decide +kernel) rfl ?_
  show V G l mX4_readMirror 0 [(0, (2, a0))] [] s _
  unfold X4_readMirror
  refine V_aload_n dec_X4_readMirror.1.1.1.1.1 0 rfl ?_
  refine V_iconst dec_X4_readMirror.1.1.1.1.2 rfl ?_
  refine V_callV0 (ci := 4) (a := a0) (As := [(0, 0)]) (st := []) rfl rfl (X4_beginLine_s G l s a0 0) cal_X4_beginLine rfl ml_X4_104 rfl rfl dec_X4_readMirror.1.1.1.2.1 (k_void rfl fun r1 s2 => ?_)
  refine V_aload_n dec_X4_readMirror.1.1.1.2.2.1 0 rfl ?_
  refine V_aload_n dec_X4_readMirror.1.1.1.2.2.2 0 rfl ?_
  refine V_getR 4 5 nf_4_5 ft_4_5 fl_X4_33 dec_X4_readMirror.1.1.2.1.1 ?_
  refine V_aload_n dec_X4_readMirror.1.1.2.1.2.1 0 rfl ?_
  refine V_getR 4 0 nf_4_0 ft_4_0 fl_X4_12 dec_X4_readMirror.1.1.2.1.2.2 ?_
  refine V_getI 9 3 nf_9_3 ft_9_3 fl_X4_130 dec_X4_readMirror.1.1.2.2.1 ?_
  refine V_callV0 (ci := 4) (a := a0) (As := [(2, (gR s2 a0 5)), (0, (gI s2 (gR s2 a0 0) 3))]) (st := []) rfl rfl (X4_takeTold_s G l s2 a0 (gR s2 a0 5) (gI s2 (gR s2 a0 0) 3)) cal_X4_takeTold rfl ml_X4_140 rfl rfl dec_X4_readMirror.1.1.2.2.2.1 (k_tag (tag := 0) rfl fun r3 s4 => ?_)
  refine V_istore_n (lv' := [(1, (0, r3)), (0, (2, a0))]) dec_X4_readMirror.1.1.2.2.2.2 (by decide) rfl ?_
  refine V_aload_n dec_X4_readMirror.1.2.1.1.1 1 rfl ?_
  refine V_getI 4 1 nf_4_1 ft_4_1 fl_X4_36 dec_X4_readMirror.1.2.1.1.2.1 ?_
  refine V_if_ne (tgt := 52) dec_X4_readMirror.1.2.1.1.2.2 (by decide) ?_ ?_
  · exact V_pick [1, 0] rfl (X4_readMirror_b52_s G l s4 a0 r3)
  · refine V_aload_n dec_X4_readMirror.1.2.1.2.1 1 rfl ?_
    refine V_getR 4 0 nf_4_0 ft_4_0 fl_X4_12 dec_X4_readMirror.1.2.1.2.2.1 ?_
    refine V_getR 9 6 nf_9_6 ft_9_6 fl_X4_120 dec_X4_readMirror.1.2.1.2.2.2 ?_
    refine V_getR 6 3 nf_6_3 ft_6_3 fl_X4_152 dec_X4_readMirror.1.2.2.1.1 ?_
    refine V_iload_n dec_X4_readMirror.1.2.2.1.2.1 0 rfl ?_
    refine V_iald dec_X4_readMirror.1.2.2.1.2.2 ?_
    refine V_if_lt (tgt := 52) dec_X4_readMirror.1.2.2.2.1 (by decide) ?_ ?_
    · exact V_pick [1, 0] rfl (X4_readMirror_b52_s G l s4 a0 r3)
    · refine V_aload_n dec_X4_readMirror.1.2.2.2.2.1 1 rfl ?_
      refine V_iconst dec_X4_readMirror.1.2.2.2.2.2 rfl ?_
      refine V_aload_n dec_X4_readMirror.2.1.1.1.1 1 rfl ?_
      refine V_getI 4 6 nf_4_6 ft_4_6 fl_X4_117 dec_X4_readMirror.2.1.1.1.2 ?_
      refine V_callV0 (ci := 4) (a := a0) (As := [(0, 3), (0, (gI s4 a0 6))]) (st := []) rfl rfl (X4_fail_s G l s4 a0 3 (gI s4 a0 6)) cal_X4_fail rfl ml_X4_62 rfl rfl dec_X4_readMirror.2.1.1.2.1 (k_void rfl fun r8 s9 => ?_)
      exact V_pick [1, 0] rfl (X4_readMirror_b52_s G l s9 a0 r3)
theorem dec_X9_isTaken : ((((decode cX9_isTaken 0 = .ok (.iconst 0, 1) ∧ decode cX9_isTaken 1 = .ok (.istore_n 2, 1)) ∧ (decode cX9_isTaken 2 = .ok (.iload_n 2, 1) ∧ decode cX9_isTaken 3 = .ok (.aload_n 0, 1))) ∧ ((decode cX9_isTaken 4 = .ok (.getfield 47, 3) ∧ decode cX9_isTaken 7 = .ok (.if_icmp .ge 24, 3)) ∧ (decode cX9_isTaken 10 = .ok (.aload_n 0, 1) ∧ (decode cX9_isTaken 11 = .ok (.getfield 12, 3) ∧ decode cX9_isTaken 14 = .ok (.getfield 80, 3))))) ∧ (((decode cX9_isTaken 17 = .ok (.iload_n 2, 1) ∧ decode cX9_isTaken 18 = .ok (.iaload, 1)) ∧ (decode cX9_isTaken 19 = .ok (.iload_n 1, 1) ∧ (decode cX9_isTaken 20 = .ok (.if_icmp .ne 5, 3) ∧ decode cX9_isTaken 23 = .ok (.iconst 1, 1)))) ∧ ((decode cX9_isTaken 24 = .ok (.ireturn, 1) ∧ decode cX9_isTaken 25 = .ok (.iinc 2 1, 3)) ∧ (decode cX9_isTaken 28 = .ok (.goto (-26), 3) ∧ (decode cX9_isTaken 31 = .ok (.iconst 0, 1) ∧ decode cX9_isTaken 32 = .ok (.ireturn, 1)))))) := ⟨by decide +kernel, by decide +kernel⟩
def X9_isTaken_b2_body (rk2 : St → Int → Int → Int → Rs) (s : St) (x0 x1 x2 : Int) : Rs :=
  grd (isK s 19 x0) (if (gI s x0 2) ≤ x2 then (grd ((0 : Int) = 0 ∨ (0 : Int) = 1) (some (0, s))) else (grd (isK s 19 x0) (grd (isK s 16 (gR s x0 6)) (grd (isK s 1 (gR s (gR s x0 6) 1) ∧ 0 ≤ x2 ∧ x2 < ln s (gR s (gR s x0 6) 1)) (if ¬ (gI s (gR s (gR s x0 6) 1) x2.toNat) = x1 then (rk2 s x0 x1 (w32 (x2 + 1))) else (grd ((1 : Int) = 0 ∨ (1 : Int) = 1) (some (1, s))))))))
def X9_isTaken_b2 (n : Nat) (s : St) (x0 x1 x2 : Int) : Rs := iter (fun (rec : St × Int × Int × Int → Rs) (a : St × Int × Int × Int) => X9_isTaken_b2_body (fun (s : St) (x0 x1 x2 : Int) => rec (s, x0, x1, x2)) a.1 a.2.1 a.2.2.1 a.2.2.2) n (s, x0, x1, x2)
theorem X9_isTaken_b2_0 (s : St) (x0 x1 x2 : Int) : X9_isTaken_b2 0 s x0 x1 x2 = none := rfl
theorem X9_isTaken_b2_1 (n : Nat) (s : St) (x0 x1 x2 : Int) : X9_isTaken_b2 (n + 1) s x0 x1 x2 = X9_isTaken_b2_body (X9_isTaken_b2 n) s x0 x1 x2 := rfl
set_option maxRecDepth 100000 in
set_option maxHeartbeats 4000000 in
theorem X9_isTaken_b2_body_s (G : Gx) (l : Launch) (rk2 : St → Int → Int → Int → Rs) (hk2 : ∀ (s : St) (x0 x1 x2 : Int), V G l mX9_isTaken 2 [(0, (2, x0)), (1, (0, x1)), (2, (0, x2))] [] s (rk2 s x0 x1 x2)) (s : St) (x0 x1 x2 : Int) : V G l mX9_isTaken 2 [(0, (2, x0)), (1, (0, x1)), (2, (0, x2))] [] s (X9_isTaken_b2_body rk2 s x0 x1 x2) := by
  unfold X9_isTaken_b2_body
  refine V_iload_n dec_X9_isTaken.1.1.2.1 2 rfl ?_
  refine V_aload_n dec_X9_isTaken.1.1.2.2 0 rfl ?_
  refine V_getI 9 2 nf_9_2 ft_9_2 fl_X9_47 dec_X9_isTaken.1.2.1.1 ?_
  refine V_icmp_ge (tgt := 31) dec_X9_isTaken.1.2.1.2 (by decide) ?_ ?_
  · refine V_iconst dec_X9_isTaken.2.2.2.2.1 rfl ?_
    exact V_zret rfl dec_X9_isTaken.2.2.2.2.2
  · refine V_aload_n dec_X9_isTaken.1.2.2.1 0 rfl ?_
    refine V_getR 9 6 nf_9_6 ft_9_6 fl_X9_12 dec_X9_isTaken.1.2.2.2.1 ?_
    refine V_getR 6 1 nf_6_1 ft_6_1 fl_X9_80 dec_X9_isTaken.1.2.2.2.2 ?_
    refine V_iload_n dec_X9_isTaken.2.1.1.1 2 rfl ?_
    refine V_iald dec_X9_isTaken.2.1.1.2 ?_
    refine V_iload_n dec_X9_isTaken.2.1.2.1 1 rfl ?_
    refine V_icmp_ne (tgt := 25) dec_X9_isTaken.2.1.2.2.1 (by decide) ?_ ?_
    · refine V_iinc (lv' := [(2, (0, (w32 (x2 + 1)))), (0, (2, x0)), (1, (0, x1))]) dec_X9_isTaken.2.2.1.2 2 rfl (by decide) rfl ?_
      refine V_goto (tgt := 2) dec_X9_isTaken.2.2.2.1 (by decide) ?_
      exact V_pick [1, 2, 0] rfl (hk2 s x0 x1 (w32 (x2 + 1)))
    · refine V_iconst dec_X9_isTaken.2.1.2.2.2 rfl ?_
      exact V_zret rfl dec_X9_isTaken.2.2.1.1
theorem X9_isTaken_b2_s (G : Gx) (l : Launch) (n : Nat) (s : St) (x0 x1 x2 : Int) : V G l mX9_isTaken 2 [(0, (2, x0)), (1, (0, x1)), (2, (0, x2))] [] s (X9_isTaken_b2 n s x0 x1 x2) :=
  V_iter (LV := fun a : St × Int × Int × Int => [(0, (2, a.2.1)), (1, (0, a.2.2.1)), (2, (0, a.2.2.2))]) (ST := fun a : St × Int × Int × Int => []) (SS := fun a : St × Int × Int × Int => a.1) (fun rec hrec a => X9_isTaken_b2_body_s G l (fun (s : St) (x0 x1 x2 : Int) => rec (s, x0, x1, x2)) (fun (s : St) (x0 x1 x2 : Int) => hrec (s, x0, x1, x2)) a.1 a.2.1 a.2.2.1 a.2.2.2) n (s, x0, x1, x2)
def X9_isTaken (s : St) (a0 a1 : Int) : Rs :=
  X9_isTaken_b2 FU s a0 a1 0
set_option maxRecDepth 100000 in
set_option maxHeartbeats 4000000 in
theorem X9_isTaken_s (G : Gx) (l : Launch) (s : St) (a0 a1 : Int) : Snd G l mX9_isTaken [(2, a0), (0, a1)] s (X9_isTaken s a0 a1) := by
  refine Snd.of (by decide +kernel) rfl ?_
  show V G l mX9_isTaken 0 [(0, (2, a0)), (1, (0, a1))] [] s _
  unfold X9_isTaken
  refine V_iconst dec_X9_isTaken.1.1.1.1 rfl ?_
  refine V_istore_n (lv' := [(2, (0, 0)), (0, (2, a0)), (1, (0, a1))]) dec_X9_isTaken.1.1.1.2 (by decide) rfl ?_
  exact V_pick [1, 2, 0] rfl (X9_isTaken_b2_s G l FU s a0 a1 0)
theorem dec_X4_readPerson : ((((((decode cX4_readPerson 0 = .ok (.aload_n 0, 1) ∧ decode cX4_readPerson 1 = .ok (.aload_n 0, 1)) ∧ (decode cX4_readPerson 2 = .ok (.getfield 12, 3) ∧ decode cX4_readPerson 5 = .ok (.getfield 56, 3))) ∧ ((decode cX4_readPerson 8 = .ok (.bipush 6, 2) ∧ decode cX4_readPerson 10 = .ok (.if_icmp .lt 7, 3)) ∧ (decode cX4_readPerson 13 = .ok (.iconst 1, 1) ∧ decode cX4_readPerson 14 = .ok (.goto 4, 3)))) ∧ (((decode cX4_readPerson 17 = .ok (.iconst 0, 1) ∧ decode cX4_readPerson 18 = .ok (.invokevirtual 104, 3)) ∧ (decode cX4_readPerson 21 = .ok (.aload_n 0, 1) ∧ decode cX4_readPerson 22 = .ok (.invokevirtual 107, 3))) ∧ ((decode cX4_readPerson 25 = .ok (.lstore_n 1, 1) ∧ decode cX4_readPerson 26 = .ok (.aload_n 0, 1)) ∧ (decode cX4_readPerson 27 = .ok (.ldc 111, 2) ∧ decode cX4_readPerson 29 = .ok (.invokevirtual 92, 3))))) ∧ ((((decode cX4_readPerson 32 = .ok (.aload_n 0, 1) ∧ decode cX4_readPerson 33 = .ok (.iconst 0, 1)) ∧ (decode cX4_readPerson 34 = .ok (.aload_n 0, 1) ∧ decode cX4_readPerson 35 = .ok (.getfield 12, 3))) ∧ ((decode cX4_readPerson 38 = .ok (.getfield 88, 3) ∧ decode cX4_readPerson 41 = .ok (.iconst 1, 1)) ∧ (decode cX4_readPerson 42 = .ok (.isub, 1) ∧ decode cX4_readPerson 43 = .ok (.invokevirtual 96, 3)))) ∧ (((decode cX4_readPerson 46 = .ok (.istore_n 3, 1) ∧ decode cX4_readPerson 47 = .ok (.aload_n 0, 1)) ∧ (decode cX4_readPerson 48 = .ok (.getfield 36, 3) ∧ decode cX4_readPerson 51 = .ok (.ifCond .ne 23, 3))) ∧ ((decode cX4_readPerson 54 = .ok (.aload_n 0, 1) ∧ decode cX4_readPerson 55 = .ok (.getfield 12, 3)) ∧ (decode cX4_readPerson 58 = .ok (.iload_n 3, 1) ∧ decode cX4_readPerson 59 = .ok (.invokevirtual 113, 3)))))) ∧ (((((decode cX4_readPerson 62 = .ok (.ifCond .eq 12, 3) ∧ decode cX4_readPerson 65 = .ok (.aload_n 0, 1)) ∧ (decode cX4_readPerson 66 = .ok (.iconst 3, 1) ∧ decode cX4_readPerson 67 = .ok (.aload_n 0, 1))) ∧ ((decode cX4_readPerson 68 = .ok (.getfield 117, 3) ∧ decode cX4_readPerson 71 = .ok (.invokevirtual 62, 3)) ∧ (decode cX4_readPerson 74 = .ok (.aload_n 0, 1) ∧ decode cX4_readPerson 75 = .ok (.getfield 36, 3)))) ∧ (((decode cX4_readPerson 78 = .ok (.ifCond .ne 48, 3) ∧ decode cX4_readPerson 81 = .ok (.aload_n 0, 1)) ∧ (decode cX4_readPerson 82 = .ok (.getfield 29, 3) ∧ decode cX4_readPerson 85 = .ok (.aload_n 0, 1))) ∧ ((decode cX4_readPerson 86 = .ok (.getfield 12, 3) ∧ decode cX4_readPerson 89 = .ok (.getfield 56, 3)) ∧ (decode cX4_readPerson 92 = .ok (.lload_n 1, 1) ∧ decode cX4_readPerson 93 = .ok (.lastore, 1))))) ∧ ((((decode cX4_readPerson 94 = .ok (.aload_n 0, 1) ∧ decode cX4_readPerson 95 = .ok (.getfield 12, 3)) ∧ (decode cX4_readPerson 98 = .ok (.getfield 120, 3) ∧ decode cX4_readPerson 101 = .ok (.getfield 124, 3))) ∧ ((decode cX4_readPerson 104 = .ok (.aload_n 0, 1) ∧ decode cX4_readPerson 105 = .ok (.getfield 12, 3)) ∧ (decode cX4_readPerson 108 = .ok (.getfield 56, 3) ∧ decode cX4_readPerson 111 = .ok (.iload_n 3, 1)))) ∧ (((decode cX4_readPerson 112 = .ok (.iastore, 1) ∧ decode cX4_readPerson 113 = .ok (.aload_n 0, 1)) ∧ (decode cX4_readPerson 114 = .ok (.getfield 12, 3) ∧ decode cX4_readPerson 117 = .ok (.dup, 1))) ∧ ((decode cX4_readPerson 118 = .ok (.getfield 56, 3) ∧ decode cX4_readPerson 121 = .ok (.iconst 1, 1)) ∧ (decode cX4_readPerson 122 = .ok (.iadd, 1) ∧ (decode cX4_readPerson 123 = .ok (.putfield 56, 3) ∧ decode cX4_readPerson 126 = .ok (.return_, 1)))))))) := ⟨⟨⟨by decide +kernel, by decide +kernel⟩, ⟨by decide +kernel, by decide +kernel⟩⟩, ⟨⟨by decide +kernel, by decide +kernel⟩, ⟨by decide +kernel, by decide +kernel⟩⟩⟩
def X4_readPerson_b126 (s : St) : Rs :=
  some (0, s)
set_option maxRecDepth 100000 in
set_option maxHeartbeats 4000000 in
theorem X4_readPerson_b126_s (G : Gx) (l : Launch) (s : St) : V G l mX4_readPerson 126 [] [] s (X4_readPerson_b126 s) := by
  unfold X4_readPerson_b126
  exact V_vret rfl dec_X4_readPerson.2.2.2.2.2.2.2
def X4_readPerson_b74 (s : St) (x0 x1 x3 : Int) : Rs :=
  grd (isK s 14 x0) (if ¬ (gI s x0 1) = 0 then (X4_readPerson_b126 s) else (grd (isK s 14 x0) (grd (isK s 14 x0) (grd (isK s 19 (gR s x0 0)) (grd (isK s 3 (gR s x0 4) ∧ 0 ≤ (gI s (gR s x0 0) 2) ∧ (gI s (gR s x0 0) 2) < ln s (gR s x0 4)) (lets (pI s (gR s x0 4) (gI s (gR s x0 0) 2).toNat x1) (fun s9 => grd (isK s9 14 x0) (grd (isK s9 19 (gR s9 x0 0)) (grd (isK s9 16 (gR s9 (gR s9 x0 0) 6)) (grd (isK s9 14 x0) (grd (isK s9 19 (gR s9 x0 0)) (grd (isK s9 1 (gR s9 (gR s9 (gR s9 x0 0) 6) 1) ∧ 0 ≤ (gI s9 (gR s9 x0 0) 2) ∧ (gI s9 (gR s9 x0 0) 2) < ln s9 (gR s9 (gR s9 (gR s9 x0 0) 6) 1)) (lets (pI s9 (gR s9 (gR s9 (gR s9 x0 0) 6) 1) (gI s9 (gR s9 x0 0) 2).toNat x3) (fun s10 => grd (isK s10 14 x0) (grd (isK s10 19 (gR s10 x0 0)) (grd (isK s10 19 (gR s10 x0 0)) (lets (pI s10 (gR s10 x0 0) 2 (w32 ((gI s10 (gR s10 x0 0) 2) + 1))) (fun s11 => X4_readPerson_b126 s11))))))))))))))))))
set_option maxRecDepth 100000 in
set_option maxHeartbeats 4000000 in
theorem X4_readPerson_b74_s (G : Gx) (l : Launch) (s : St) (x0 x1 x3 : Int) : V G l mX4_readPerson 74 [(0, (2, x0)), (1, (1, x1)), (3, (0, x3))] [] s (X4_readPerson_b74 s x0 x1 x3) := by
  unfold X4_readPerson_b74
  refine V_aload_n dec_X4_readPerson.2.1.1.2.2.1 0 rfl ?_
  refine V_getI 4 1 nf_4_1 ft_4_1 fl_X4_36 dec_X4_readPerson.2.1.1.2.2.2 ?_
  refine V_if_ne (tgt := 126) dec_X4_readPerson.2.1.2.1.1.1 (by decide) ?_ ?_
  · exact V_pick [] rfl (X4_readPerson_b126_s G l s)
  · refine V_aload_n dec_X4_readPerson.2.1.2.1.1.2 0 rfl ?_
    refine V_getR 4 4 nf_4_4 ft_4_4 fl_X4_29 dec_X4_readPerson.2.1.2.1.2.1 ?_
    refine V_aload_n dec_X4_readPerson.2.1.2.1.2.2 0 rfl ?_
    refine V_getR 4 0 nf_4_0 ft_4_0 fl_X4_12 dec_X4_readPerson.2.1.2.2.1.1 ?_
    refine V_getI 9 2 nf_9_2 ft_9_2 fl_X4_56 dec_X4_readPerson.2.1.2.2.1.2 ?_
    refine V_lload_n dec_X4_readPerson.2.1.2.2.2.1 1 rfl ?_
    refine V_last dec_X4_readPerson.2.1.2.2.2.2 ?_
    refine V_lets fun s9 => ?_
    refine V_aload_n dec_X4_readPerson.2.2.1.1.1.1 0 rfl ?_
    refine V_getR 4 0 nf_4_0 ft_4_0 fl_X4_12 dec_X4_readPerson.2.2.1.1.1.2 ?_
    refine V_getR 9 6 nf_9_6 ft_9_6 fl_X4_120 dec_X4_readPerson.2.2.1.1.2.1 ?_
    refine V_getR 6 1 nf_6_1 ft_6_1 fl_X4_124 dec_X4_readPerson.2.2.1.1.2.2 ?_
    refine V_aload_n dec_X4_readPerson.2.2.1.2.1.1 0 rfl ?_
    refine V_getR 4 0 nf_4_0 ft_4_0 fl_X4_12 dec_X4_readPerson.2.2.1.2.1.2 ?_
    refine V_getI 9 2 nf_9_2 ft_9_2 fl_X4_56 dec_X4_readPerson.2.2.1.2.2.1 ?_
    refine V_iload_n dec_X4_readPerson.2.2.1.2.2.2 2 rfl ?_
    refine V_iast dec_X4_readPerson.2.2.2.1.1.1 ?_
    refine V_lets fun s10 => ?_
    refine V_aload_n dec_X4_readPerson.2.2.2.1.1.2 0 rfl ?_
    refine V_getR 4 0 nf_4_0 ft_4_0 fl_X4_12 dec_X4_readPerson.2.2.2.1.2.1 ?_
    refine V_dup (nl2 _) dec_X4_readPerson.2.2.2.1.2.2 ?_
    refine V_getI 9 2 nf_9_2 ft_9_2 fl_X4_56 dec_X4_readPerson.2.2.2.2.1.1 ?_
    refine V_iconst dec_X4_readPerson.2.2.2.2.1.2 rfl ?_
    refine V_iadd dec_X4_readPerson.2.2.2.2.2.1 ?_
    refine V_putI (host := "") 9 2 nf_9_2 ty_9_2 (Or.inl ⟨fl_X4_56, Or.inl rfl⟩) dec_X4_readPerson.2.2.2.2.2.2.1 ?_
    refine V_lets fun s11 => ?_
    exact V_pick [] rfl (X4_readPerson_b126_s G l s11)
def X4_readPerson_b18 (s : St) (x0 k0 k1 : Int) : Rs :=
  grd (isK s 14 k1) (bnd (X4_beginLine s k1 k0) (fun r1 s2 => grd (isK s2 14 x0) (bnd (X4_takeNewName s2 x0) (fun r3 s4 => grd (isK s4 14 x0) (bnd (X4_takeWord s4 x0 (1000000 + ((8 : Nat) : Int))) (fun r5 s6 => grd (isK s6 14 x0) (grd (isK s6 19 (gR s6 x0 0)) (grd (isK s6 14 x0) (bnd (X4_takeWhole s6 x0 0 (w32 ((gI s6 (gR s6 x0 0) 0) - 1))) (fun r7 s8 => grd (isK s8 14 x0) (if ¬ (gI s8 x0 1) = 0 then (X4_readPerson_b74 s8 x0 r3 r7) else (grd (isK s8 14 x0) (grd (isK s8 19 (gR s8 x0 0)) (bnd (X9_isTaken s8 (gR s8 x0 0) r7) (fun r12 s13 => if r12 = 0 then (X4_readPerson_b74 s13 x0 r3 r7) else (grd (isK s13 14 x0) (grd (isK s13 14 x0) (bnd (X4_fail s13 x0 3 (gI s13 x0 6)) (fun r14 s15 => X4_readPerson_b74 s15 x0 r3 r7)))))))))))))))))))
set_option maxRecDepth 100000 in
set_option maxHeartbeats 4000000 in
theorem X4_readPerson_b18_s (G : Gx) (l : Launch) (s : St) (x0 k0 k1 : Int) : V G l mX4_readPerson 18 [(0, (2, x0))] [(0, k0), (2, k1)] s (X4_readPerson_b18 s x0 k0 k1) := by
  unfold X4_readPerson_b18
  refine V_callV0 (ci := 4) (a := k1) (As := [(0, k0)]) (st := []) rfl rfl (X4_beginLine_s G l s k1 k0) cal_X4_beginLine rfl ml_X4_104 rfl rfl dec_X4_readPerson.1.1.2.1.1.2 (k_void rfl fun r1 s2 => ?_)
  refine V_aload_n dec_X4_readPerson.1.1.2.1.2.1 0 rfl ?_
  refine V_callV0 (ci := 4) (a := x0) (As := []) (st := []) rfl rfl (X4_takeNewName_s G l s2 x0) cal_X4_takeNewName rfl ml_X4_107 rfl rfl dec_X4_readPerson.1.1.2.1.2.2 (k_tag (tag := 1) rfl fun r3 s4 => ?_)
  refine V_lstore_n (lv' := [(1, (1, r3)), (0, (2, x0))]) dec_X4_readPerson.1.1.2.2.1.1 (by decide) rfl ?_
  refine V_aload_n dec_X4_readPerson.1.1.2.2.1.2 1 rfl ?_
  refine V_ldcS 8 _ rfl rfl rfl dec_X4_readPerson.1.1.2.2.2.1 ?_
  refine V_callV0 (ci := 4) (a := x0) (As := [(2, (1000000 + ((8 : Nat) : Int)))]) (st := []) rfl rfl (X4_takeWord_s G l s4 x0 (1000000 + ((8 : Nat) : Int))) cal_X4_takeWord rfl ml_X4_92 rfl rfl dec_X4_readPerson.1.1.2.2.2.2 (k_void rfl fun r5 s6 => ?_)
  refine V_aload_n dec_X4_readPerson.1.2.1.1.1.1 1 rfl ?_
  refine V_iconst dec_X4_readPerson.1.2.1.1.1.2 rfl ?_
  refine V_aload_n dec_X4_readPerson.1.2.1.1.2.1 1 rfl ?_
  refine V_getR 4 0 nf_4_0 ft_4_0 fl_X4_12 dec_X4_readPerson.1.2.1.1.2.2 ?_
  refine V_getI 9 0 nf_9_0 ft_9_0 fl_X4_88 dec_X4_readPerson.1.2.1.2.1.1 ?_
  refine V_iconst dec_X4_readPerson.1.2.1.2.1.2 rfl ?_
  refine V_isub dec_X4_readPerson.1.2.1.2.2.1 ?_
  refine V_callV0 (ci := 4) (a := x0) (As := [(0, 0), (0, (w32 ((gI s6 (gR s6 x0 0) 0) - 1)))]) (st := []) rfl rfl (X4_takeWhole_s G l s6 x0 0 (w32 ((gI s6 (gR s6 x0 0) 0) - 1))) cal_X4_takeWhole rfl ml_X4_96 rfl rfl dec_X4_readPerson.1.2.1.2.2.2 (k_tag (tag := 0) rfl fun r7 s8 => ?_)
  refine V_istore_n (lv' := [(3, (0, r7)), (1, (1, r3)), (0, (2, x0))]) dec_X4_readPerson.1.2.2.1.1.1 (by decide) rfl ?_
  refine V_aload_n dec_X4_readPerson.1.2.2.1.1.2 2 rfl ?_
  refine V_getI 4 1 nf_4_1 ft_4_1 fl_X4_36 dec_X4_readPerson.1.2.2.1.2.1 ?_
  refine V_if_ne (tgt := 74) dec_X4_readPerson.1.2.2.1.2.2 (by decide) ?_ ?_
  · exact V_pick [2, 1, 0] rfl (X4_readPerson_b74_s G l s8 x0 r3 r7)
  · refine V_aload_n dec_X4_readPerson.1.2.2.2.1.1 2 rfl ?_
    refine V_getR 4 0 nf_4_0 ft_4_0 fl_X4_12 dec_X4_readPerson.1.2.2.2.1.2 ?_
    refine V_iload_n dec_X4_readPerson.1.2.2.2.2.1 0 rfl ?_
    refine V_callV0 (ci := 9) (a := (gR s8 x0 0)) (As := [(0, r7)]) (st := []) rfl rfl (X9_isTaken_s G l s8 (gR s8 x0 0) r7) cal_X9_isTaken rfl ml_X4_113 rfl rfl dec_X4_readPerson.1.2.2.2.2.2 (k_tag (tag := 0) rfl fun r12 s13 => ?_)
    refine V_if_eq (tgt := 74) dec_X4_readPerson.2.1.1.1.1.1 (by decide) ?_ ?_
    · exact V_pick [2, 1, 0] rfl (X4_readPerson_b74_s G l s13 x0 r3 r7)
    · refine V_aload_n dec_X4_readPerson.2.1.1.1.1.2 2 rfl ?_
      refine V_iconst dec_X4_readPerson.2.1.1.1.2.1 rfl ?_
      refine V_aload_n dec_X4_readPerson.2.1.1.1.2.2 2 rfl ?_
      refine V_getI 4 6 nf_4_6 ft_4_6 fl_X4_117 dec_X4_readPerson.2.1.1.2.1.1 ?_
      refine V_callV0 (ci := 4) (a := x0) (As := [(0, 3), (0, (gI s13 x0 6))]) (st := []) rfl rfl (X4_fail_s G l s13 x0 3 (gI s13 x0 6)) cal_X4_fail rfl ml_X4_62 rfl rfl dec_X4_readPerson.2.1.1.2.1.2 (k_void rfl fun r14 s15 => ?_)
      exact V_pick [2, 1, 0] rfl (X4_readPerson_b74_s G l s15 x0 r3 r7)
def X4_readPerson (s : St) (a0 : Int) : Rs :=
  grd (isK s 14 a0) (grd (isK s 19 (gR s a0 0)) (if (gI s (gR s a0 0) 2) < (6 : Int) then (X4_readPerson_b18 s a0 0 a0) else (X4_readPerson_b18 s a0 1 a0)))
set_option maxRecDepth 100000 in
set_option maxHeartbeats 4000000 in
theorem X4_readPerson_s (G : Gx) (l : Launch) (s : St) (a0 : Int) : Snd G l mX4_readPerson [(2, a0)] s (X4_readPerson s a0) := by
  refine Snd.of (by decide +kernel) rfl ?_
  show V G l mX4_readPerson 0 [(0, (2, a0))] [] s _
  unfold X4_readPerson
  refine V_aload_n dec_X4_readPerson.1.1.1.1.1.1 0 rfl ?_
  refine V_aload_n dec_X4_readPerson.1.1.1.1.1.2 0 rfl ?_
  refine V_getR 4 0 nf_4_0 ft_4_0 fl_X4_12 dec_X4_readPerson.1.1.1.1.2.1 ?_
  refine V_getI 9 2 nf_9_2 ft_9_2 fl_X4_56 dec_X4_readPerson.1.1.1.1.2.2 ?_
  refine V_bipush dec_X4_readPerson.1.1.1.2.1.1 rfl ?_
  refine V_icmp_lt (tgt := 17) dec_X4_readPerson.1.1.1.2.1.2 (by decide) ?_ ?_
  · refine V_iconst dec_X4_readPerson.1.1.2.1.1.1 rfl ?_
    exact V_pick [0] rfl (X4_readPerson_b18_s G l s a0 0 a0)
  · refine V_iconst dec_X4_readPerson.1.1.1.2.2.1 rfl ?_
    refine V_goto (tgt := 18) dec_X4_readPerson.1.1.1.2.2.2 (by decide) ?_
    exact V_pick [0] rfl (X4_readPerson_b18_s G l s a0 1 a0)
theorem dec_X4_readTown : (((((decode cX4_readTown 0 = .ok (.aload_n 0, 1) ∧ decode cX4_readTown 1 = .ok (.getfield 12, 3)) ∧ (decode cX4_readTown 4 = .ok (.getfield 88, 3) ∧ (decode cX4_readTown 7 = .ok (.ifCond .eq 15, 3) ∧ decode cX4_readTown 10 = .ok (.aload_n 0, 1)))) ∧ ((decode cX4_readTown 11 = .ok (.iconst 3, 1) ∧ decode cX4_readTown 12 = .ok (.aload_n 0, 1)) ∧ (decode cX4_readTown 13 = .ok (.getfield 25, 3) ∧ (decode cX4_readTown 16 = .ok (.getfield 59, 3) ∧ decode cX4_readTown 19 = .ok (.invokevirtual 62, 3))))) ∧ (((decode cX4_readTown 22 = .ok (.aload_n 0, 1) ∧ decode cX4_readTown 23 = .ok (.iconst 1, 1)) ∧ (decode cX4_readTown 24 = .ok (.invokevirtual 52, 3) ∧ (decode cX4_readTown 27 = .ok (.aload_n 0, 1) ∧ decode cX4_readTown 28 = .ok (.ldc 91, 2)))) ∧ ((decode cX4_readTown 30 = .ok (.invokevirtual 92, 3) ∧ decode cX4_readTown 33 = .ok (.aload_n 0, 1)) ∧ (decode cX4_readTown 34 = .ok (.iconst 2, 1) ∧ (decode cX4_readTown 35 = .ok (.bipush 40, 2) ∧ decode cX4_readTown 37 = .ok (.invokevirtual 96, 3)))))) ∧ ((((decode cX4_readTown 40 = .ok (.istore_n 1, 1) ∧ decode cX4_readTown 41 = .ok (.aload_n 0, 1)) ∧ (decode cX4_readTown 42 = .ok (.ldc 100, 2) ∧ (decode cX4_readTown 44 = .ok (.invokevirtual 92, 3) ∧ decode cX4_readTown 47 = .ok (.aload_n 0, 1)))) ∧ ((decode cX4_readTown 48 = .ok (.iconst 0, 1) ∧ decode cX4_readTown 49 = .ok (.bipush 100, 2)) ∧ (decode cX4_readTown 51 = .ok (.invokevirtual 96, 3) ∧ (decode cX4_readTown 54 = .ok (.istore_n 2, 1) ∧ decode cX4_readTown 55 = .ok (.aload_n 0, 1))))) ∧ (((decode cX4_readTown 56 = .ok (.getfield 36, 3) ∧ decode cX4_readTown 59 = .ok (.ifCond .ne 19, 3)) ∧ (decode cX4_readTown 62 = .ok (.aload_n 0, 1) ∧ (decode cX4_readTown 63 = .ok (.getfield 12, 3) ∧ decode cX4_readTown 66 = .ok (.iload_n 1, 1)))) ∧ ((decode cX4_readTown 67 = .ok (.putfield 88, 3) ∧ (decode cX4_readTown 70 = .ok (.aload_n 0, 1) ∧ decode cX4_readTown 71 = .ok (.getfield 12, 3))) ∧ (decode cX4_readTown 74 = .ok (.iload_n 2, 1) ∧ (decode cX4_readTown 75 = .ok (.putfield 102, 3) ∧ decode cX4_readTown 78 = .ok (.return_, 1))))))) := ⟨⟨by decide +kernel, by decide +kernel⟩, ⟨by decide +kernel, by decide +kernel⟩⟩
def X4_readTown_b78 (s : St) : Rs :=
  some (0, s)
set_option maxRecDepth 100000 in
set_option maxHeartbeats 4000000 in
theorem X4_readTown_b78_s (G : Gx) (l : Launch) (s : St) : V G l mX4_readTown 78 [] [] s (X4_readTown_b78 s) := by
  unfold X4_readTown_b78
  exact V_vret rfl dec_X4_readTown.2.2.2.2.2.2
def X4_readTown_b22 (s : St) (x0 : Int) : Rs :=
  grd (isK s 14 x0) (bnd (X4_takeToken s x0 1) (fun r1 s2 => grd (isK s2 14 x0) (bnd (X4_takeWord s2 x0 (1000000 + ((1 : Nat) : Int))) (fun r3 s4 => grd (isK s4 14 x0) (bnd (X4_takeWhole s4 x0 2 40) (fun r5 s6 => grd (isK s6 14 x0) (bnd (X4_takeWord s6 x0 (1000000 + ((2 : Nat) : Int))) (fun r7 s8 => grd (isK s8 14 x0) (bnd (X4_takeWhole s8 x0 0 100) (fun r9 s10 => grd (isK s10 14 x0) (if ¬ (gI s10 x0 1) = 0 then (X4_readTown_b78 s10) else (grd (isK s10 14 x0) (grd (isK s10 19 (gR s10 x0 0)) (lets (pI s10 (gR s10 x0 0) 0 r5) (fun s11 => grd (isK s11 14 x0) (grd (isK s11 19 (gR s11 x0 0)) (lets (pI s11 (gR s11 x0 0) 1 r9) (fun s12 => X4_readTown_b78 s12))))))))))))))))))
set_option maxRecDepth 100000 in
set_option maxHeartbeats 4000000 in
theorem X4_readTown_b22_s (G : Gx) (l : Launch) (s : St) (x0 : Int) : V G l mX4_readTown 22 [(0, (2, x0))] [] s (X4_readTown_b22 s x0) := by
  unfold X4_readTown_b22
  refine V_aload_n dec_X4_readTown.1.2.1.1.1 0 rfl ?_
  refine V_iconst dec_X4_readTown.1.2.1.1.2 rfl ?_
  refine V_callV0 (ci := 4) (a := x0) (As := [(0, 1)]) (st := []) rfl rfl (X4_takeToken_s G l s x0 1) cal_X4_takeToken rfl ml_X4_52 rfl rfl dec_X4_readTown.1.2.1.2.1 (k_void rfl fun r1 s2 => ?_)
  refine V_aload_n dec_X4_readTown.1.2.1.2.2.1 0 rfl ?_
  refine V_ldcS 1 _ rfl rfl rfl dec_X4_readTown.1.2.1.2.2.2 ?_
  refine V_callV0 (ci := 4) (a := x0) (As := [(2, (1000000 + ((1 : Nat) : Int)))]) (st := []) rfl rfl (X4_takeWord_s G l s2 x0 (1000000 + ((1 : Nat) : Int))) cal_X4_takeWord rfl ml_X4_92 rfl rfl dec_X4_readTown.1.2.2.1.1 (k_void rfl fun r3 s4 => ?_)
  refine V_aload_n dec_X4_readTown.1.2.2.1.2 0 rfl ?_
  refine V_iconst dec_X4_readTown.1.2.2.2.1 rfl ?_
  refine V_bipush dec_X4_readTown.1.2.2.2.2.1 rfl ?_
  refine V_callV0 (ci := 4) (a := x0) (As := [(0, 2), (0, 40)]) (st := []) rfl rfl (X4_takeWhole_s G l s4 x0 2 40) cal_X4_takeWhole rfl ml_X4_96 rfl rfl dec_X4_readTown.1.2.2.2.2.2 (k_tag (tag := 0) rfl fun r5 s6 => ?_)
  refine V_istore_n (lv' := [(1, (0, r5)), (0, (2, x0))]) dec_X4_readTown.2.1.1.1.1 (by decide) rfl ?_
  refine V_aload_n dec_X4_readTown.2.1.1.1.2 1 rfl ?_
  refine V_ldcS 2 _ rfl rfl rfl dec_X4_readTown.2.1.1.2.1 ?_
  refine V_callV0 (ci := 4) (a := x0) (As := [(2, (1000000 + ((2 : Nat) : Int)))]) (st := []) rfl rfl (X4_takeWord_s G l s6 x0 (1000000 + ((2 : Nat) : Int))) cal_X4_takeWord rfl ml_X4_92 rfl rfl dec_X4_readTown.2.1.1.2.2.1 (k_void rfl fun r7 s8 => ?_)
  refine V_aload_n dec_X4_readTown.2.1.1.2.2.2 1 rfl ?_
  refine V_iconst dec_X4_readTown.2.1.2.1.1 rfl ?_
  refine V_bipush dec_X4_readTown.2.1.2.1.2 rfl ?_
  refine V_callV0 (ci := 4) (a := x0) (As := [(0, 0), (0, 100)]) (st := []) rfl rfl (X4_takeWhole_s G l s8 x0 0 100) cal_X4_takeWhole rfl ml_X4_96 rfl rfl dec_X4_readTown.2.1.2.2.1 (k_tag (tag := 0) rfl fun r9 s10 => ?_)
  refine V_istore_n (lv' := [(2, (0, r9)), (1, (0, r5)), (0, (2, x0))]) dec_X4_readTown.2.1.2.2.2.1 (by decide) rfl ?_
  refine V_aload_n dec_X4_readTown.2.1.2.2.2.2 2 rfl ?_
  refine V_getI 4 1 nf_4_1 ft_4_1 fl_X4_36 dec_X4_readTown.2.2.1.1.1 ?_
  refine V_if_ne (tgt := 78) dec_X4_readTown.2.2.1.1.2 (by decide) ?_ ?_
  · exact V_pick [] rfl (X4_readTown_b78_s G l s10)
  · refine V_aload_n dec_X4_readTown.2.2.1.2.1 2 rfl ?_
    refine V_getR 4 0 nf_4_0 ft_4_0 fl_X4_12 dec_X4_readTown.2.2.1.2.2.1 ?_
    refine V_iload_n dec_X4_readTown.2.2.1.2.2.2 1 rfl ?_
    refine V_putI (host := "") 9 0 nf_9_0 ty_9_0 (Or.inl ⟨fl_X4_88, Or.inl rfl⟩) dec_X4_readTown.2.2.2.1.1 ?_
    refine V_lets fun s11 => ?_
    refine V_aload_n dec_X4_readTown.2.2.2.1.2.1 2 rfl ?_
    refine V_getR 4 0 nf_4_0 ft_4_0 fl_X4_12 dec_X4_readTown.2.2.2.1.2.2 ?_
    refine V_iload_n dec_X4_readTown.2.2.2.2.1 0 rfl ?_
    refine V_putI (host := "") 9 1 nf_9_1 ty_9_1 (Or.inl ⟨fl_X4_102, Or.inl rfl⟩) dec_X4_readTown.2.2.2.2.2.1 ?_
    refine V_lets fun s12 => ?_
    exact V_pick [] rfl (X4_readTown_b78_s G l s12)
def X4_readTown (s : St) (a0 : Int) : Rs :=
  grd (isK s 14 a0) (grd (isK s 19 (gR s a0 0)) (if (gI s (gR s a0 0) 0) = 0 then (X4_readTown_b22 s a0) else (grd (isK s 14 a0) (grd (isK s 18 (gR s a0 3)) (grd (isK s 14 a0) (bnd (X4_fail s a0 3 (gI s (gR s a0 3) 1)) (fun r13 s14 => X4_readTown_b22 s14 a0)))))))
set_option maxRecDepth 100000 in
set_option maxHeartbeats 4000000 in
theorem X4_readTown_s (G : Gx) (l : Launch) (s : St) (a0 : Int) : Snd G l mX4_readTown [(2, a0)] s (X4_readTown s a0) := by
  refine Snd.of (by decide +kernel) rfl ?_
  show V G l mX4_readTown 0 [(0, (2, a0))] [] s _
  unfold X4_readTown
  refine V_aload_n dec_X4_readTown.1.1.1.1.1 0 rfl ?_
  refine V_getR 4 0 nf_4_0 ft_4_0 fl_X4_12 dec_X4_readTown.1.1.1.1.2 ?_
  refine V_getI 9 0 nf_9_0 ft_9_0 fl_X4_88 dec_X4_readTown.1.1.1.2.1 ?_
  refine V_if_eq (tgt := 22) dec_X4_readTown.1.1.1.2.2.1 (by decide) ?_ ?_
  · exact V_pick [0] rfl (X4_readTown_b22_s G l s a0)
  · refine V_aload_n dec_X4_readTown.1.1.1.2.2.2 0 rfl ?_
    refine V_iconst dec_X4_readTown.1.1.2.1.1 rfl ?_
    refine V_aload_n dec_X4_readTown.1.1.2.1.2 0 rfl ?_
    refine V_getR 4 3 nf_4_3 ft_4_3 fl_X4_25 dec_X4_readTown.1.1.2.2.1 ?_
    refine V_getI 8 1 nf_8_1 ft_8_1 fl_X4_59 dec_X4_readTown.1.1.2.2.2.1 ?_
    refine V_callV0 (ci := 4) (a := a0) (As := [(0, 3), (0, (gI s (gR s a0 3) 1))]) (st := []) rfl rfl (X4_fail_s G l s a0 3 (gI s (gR s a0 3) 1)) cal_X4_fail rfl ml_X4_62 rfl rfl dec_X4_readTown.1.1.2.2.2.2 (k_void rfl fun r13 s14 => ?_)
    exact V_pick [0] rfl (X4_readTown_b22_s G l s14 a0)
theorem dec_X9_isUnsure : ((((decode cX9_isUnsure 0 = .ok (.iconst 0, 1) ∧ decode cX9_isUnsure 1 = .ok (.istore_n 2, 1)) ∧ (decode cX9_isUnsure 2 = .ok (.iload_n 2, 1) ∧ decode cX9_isUnsure 3 = .ok (.aload_n 0, 1))) ∧ ((decode cX9_isUnsure 4 = .ok (.getfield 53, 3) ∧ decode cX9_isUnsure 7 = .ok (.if_icmp .ge 21, 3)) ∧ (decode cX9_isUnsure 10 = .ok (.aload_n 0, 1) ∧ (decode cX9_isUnsure 11 = .ok (.getfield 25, 3) ∧ decode cX9_isUnsure 14 = .ok (.iload_n 2, 1))))) ∧ (((decode cX9_isUnsure 15 = .ok (.iaload, 1) ∧ decode cX9_isUnsure 16 = .ok (.iload_n 1, 1)) ∧ (decode cX9_isUnsure 17 = .ok (.if_icmp .ne 5, 3) ∧ decode cX9_isUnsure 20 = .ok (.iconst 1, 1))) ∧ ((decode cX9_isUnsure 21 = .ok (.ireturn, 1) ∧ decode cX9_isUnsure 22 = .ok (.iinc 2 1, 3)) ∧ (decode cX9_isUnsure 25 = .ok (.goto (-23), 3) ∧ (decode cX9_isUnsure 28 = .ok (.iconst 0, 1) ∧ decode cX9_isUnsure 29 = .ok (.ireturn, 1)))))) := ⟨by decide +kernel, by decide +kernel⟩
def X9_isUnsure_b2_body (rk2 : St → Int → Int → Int → Rs) (s : St) (x0 x1 x2 : Int) : Rs :=
  grd (isK s 19 x0) (if (gI s x0 4) ≤ x2 then (grd ((0 : Int) = 0 ∨ (0 : Int) = 1) (some (0, s))) else (grd (isK s 19 x0) (grd (isK s 1 (gR s x0 9) ∧ 0 ≤ x2 ∧ x2 < ln s (gR s x0 9)) (if ¬ (gI s (gR s x0 9) x2.toNat) = x1 then (rk2 s x0 x1 (w32 (x2 + 1))) else (grd ((1 : Int) = 0 ∨ (1 : Int) = 1) (some (1, s)))))))
def X9_isUnsure_b2 (n : Nat) (s : St) (x0 x1 x2 : Int) : Rs := iter (fun (rec : St × Int × Int × Int → Rs) (a : St × Int × Int × Int) => X9_isUnsure_b2_body (fun (s : St) (x0 x1 x2 : Int) => rec (s, x0, x1, x2)) a.1 a.2.1 a.2.2.1 a.2.2.2) n (s, x0, x1, x2)
theorem X9_isUnsure_b2_0 (s : St) (x0 x1 x2 : Int) : X9_isUnsure_b2 0 s x0 x1 x2 = none := rfl
theorem X9_isUnsure_b2_1 (n : Nat) (s : St) (x0 x1 x2 : Int) : X9_isUnsure_b2 (n + 1) s x0 x1 x2 = X9_isUnsure_b2_body (X9_isUnsure_b2 n) s x0 x1 x2 := rfl
set_option maxRecDepth 100000 in
set_option maxHeartbeats 4000000 in
theorem X9_isUnsure_b2_body_s (G : Gx) (l : Launch) (rk2 : St → Int → Int → Int → Rs) (hk2 : ∀ (s : St) (x0 x1 x2 : Int), V G l mX9_isUnsure 2 [(0, (2, x0)), (1, (0, x1)), (2, (0, x2))] [] s (rk2 s x0 x1 x2)) (s : St) (x0 x1 x2 : Int) : V G l mX9_isUnsure 2 [(0, (2, x0)), (1, (0, x1)), (2, (0, x2))] [] s (X9_isUnsure_b2_body rk2 s x0 x1 x2) := by
  unfold X9_isUnsure_b2_body
  refine V_iload_n dec_X9_isUnsure.1.1.2.1 2 rfl ?_
  refine V_aload_n dec_X9_isUnsure.1.1.2.2 0 rfl ?_
  refine V_getI 9 4 nf_9_4 ft_9_4 fl_X9_53 dec_X9_isUnsure.1.2.1.1 ?_
  refine V_icmp_ge (tgt := 28) dec_X9_isUnsure.1.2.1.2 (by decide) ?_ ?_
  · refine V_iconst dec_X9_isUnsure.2.2.2.2.1 rfl ?_
    exact V_zret rfl dec_X9_isUnsure.2.2.2.2.2
  · refine V_aload_n dec_X9_isUnsure.1.2.2.1 0 rfl ?_
    refine V_getR 9 9 nf_9_9 ft_9_9 fl_X9_25 dec_X9_isUnsure.1.2.2.2.1 ?_
    refine V_iload_n dec_X9_isUnsure.1.2.2.2.2 2 rfl ?_
    refine V_iald dec_X9_isUnsure.2.1.1.1 ?_
    refine V_iload_n dec_X9_isUnsure.2.1.1.2 1 rfl ?_
    refine V_icmp_ne (tgt := 22) dec_X9_isUnsure.2.1.2.1 (by decide) ?_ ?_
    · refine V_iinc (lv' := [(2, (0, (w32 (x2 + 1)))), (0, (2, x0)), (1, (0, x1))]) dec_X9_isUnsure.2.2.1.2 2 rfl (by decide) rfl ?_
      refine V_goto (tgt := 2) dec_X9_isUnsure.2.2.2.1 (by decide) ?_
      exact V_pick [1, 2, 0] rfl (hk2 s x0 x1 (w32 (x2 + 1)))
    · refine V_iconst dec_X9_isUnsure.2.1.2.2 rfl ?_
      exact V_zret rfl dec_X9_isUnsure.2.2.1.1
theorem X9_isUnsure_b2_s (G : Gx) (l : Launch) (n : Nat) (s : St) (x0 x1 x2 : Int) : V G l mX9_isUnsure 2 [(0, (2, x0)), (1, (0, x1)), (2, (0, x2))] [] s (X9_isUnsure_b2 n s x0 x1 x2) :=
  V_iter (LV := fun a : St × Int × Int × Int => [(0, (2, a.2.1)), (1, (0, a.2.2.1)), (2, (0, a.2.2.2))]) (ST := fun a : St × Int × Int × Int => []) (SS := fun a : St × Int × Int × Int => a.1) (fun rec hrec a => X9_isUnsure_b2_body_s G l (fun (s : St) (x0 x1 x2 : Int) => rec (s, x0, x1, x2)) (fun (s : St) (x0 x1 x2 : Int) => hrec (s, x0, x1, x2)) a.1 a.2.1 a.2.2.1 a.2.2.2) n (s, x0, x1, x2)
def X9_isUnsure (s : St) (a0 a1 : Int) : Rs :=
  X9_isUnsure_b2 FU s a0 a1 0
set_option maxRecDepth 100000 in
set_option maxHeartbeats 4000000 in
theorem X9_isUnsure_s (G : Gx) (l : Launch) (s : St) (a0 a1 : Int) : Snd G l mX9_isUnsure [(2, a0), (0, a1)] s (X9_isUnsure s a0 a1) := by
  refine Snd.of (by decide +kernel) rfl ?_
  show V G l mX9_isUnsure 0 [(0, (2, a0)), (1, (0, a1))] [] s _
  unfold X9_isUnsure
  refine V_iconst dec_X9_isUnsure.1.1.1.1 rfl ?_
  refine V_istore_n (lv' := [(2, (0, 0)), (0, (2, a0)), (1, (0, a1))]) dec_X9_isUnsure.1.1.1.2 (by decide) rfl ?_
  exact V_pick [1, 2, 0] rfl (X9_isUnsure_b2_s G l FU s a0 a1 0)
theorem dec_X4_readUnsure : (((((decode cX4_readUnsure 0 = .ok (.aload_n 0, 1) ∧ (decode cX4_readUnsure 1 = .ok (.aload_n 0, 1) ∧ decode cX4_readUnsure 2 = .ok (.getfield 12, 3))) ∧ ((decode cX4_readUnsure 5 = .ok (.getfield 155, 3) ∧ decode cX4_readUnsure 8 = .ok (.iconst 4, 1)) ∧ (decode cX4_readUnsure 9 = .ok (.if_icmp .lt 7, 3) ∧ decode cX4_readUnsure 12 = .ok (.iconst 1, 1)))) ∧ (((decode cX4_readUnsure 13 = .ok (.goto 4, 3) ∧ decode cX4_readUnsure 16 = .ok (.iconst 0, 1)) ∧ (decode cX4_readUnsure 17 = .ok (.invokevirtual 104, 3) ∧ decode cX4_readUnsure 20 = .ok (.aload_n 0, 1))) ∧ ((decode cX4_readUnsure 21 = .ok (.aload_n 0, 1) ∧ decode cX4_readUnsure 22 = .ok (.getfield 33, 3)) ∧ (decode cX4_readUnsure 25 = .ok (.aload_n 0, 1) ∧ decode cX4_readUnsure 26 = .ok (.getfield 12, 3))))) ∧ ((((decode cX4_readUnsure 29 = .ok (.getfield 130, 3) ∧ decode cX4_readUnsure 32 = .ok (.invokevirtual 140, 3)) ∧ (decode cX4_readUnsure 35 = .ok (.istore_n 1, 1) ∧ decode cX4_readUnsure 36 = .ok (.aload_n 0, 1))) ∧ ((decode cX4_readUnsure 37 = .ok (.getfield 36, 3) ∧ decode cX4_readUnsure 40 = .ok (.ifCond .ne 23, 3)) ∧ (decode cX4_readUnsure 43 = .ok (.aload_n 0, 1) ∧ decode cX4_readUnsure 44 = .ok (.getfield 12, 3)))) ∧ (((decode cX4_readUnsure 47 = .ok (.iload_n 1, 1) ∧ decode cX4_readUnsure 48 = .ok (.invokevirtual 158, 3)) ∧ (decode cX4_readUnsure 51 = .ok (.ifCond .eq 12, 3) ∧ decode cX4_readUnsure 54 = .ok (.aload_n 0, 1))) ∧ ((decode cX4_readUnsure 55 = .ok (.iconst 3, 1) ∧ decode cX4_readUnsure 56 = .ok (.aload_n 0, 1)) ∧ (decode cX4_readUnsure 57 = .ok (.getfield 117, 3) ∧ decode cX4_readUnsure 60 = .ok (.invokevirtual 62, 3)))))) ∧ (((((decode cX4_readUnsure 63 = .ok (.aload_n 0, 1) ∧ decode cX4_readUnsure 64 = .ok (.iconst 0, 1)) ∧ (decode cX4_readUnsure 65 = .ok (.bipush 39, 2) ∧ decode cX4_readUnsure 67 = .ok (.invokevirtual 96, 3))) ∧ ((decode cX4_readUnsure 70 = .ok (.istore_n 2, 1) ∧ decode cX4_readUnsure 71 = .ok (.aload_n 0, 1)) ∧ (decode cX4_readUnsure 72 = .ok (.getfield 36, 3) ∧ decode cX4_readUnsure 75 = .ok (.ifCond .ne 48, 3)))) ∧ (((decode cX4_readUnsure 78 = .ok (.aload_n 0, 1) ∧ decode cX4_readUnsure 79 = .ok (.getfield 12, 3)) ∧ (decode cX4_readUnsure 82 = .ok (.getfield 161, 3) ∧ decode cX4_readUnsure 85 = .ok (.aload_n 0, 1))) ∧ ((decode cX4_readUnsure 86 = .ok (.getfield 12, 3) ∧ decode cX4_readUnsure 89 = .ok (.getfield 155, 3)) ∧ (decode cX4_readUnsure 92 = .ok (.iload_n 1, 1) ∧ decode cX4_readUnsure 93 = .ok (.iastore, 1))))) ∧ ((((decode cX4_readUnsure 94 = .ok (.aload_n 0, 1) ∧ decode cX4_readUnsure 95 = .ok (.getfield 12, 3)) ∧ (decode cX4_readUnsure 98 = .ok (.getfield 164, 3) ∧ decode cX4_readUnsure 101 = .ok (.aload_n 0, 1))) ∧ ((decode cX4_readUnsure 102 = .ok (.getfield 12, 3) ∧ decode cX4_readUnsure 105 = .ok (.getfield 155, 3)) ∧ (decode cX4_readUnsure 108 = .ok (.iload_n 2, 1) ∧ decode cX4_readUnsure 109 = .ok (.iastore, 1)))) ∧ (((decode cX4_readUnsure 110 = .ok (.aload_n 0, 1) ∧ decode cX4_readUnsure 111 = .ok (.getfield 12, 3)) ∧ (decode cX4_readUnsure 114 = .ok (.dup, 1) ∧ decode cX4_readUnsure 115 = .ok (.getfield 155, 3))) ∧ ((decode cX4_readUnsure 118 = .ok (.iconst 1, 1) ∧ decode cX4_readUnsure 119 = .ok (.iadd, 1)) ∧ (decode cX4_readUnsure 120 = .ok (.putfield 155, 3) ∧ decode cX4_readUnsure 123 = .ok (.return_, 1))))))) := ⟨⟨⟨by decide +kernel, by decide +kernel⟩, ⟨by decide +kernel, by decide +kernel⟩⟩, ⟨⟨by decide +kernel, by decide +kernel⟩, ⟨by decide +kernel, by decide +kernel⟩⟩⟩
def X4_readUnsure_b123 (s : St) : Rs :=
  some (0, s)
set_option maxRecDepth 100000 in
set_option maxHeartbeats 4000000 in
theorem X4_readUnsure_b123_s (G : Gx) (l : Launch) (s : St) : V G l mX4_readUnsure 123 [] [] s (X4_readUnsure_b123 s) := by
  unfold X4_readUnsure_b123
  exact V_vret rfl dec_X4_readUnsure.2.2.2.2.2.2
def X4_readUnsure_b63 (s : St) (x0 x1 : Int) : Rs :=
  grd (isK s 14 x0) (bnd (X4_takeWhole s x0 0 39) (fun r5 s6 => grd (isK s6 14 x0) (if ¬ (gI s6 x0 1) = 0 then (X4_readUnsure_b123 s6) else (grd (isK s6 14 x0) (grd (isK s6 19 (gR s6 x0 0)) (grd (isK s6 14 x0) (grd (isK s6 19 (gR s6 x0 0)) (grd (isK s6 1 (gR s6 (gR s6 x0 0) 9) ∧ 0 ≤ (gI s6 (gR s6 x0 0) 4) ∧ (gI s6 (gR s6 x0 0) 4) < ln s6 (gR s6 (gR s6 x0 0) 9)) (lets (pI s6 (gR s6 (gR s6 x0 0) 9) (gI s6 (gR s6 x0 0) 4).toNat x1) (fun s7 => grd (isK s7 14 x0) (grd (isK s7 19 (gR s7 x0 0)) (grd (isK s7 14 x0) (grd (isK s7 19 (gR s7 x0 0)) (grd (isK s7 1 (gR s7 (gR s7 x0 0) 10) ∧ 0 ≤ (gI s7 (gR s7 x0 0) 4) ∧ (gI s7 (gR s7 x0 0) 4) < ln s7 (gR s7 (gR s7 x0 0) 10)) (lets (pI s7 (gR s7 (gR s7 x0 0) 10) (gI s7 (gR s7 x0 0) 4).toNat r5) (fun s8 => grd (isK s8 14 x0) (grd (isK s8 19 (gR s8 x0 0)) (grd (isK s8 19 (gR s8 x0 0)) (lets (pI s8 (gR s8 x0 0) 4 (w32 ((gI s8 (gR s8 x0 0) 4) + 1))) (fun s9 => X4_readUnsure_b123 s9))))))))))))))))))))
set_option maxRecDepth 100000 in
set_option maxHeartbeats 4000000 in
theorem X4_readUnsure_b63_s (G : Gx) (l : Launch) (s : St) (x0 x1 : Int) : V G l mX4_readUnsure 63 [(0, (2, x0)), (1, (0, x1))] [] s (X4_readUnsure_b63 s x0 x1) := by
  unfold X4_readUnsure_b63
  refine V_aload_n dec_X4_readUnsure.2.1.1.1.1.1 0 rfl ?_
  refine V_iconst dec_X4_readUnsure.2.1.1.1.1.2 rfl ?_
  refine V_bipush dec_X4_readUnsure.2.1.1.1.2.1 rfl ?_
  refine V_callV0 (ci := 4) (a := x0) (As := [(0, 0), (0, 39)]) (st := []) rfl rfl (X4_takeWhole_s G l s x0 0 39) cal_X4_takeWhole rfl ml_X4_96 rfl rfl dec_X4_readUnsure.2.1.1.1.2.2 (k_tag (tag := 0) rfl fun r5 s6 => ?_)
  refine V_istore_n (lv' := [(2, (0, r5)), (0, (2, x0)), (1, (0, x1))]) dec_X4_readUnsure.2.1.1.2.1.1 (by decide) rfl ?_
  refine V_aload_n dec_X4_readUnsure.2.1.1.2.1.2 1 rfl ?_
  refine V_getI 4 1 nf_4_1 ft_4_1 fl_X4_36 dec_X4_readUnsure.2.1.1.2.2.1 ?_
  refine V_if_ne (tgt := 123) dec_X4_readUnsure.2.1.1.2.2.2 (by decide) ?_ ?_
  · exact V_pick [] rfl (X4_readUnsure_b123_s G l s6)
  · refine V_aload_n dec_X4_readUnsure.2.1.2.1.1.1 1 rfl ?_
    refine V_getR 4 0 nf_4_0 ft_4_0 fl_X4_12 dec_X4_readUnsure.2.1.2.1.1.2 ?_
    refine V_getR 9 9 nf_9_9 ft_9_9 fl_X4_161 dec_X4_readUnsure.2.1.2.1.2.1 ?_
    refine V_aload_n dec_X4_readUnsure.2.1.2.1.2.2 1 rfl ?_
    refine V_getR 4 0 nf_4_0 ft_4_0 fl_X4_12 dec_X4_readUnsure.2.1.2.2.1.1 ?_
    refine V_getI 9 4 nf_9_4 ft_9_4 fl_X4_155 dec_X4_readUnsure.2.1.2.2.1.2 ?_
    refine V_iload_n dec_X4_readUnsure.2.1.2.2.2.1 2 rfl ?_
    refine V_iast dec_X4_readUnsure.2.1.2.2.2.2 ?_
    refine V_lets fun s7 => ?_
    refine V_aload_n dec_X4_readUnsure.2.2.1.1.1.1 1 rfl ?_
    refine V_getR 4 0 nf_4_0 ft_4_0 fl_X4_12 dec_X4_readUnsure.2.2.1.1.1.2 ?_
    refine V_getR 9 10 nf_9_10 ft_9_10 fl_X4_164 dec_X4_readUnsure.2.2.1.1.2.1 ?_
    refine V_aload_n dec_X4_readUnsure.2.2.1.1.2.2 1 rfl ?_
    refine V_getR 4 0 nf_4_0 ft_4_0 fl_X4_12 dec_X4_readUnsure.2.2.1.2.1.1 ?_
    refine V_getI 9 4 nf_9_4 ft_9_4 fl_X4_155 dec_X4_readUnsure.2.2.1.2.1.2 ?_
    refine V_iload_n dec_X4_readUnsure.2.2.1.2.2.1 0 rfl ?_
    refine V_iast dec_X4_readUnsure.2.2.1.2.2.2 ?_
    refine V_lets fun s8 => ?_
    refine V_aload_n dec_X4_readUnsure.2.2.2.1.1.1 1 rfl ?_
    refine V_getR 4 0 nf_4_0 ft_4_0 fl_X4_12 dec_X4_readUnsure.2.2.2.1.1.2 ?_
    refine V_dup (nl2 _) dec_X4_readUnsure.2.2.2.1.2.1 ?_
    refine V_getI 9 4 nf_9_4 ft_9_4 fl_X4_155 dec_X4_readUnsure.2.2.2.1.2.2 ?_
    refine V_iconst dec_X4_readUnsure.2.2.2.2.1.1 rfl ?_
    refine V_iadd dec_X4_readUnsure.2.2.2.2.1.2 ?_
    refine V_putI (host := "") 9 4 nf_9_4 ty_9_4 (Or.inl ⟨fl_X4_155, Or.inl rfl⟩) dec_X4_readUnsure.2.2.2.2.2.1 ?_
    refine V_lets fun s9 => ?_
    exact V_pick [] rfl (X4_readUnsure_b123_s G l s9)
def X4_readUnsure_b17 (s : St) (x0 k0 k1 : Int) : Rs :=
  grd (isK s 14 k1) (bnd (X4_beginLine s k1 k0) (fun r1 s2 => grd (isK s2 14 x0) (grd (isK s2 14 x0) (grd (isK s2 19 (gR s2 x0 0)) (grd (isK s2 14 x0) (bnd (X4_takeTold s2 x0 (gR s2 x0 5) (gI s2 (gR s2 x0 0) 3)) (fun r3 s4 => grd (isK s4 14 x0) (if ¬ (gI s4 x0 1) = 0 then (X4_readUnsure_b63 s4 x0 r3) else (grd (isK s4 14 x0) (grd (isK s4 19 (gR s4 x0 0)) (bnd (X9_isUnsure s4 (gR s4 x0 0) r3) (fun r10 s11 => if r10 = 0 then (X4_readUnsure_b63 s11 x0 r3) else (grd (isK s11 14 x0) (grd (isK s11 14 x0) (bnd (X4_fail s11 x0 3 (gI s11 x0 6)) (fun r12 s13 => X4_readUnsure_b63 s13 x0 r3))))))))))))))))
set_option maxRecDepth 100000 in
set_option maxHeartbeats 4000000 in
theorem X4_readUnsure_b17_s (G : Gx) (l : Launch) (s : St) (x0 k0 k1 : Int) : V G l mX4_readUnsure 17 [(0, (2, x0))] [(0, k0), (2, k1)] s (X4_readUnsure_b17 s x0 k0 k1) := by
  unfold X4_readUnsure_b17
  refine V_callV0 (ci := 4) (a := k1) (As := [(0, k0)]) (st := []) rfl rfl (X4_beginLine_s G l s k1 k0) cal_X4_beginLine rfl ml_X4_104 rfl rfl dec_X4_readUnsure.1.1.2.1.2.1 (k_void rfl fun r1 s2 => ?_)
  refine V_aload_n dec_X4_readUnsure.1.1.2.1.2.2 0 rfl ?_
  refine V_aload_n dec_X4_readUnsure.1.1.2.2.1.1 0 rfl ?_
  refine V_getR 4 5 nf_4_5 ft_4_5 fl_X4_33 dec_X4_readUnsure.1.1.2.2.1.2 ?_
  refine V_aload_n dec_X4_readUnsure.1.1.2.2.2.1 0 rfl ?_
  refine V_getR 4 0 nf_4_0 ft_4_0 fl_X4_12 dec_X4_readUnsure.1.1.2.2.2.2 ?_
  refine V_getI 9 3 nf_9_3 ft_9_3 fl_X4_130 dec_X4_readUnsure.1.2.1.1.1.1 ?_
  refine V_callV0 (ci := 4) (a := x0) (As := [(2, (gR s2 x0 5)), (0, (gI s2 (gR s2 x0 0) 3))]) (st := []) rfl rfl (X4_takeTold_s G l s2 x0 (gR s2 x0 5) (gI s2 (gR s2 x0 0) 3)) cal_X4_takeTold rfl ml_X4_140 rfl rfl dec_X4_readUnsure.1.2.1.1.1.2 (k_tag (tag := 0) rfl fun r3 s4 => ?_)
  refine V_istore_n (lv' := [(1, (0, r3)), (0, (2, x0))]) dec_X4_readUnsure.1.2.1.1.2.1 (by decide) rfl ?_
  refine V_aload_n dec_X4_readUnsure.1.2.1.1.2.2 1 rfl ?_
  refine V_getI 4 1 nf_4_1 ft_4_1 fl_X4_36 dec_X4_readUnsure.1.2.1.2.1.1 ?_
  refine V_if_ne (tgt := 63) dec_X4_readUnsure.1.2.1.2.1.2 (by decide) ?_ ?_
  · exact V_pick [1, 0] rfl (X4_readUnsure_b63_s G l s4 x0 r3)
  · refine V_aload_n dec_X4_readUnsure.1.2.1.2.2.1 1 rfl ?_
    refine V_getR 4 0 nf_4_0 ft_4_0 fl_X4_12 dec_X4_readUnsure.1.2.1.2.2.2 ?_
    refine V_iload_n dec_X4_readUnsure.1.2.2.1.1.1 0 rfl ?_
    refine V_callV0 (ci := 9) (a := (gR s4 x0 0)) (As := [(0, r3)]) (st := []) rfl rfl (X9_isUnsure_s G l s4 (gR s4 x0 0) r3) cal_X9_isUnsure rfl ml_X4_158 rfl rfl dec_X4_readUnsure.1.2.2.1.1.2 (k_tag (tag := 0) rfl fun r10 s11 => ?_)
    refine V_if_eq (tgt := 63) dec_X4_readUnsure.1.2.2.1.2.1 (by decide) ?_ ?_
    · exact V_pick [1, 0] rfl (X4_readUnsure_b63_s G l s11 x0 r3)
    · refine V_aload_n dec_X4_readUnsure.1.2.2.1.2.2 1 rfl ?_
      refine V_iconst dec_X4_readUnsure.1.2.2.2.1.1 rfl ?_
      refine V_aload_n dec_X4_readUnsure.1.2.2.2.1.2 1 rfl ?_
      refine V_getI 4 6 nf_4_6 ft_4_6 fl_X4_117 dec_X4_readUnsure.1.2.2.2.2.1 ?_
      refine V_callV0 (ci := 4) (a := x0) (As := [(0, 3), (0, (gI s11 x0 6))]) (st := []) rfl rfl (X4_fail_s G l s11 x0 3 (gI s11 x0 6)) cal_X4_fail rfl ml_X4_62 rfl rfl dec_X4_readUnsure.1.2.2.2.2.2 (k_void rfl fun r12 s13 => ?_)
      exact V_pick [1, 0] rfl (X4_readUnsure_b63_s G l s13 x0 r3)
def X4_readUnsure (s : St) (a0 : Int) : Rs :=
  grd (isK s 14 a0) (grd (isK s 19 (gR s a0 0)) (if (gI s (gR s a0 0) 4) < (4 : Int) then (X4_readUnsure_b17 s a0 0 a0) else (X4_readUnsure_b17 s a0 1 a0)))
set_option maxRecDepth 100000 in
set_option maxHeartbeats 4000000 in
theorem X4_readUnsure_s (G : Gx) (l : Launch) (s : St) (a0 : Int) : Snd G l mX4_readUnsure [(2, a0)] s (X4_readUnsure s a0) := by
  refine Snd.of (by decide +kernel) rfl ?_
  show V G l mX4_readUnsure 0 [(0, (2, a0))] [] s _
  unfold X4_readUnsure
  refine V_aload_n dec_X4_readUnsure.1.1.1.1.1 0 rfl ?_
  refine V_aload_n dec_X4_readUnsure.1.1.1.1.2.1 0 rfl ?_
  refine V_getR 4 0 nf_4_0 ft_4_0 fl_X4_12 dec_X4_readUnsure.1.1.1.1.2.2 ?_
  refine V_getI 9 4 nf_9_4 ft_9_4 fl_X4_155 dec_X4_readUnsure.1.1.1.2.1.1 ?_
  refine V_iconst dec_X4_readUnsure.1.1.1.2.1.2 rfl ?_
  refine V_icmp_lt (tgt := 16) dec_X4_readUnsure.1.1.1.2.2.1 (by decide) ?_ ?_
  · refine V_iconst dec_X4_readUnsure.1.1.2.1.1.2 rfl ?_
    exact V_pick [0] rfl (X4_readUnsure_b17_s G l s a0 0 a0)
  · refine V_iconst dec_X4_readUnsure.1.1.1.2.2.2 rfl ?_
    refine V_goto (tgt := 17) dec_X4_readUnsure.1.1.2.1.1.1 (by decide) ?_
    exact V_pick [0] rfl (X4_readUnsure_b17_s G l s a0 1 a0)
theorem dec_X4_readLine : ((((decode cX4_readLine 0 = .ok (.aload_n 0, 1) ∧ (decode cX4_readLine 1 = .ok (.invokevirtual 66, 3) ∧ decode cX4_readLine 4 = .ok (.tableswitch 82 0 5 #[40, 47, 54, 61, 68, 75], 40))) ∧ ((decode cX4_readLine 44 = .ok (.aload_n 0, 1) ∧ decode cX4_readLine 45 = .ok (.invokevirtual 70, 3)) ∧ (decode cX4_readLine 48 = .ok (.goto 50, 3) ∧ decode cX4_readLine 51 = .ok (.aload_n 0, 1)))) ∧ ((decode cX4_readLine 52 = .ok (.invokevirtual 73, 3) ∧ (decode cX4_readLine 55 = .ok (.goto 43, 3) ∧ decode cX4_readLine 58 = .ok (.aload_n 0, 1))) ∧ ((decode cX4_readLine 59 = .ok (.invokevirtual 76, 3) ∧ decode cX4_readLine 62 = .ok (.goto 36, 3)) ∧ (decode cX4_readLine 65 = .ok (.aload_n 0, 1) ∧ decode cX4_readLine 66 = .ok (.invokevirtual 79, 3))))) ∧ (((decode cX4_readLine 69 = .ok (.goto 29, 3) ∧ (decode cX4_readLine 72 = .ok (.aload_n 0, 1) ∧ decode cX4_readLine 73 = .ok (.invokevirtual 82, 3))) ∧ ((decode cX4_readLine 76 = .ok (.goto 22, 3) ∧ decode cX4_readLine 79 = .ok (.aload_n 0, 1)) ∧ (decode cX4_readLine 80 = .ok (.invokevirtual 85, 3) ∧ decode cX4_readLine 83 = .ok (.goto 15, 3)))) ∧ ((decode cX4_readLine 86 = .ok (.aload_n 0, 1) ∧ (decode cX4_readLine 87 = .ok (.iconst 1, 1) ∧ decode cX4_readLine 88 = .ok (.aload_n 0, 1))) ∧ ((decode cX4_readLine 89 = .ok (.getfield 25, 3) ∧ decode cX4_readLine 92 = .ok (.getfield 59, 3)) ∧ (decode cX4_readLine 95 = .ok (.invokevirtual 62, 3) ∧ decode cX4_readLine 98 = .ok (.return_, 1)))))) := ⟨⟨by decide +kernel, by decide +kernel⟩, ⟨by decide +kernel, by decide +kernel⟩⟩
def X4_readLine_b98 (s : St) : Rs :=
  some (0, s)
set_option maxRecDepth 100000 in
set_option maxHeartbeats 4000000 in
theorem X4_readLine_b98_s (G : Gx) (l : Launch) (s : St) : V G l mX4_readLine 98 [] [] s (X4_readLine_b98 s) := by
  unfold X4_readLine_b98
  exact V_vret rfl dec_X4_readLine.2.2.2.2.2
def X4_readLine (s : St) (a0 : Int) : Rs :=
  grd (isK s 14 a0) (bnd (X4_lineSort s a0) (fun r1 s2 => swt r1 0 [grd (isK s2 14 a0) (bnd (X4_readTown s2 a0) (fun r3 s4 => X4_readLine_b98 s4)), grd (isK s2 14 a0) (bnd (X4_readPerson s2 a0) (fun r5 s6 => X4_readLine_b98 s6)), grd (isK s2 14 a0) (bnd (X4_readDead s2 a0) (fun r7 s8 => X4_readLine_b98 s8)), grd (isK s2 14 a0) (bnd (X4_readMirror s2 a0) (fun r9 s10 => X4_readLine_b98 s10)), grd (isK s2 14 a0) (bnd (X4_readUnsure s2 a0) (fun r11 s12 => X4_readLine_b98 s12)), grd (isK s2 14 a0) (bnd (X4_readHeard s2 a0) (fun r13 s14 => X4_readLine_b98 s14))] (grd (isK s2 14 a0) (grd (isK s2 18 (gR s2 a0 3)) (grd (isK s2 14 a0) (bnd (X4_fail s2 a0 1 (gI s2 (gR s2 a0 3) 1)) (fun r15 s16 => X4_readLine_b98 s16)))))))
set_option maxRecDepth 100000 in
set_option maxHeartbeats 4000000 in
theorem X4_readLine_s (G : Gx) (l : Launch) (s : St) (a0 : Int) : Snd G l mX4_readLine [(2, a0)] s (X4_readLine s a0) := by
  refine Snd.of (by decide +kernel) rfl ?_
  show V G l mX4_readLine 0 [(0, (2, a0))] [] s _
  unfold X4_readLine
  refine V_aload_n dec_X4_readLine.1.1.1.1 0 rfl ?_
  refine V_callV0 (ci := 4) (a := a0) (As := []) (st := []) rfl rfl (X4_lineSort_s G l s a0) cal_X4_lineSort rfl ml_X4_66 rfl rfl dec_X4_readLine.1.1.1.2.1 (k_tag (tag := 0) rfl fun r1 s2 => ?_)
  refine V_tsw (ts := [44, 51, 58, 65, 72, 79]) (td := 86) dec_X4_readLine.1.1.1.2.2 (by decide) (by decide) (by decide) ⟨?_, ?_, ?_, ?_, ?_, ?_, trivial⟩ ?_
  · refine V_aload_n dec_X4_readLine.1.1.2.1.1 0 rfl ?_
    refine V_callV0 (ci := 4) (a := a0) (As := []) (st := []) rfl rfl (X4_readTown_s G l s2 a0) cal_X4_readTown rfl ml_X4_70 rfl rfl dec_X4_readLine.1.1.2.1.2 (k_void rfl fun r3 s4 => ?_)
    refine V_goto (tgt := 98) dec_X4_readLine.1.1.2.2.1 (by decide) ?_
    exact V_pick [] rfl (X4_readLine_b98_s G l s4)
  · refine V_aload_n dec_X4_readLine.1.1.2.2.2 0 rfl ?_
    refine V_callV0 (ci := 4) (a := a0) (As := []) (st := []) rfl rfl (X4_readPerson_s G l s2 a0) cal_X4_readPerson rfl ml_X4_73 rfl rfl dec_X4_readLine.1.2.1.1 (k_void rfl fun r5 s6 => ?_)
    refine V_goto (tgt := 98) dec_X4_readLine.1.2.1.2.1 (by decide) ?_
    exact V_pick [] rfl (X4_readLine_b98_s G l s6)
  · refine V_aload_n dec_X4_readLine.1.2.1.2.2 0 rfl ?_
    refine V_callV0 (ci := 4) (a := a0) (As := []) (st := []) rfl rfl (X4_readDead_s G l s2 a0) cal_X4_readDead rfl ml_X4_76 rfl rfl dec_X4_readLine.1.2.2.1.1 (k_void rfl fun r7 s8 => ?_)
    refine V_goto (tgt := 98) dec_X4_readLine.1.2.2.1.2 (by decide) ?_
    exact V_pick [] rfl (X4_readLine_b98_s G l s8)
  · refine V_aload_n dec_X4_readLine.1.2.2.2.1 0 rfl ?_
    refine V_callV0 (ci := 4) (a := a0) (As := []) (st := []) rfl rfl (X4_readMirror_s G l s2 a0) cal_X4_readMirror rfl ml_X4_79 rfl rfl dec_X4_readLine.1.2.2.2.2 (k_void rfl fun r9 s10 => ?_)
    refine V_goto (tgt := 98) dec_X4_readLine.2.1.1.1 (by decide) ?_
    exact V_pick [] rfl (X4_readLine_b98_s G l s10)
  · refine V_aload_n dec_X4_readLine.2.1.1.2.1 0 rfl ?_
    refine V_callV0 (ci := 4) (a := a0) (As := []) (st := []) rfl rfl (X4_readUnsure_s G l s2 a0) cal_X4_readUnsure rfl ml_X4_82 rfl rfl dec_X4_readLine.2.1.1.2.2 (k_void rfl fun r11 s12 => ?_)
    refine V_goto (tgt := 98) dec_X4_readLine.2.1.2.1.1 (by decide) ?_
    exact V_pick [] rfl (X4_readLine_b98_s G l s12)
  · refine V_aload_n dec_X4_readLine.2.1.2.1.2 0 rfl ?_
    refine V_callV0 (ci := 4) (a := a0) (As := []) (st := []) rfl rfl (X4_readHeard_s G l s2 a0) cal_X4_readHeard rfl ml_X4_85 rfl rfl dec_X4_readLine.2.1.2.2.1 (k_void rfl fun r13 s14 => ?_)
    refine V_goto (tgt := 98) dec_X4_readLine.2.1.2.2.2 (by decide) ?_
    exact V_pick [] rfl (X4_readLine_b98_s G l s14)
  · refine V_aload_n dec_X4_readLine.2.2.1.1 0 rfl ?_
    refine V_iconst dec_X4_readLine.2.2.1.2.1 rfl ?_
    refine V_aload_n dec_X4_readLine.2.2.1.2.2 0 rfl ?_
    refine V_getR 4 3 nf_4_3 ft_4_3 fl_X4_25 dec_X4_readLine.2.2.2.1.1 ?_
    refine V_getI 8 1 nf_8_1 ft_8_1 fl_X4_59 dec_X4_readLine.2.2.2.1.2 ?_
    refine V_callV0 (ci := 4) (a := a0) (As := [(0, 1), (0, (gI s2 (gR s2 a0 3) 1))]) (st := []) rfl rfl (X4_fail_s G l s2 a0 1 (gI s2 (gR s2 a0 3) 1)) cal_X4_fail rfl ml_X4_62 rfl rfl dec_X4_readLine.2.2.2.2.1 (k_void rfl fun r15 s16 => ?_)
    exact V_pick [] rfl (X4_readLine_b98_s G l s16)
theorem dec_X8_begin : (((decode cX8_begin 0 = .ok (.aload_n 0, 1) ∧ (decode cX8_begin 1 = .ok (.aload_n 1, 1) ∧ decode cX8_begin 2 = .ok (.putfield 7, 3))) ∧ ((decode cX8_begin 5 = .ok (.aload_n 0, 1) ∧ decode cX8_begin 6 = .ok (.iload_n 2, 1)) ∧ (decode cX8_begin 7 = .ok (.aload_n 1, 1) ∧ decode cX8_begin 8 = .ok (.arraylength, 1)))) ∧ (((decode cX8_begin 9 = .ok (.invokestatic 13, 3) ∧ decode cX8_begin 12 = .ok (.putfield 19, 3)) ∧ (decode cX8_begin 15 = .ok (.aload_n 0, 1) ∧ decode cX8_begin 16 = .ok (.iconst 0, 1))) ∧ ((decode cX8_begin 17 = .ok (.putfield 23, 3) ∧ decode cX8_begin 20 = .ok (.aload_n 0, 1)) ∧ (decode cX8_begin 21 = .ok (.invokevirtual 26, 3) ∧ decode cX8_begin 24 = .ok (.return_, 1))))) := ⟨by decide +kernel, by decide +kernel⟩
def X8_begin (s : St) (a0 a1 a2 : Int) : Rs :=
  grd (isK s 18 a0) (lets (pR s a0 3 a1) (fun s1 => grd (isK s1 2 a1) (bnd (JM_min s1 a2 (ln s1 a1)) (fun r2 s3 => grd (isK s3 18 a0) (lets (pI s3 a0 4 r2) (fun s4 => grd (isK s4 18 a0) (lets (pI s4 a0 5 0) (fun s5 => grd (isK s5 18 a0) (bnd (X8_step s5 a0) (fun r6 s7 => some (0, s7)))))))))))
set_option maxRecDepth 100000 in
set_option maxHeartbeats 4000000 in
theorem X8_begin_s (G : Gx) (l : Launch) (s : St) (a0 a1 a2 : Int) : Snd G l mX8_begin [(2, a0), (2, a1), (0, a2)] s (X8_begin s a0 a1 a2) := by
  refine Snd.of (by decide +kernel) rfl ?_
  show V G l mX8_begin 0 [(0, (2, a0)), (1, (2, a1)), (2, (0, a2))] [] s _
  unfold X8_begin
  refine V_aload_n dec_X8_begin.1.1.1 0 rfl ?_
  refine V_aload_n dec_X8_begin.1.1.2.1 1 rfl ?_
  refine V_putR (host := "") 8 3 nf_8_3 ty_8_3 (Or.inl ⟨fl_X8_7, Or.inl rfl⟩) dec_X8_begin.1.1.2.2 ?_
  refine V_lets fun s1 => ?_
  refine V_aload_n dec_X8_begin.1.2.1.1 0 rfl ?_
  refine V_iload_n dec_X8_begin.1.2.1.2 2 rfl ?_
  refine V_aload_n dec_X8_begin.1.2.2.1 1 rfl ?_
  refine V_alen 2 (by decide) dec_X8_begin.1.2.2.2 ?_
  refine V_callS0 (As := [(0, a2), (0, (ln s1 a1))]) (st := [(2, a0)]) (host := "") rfl (JM_min_s G l s1 a2 (ln s1 a1)) cal_JM_min rfl (Or.inl ml_X8_13) rfl rfl dec_X8_begin.2.1.1.1 (k_tag (tag := 0) rfl fun r2 s3 => ?_)
  refine V_putI (host := "") 8 4 nf_8_4 ty_8_4 (Or.inl ⟨fl_X8_19, Or.inl rfl⟩) dec_X8_begin.2.1.1.2 ?_
  refine V_lets fun s4 => ?_
  refine V_aload_n dec_X8_begin.2.1.2.1 0 rfl ?_
  refine V_iconst dec_X8_begin.2.1.2.2 rfl ?_
  refine V_putI (host := "") 8 5 nf_8_5 ty_8_5 (Or.inl ⟨fl_X8_23, Or.inl rfl⟩) dec_X8_begin.2.2.1.1 ?_
  refine V_lets fun s5 => ?_
  refine V_aload_n dec_X8_begin.2.2.1.2 0 rfl ?_
  refine V_callV0 (ci := 8) (a := a0) (As := []) (st := []) rfl rfl (X8_step_s G l s5 a0) cal_X8_step rfl ml_X8_26 rfl rfl dec_X8_begin.2.2.2.1 (k_void rfl fun r6 s7 => ?_)
  exact V_vret rfl dec_X8_begin.2.2.2.2
theorem dec_X9_clear : ((((decode cX9_clear 0 = .ok (.aload_n 0, 1) ∧ decode cX9_clear 1 = .ok (.iconst 0, 1)) ∧ (decode cX9_clear 2 = .ok (.putfield 40, 3) ∧ decode cX9_clear 5 = .ok (.aload_n 0, 1))) ∧ ((decode cX9_clear 6 = .ok (.iconst 0, 1) ∧ decode cX9_clear 7 = .ok (.putfield 44, 3)) ∧ (decode cX9_clear 10 = .ok (.aload_n 0, 1) ∧ (decode cX9_clear 11 = .ok (.iconst 0, 1) ∧ decode cX9_clear 12 = .ok (.putfield 47, 3))))) ∧ (((decode cX9_clear 15 = .ok (.aload_n 0, 1) ∧ decode cX9_clear 16 = .ok (.iconst 0, 1)) ∧ (decode cX9_clear 17 = .ok (.putfield 50, 3) ∧ (decode cX9_clear 20 = .ok (.aload_n 0, 1) ∧ decode cX9_clear 21 = .ok (.iconst 0, 1)))) ∧ ((decode cX9_clear 22 = .ok (.putfield 53, 3) ∧ decode cX9_clear 25 = .ok (.aload_n 0, 1)) ∧ (decode cX9_clear 26 = .ok (.iconst 0, 1) ∧ (decode cX9_clear 27 = .ok (.putfield 56, 3) ∧ decode cX9_clear 30 = .ok (.return_, 1)))))) := ⟨by decide +kernel, by decide +kernel⟩
def X9_clear (s : St) (a0 : Int) : Rs :=
  grd (isK s 19 a0) (lets (pI s a0 0 0) (fun s1 => grd (isK s1 19 a0) (lets (pI s1 a0 1 0) (fun s2 => grd (isK s2 19 a0) (lets (pI s2 a0 2 0) (fun s3 => grd (isK s3 19 a0) (lets (pI s3 a0 3 0) (fun s4 => grd (isK s4 19 a0) (lets (pI s4 a0 4 0) (fun s5 => grd (isK s5 19 a0) (lets (pI s5 a0 5 0) (fun s6 => some (0, s6)))))))))))))
set_option maxRecDepth 100000 in
set_option maxHeartbeats 4000000 in
theorem X9_clear_s (G : Gx) (l : Launch) (s : St) (a0 : Int) : Snd G l mX9_clear [(2, a0)] s (X9_clear s a0) := by
  refine Snd.of (by decide +kernel) rfl ?_
  show V G l mX9_clear 0 [(0, (2, a0))] [] s _
  unfold X9_clear
  refine V_aload_n dec_X9_clear.1.1.1.1 0 rfl ?_
  refine V_iconst dec_X9_clear.1.1.1.2 rfl ?_
  refine V_putI (host := "") 9 0 nf_9_0 ty_9_0 (Or.inl ⟨fl_X9_40, Or.inl rfl⟩) dec_X9_clear.1.1.2.1 ?_
  refine V_lets fun s1 => ?_
  refine V_aload_n dec_X9_clear.1.1.2.2 0 rfl ?_
  refine V_iconst dec_X9_clear.1.2.1.1 rfl ?_
  refine V_putI (host := "") 9 1 nf_9_1 ty_9_1 (Or.inl ⟨fl_X9_44, Or.inl rfl⟩) dec_X9_clear.1.2.1.2 ?_
  refine V_lets fun s2 => ?_
  refine V_aload_n dec_X9_clear.1.2.2.1 0 rfl ?_
  refine V_iconst dec_X9_clear.1.2.2.2.1 rfl ?_
  refine V_putI (host := "") 9 2 nf_9_2 ty_9_2 (Or.inl ⟨fl_X9_47, Or.inl rfl⟩) dec_X9_clear.1.2.2.2.2 ?_
  refine V_lets fun s3 => ?_
  refine V_aload_n dec_X9_clear.2.1.1.1 0 rfl ?_
  refine V_iconst dec_X9_clear.2.1.1.2 rfl ?_
  refine V_putI (host := "") 9 3 nf_9_3 ty_9_3 (Or.inl ⟨fl_X9_50, Or.inl rfl⟩) dec_X9_clear.2.1.2.1 ?_
  refine V_lets fun s4 => ?_
  refine V_aload_n dec_X9_clear.2.1.2.2.1 0 rfl ?_
  refine V_iconst dec_X9_clear.2.1.2.2.2 rfl ?_
  refine V_putI (host := "") 9 4 nf_9_4 ty_9_4 (Or.inl ⟨fl_X9_53, Or.inl rfl⟩) dec_X9_clear.2.2.1.1 ?_
  refine V_lets fun s5 => ?_
  refine V_aload_n dec_X9_clear.2.2.1.2 0 rfl ?_
  refine V_iconst dec_X9_clear.2.2.2.1 rfl ?_
  refine V_putI (host := "") 9 5 nf_9_5 ty_9_5 (Or.inl ⟨fl_X9_56, Or.inl rfl⟩) dec_X9_clear.2.2.2.2.1 ?_
  refine V_lets fun s6 => ?_
  exact V_vret rfl dec_X9_clear.2.2.2.2.2
theorem dec_X4_read : (((((decode cX4_read 0 = .ok (.aload_n 0, 1) ∧ (decode cX4_read 1 = .ok (.iconst 0, 1) ∧ decode cX4_read 2 = .ok (.putfield 36, 3))) ∧ ((decode cX4_read 5 = .ok (.aload_n 0, 1) ∧ decode cX4_read 6 = .ok (.iconst (-1), 1)) ∧ (decode cX4_read 7 = .ok (.putfield 18, 3) ∧ decode cX4_read 10 = .ok (.aload_n 0, 1)))) ∧ (((decode cX4_read 11 = .ok (.getfield 12, 3) ∧ decode cX4_read 14 = .ok (.invokevirtual 39, 3)) ∧ (decode cX4_read 17 = .ok (.aload_n 0, 1) ∧ decode cX4_read 18 = .ok (.getfield 25, 3))) ∧ ((decode cX4_read 21 = .ok (.aload_n 1, 1) ∧ decode cX4_read 22 = .ok (.iload_n 2, 1)) ∧ (decode cX4_read 23 = .ok (.invokevirtual 42, 3) ∧ decode cX4_read 26 = .ok (.aload_n 0, 1))))) ∧ ((((decode cX4_read 27 = .ok (.invokevirtual 46, 3) ∧ decode cX4_read 30 = .ok (.iconst 0, 1)) ∧ (decode cX4_read 31 = .ok (.istore_n 3, 1) ∧ decode cX4_read 32 = .ok (.iload_n 3, 1))) ∧ ((decode cX4_read 33 = .ok (.iload_n 2, 1) ∧ decode cX4_read 34 = .ok (.if_icmp .ge 57, 3)) ∧ (decode cX4_read 37 = .ok (.aload_n 0, 1) ∧ decode cX4_read 38 = .ok (.getfield 36, 3)))) ∧ (((decode cX4_read 41 = .ok (.ifCond .ne 50, 3) ∧ decode cX4_read 44 = .ok (.aload_n 0, 1)) ∧ (decode cX4_read 45 = .ok (.getfield 25, 3) ∧ decode cX4_read 48 = .ok (.getfield 49, 3))) ∧ ((decode cX4_read 51 = .ok (.ifCond .eq 40, 3) ∧ decode cX4_read 54 = .ok (.aload_n 0, 1)) ∧ (decode cX4_read 55 = .ok (.aload_n 0, 1) ∧ decode cX4_read 56 = .ok (.getfield 25, 3)))))) ∧ ((((decode cX4_read 59 = .ok (.getfield 49, 3) ∧ (decode cX4_read 62 = .ok (.iconst 3, 1) ∧ decode cX4_read 63 = .ok (.if_icmp .ne 7, 3))) ∧ ((decode cX4_read 66 = .ok (.iconst 1, 1) ∧ decode cX4_read 67 = .ok (.goto 4, 3)) ∧ (decode cX4_read 70 = .ok (.iconst 0, 1) ∧ decode cX4_read 71 = .ok (.invokevirtual 52, 3)))) ∧ (((decode cX4_read 74 = .ok (.aload_n 0, 1) ∧ decode cX4_read 75 = .ok (.getfield 36, 3)) ∧ (decode cX4_read 78 = .ok (.ifCond .ne 7, 3) ∧ decode cX4_read 81 = .ok (.aload_n 0, 1))) ∧ ((decode cX4_read 82 = .ok (.invokevirtual 46, 3) ∧ decode cX4_read 85 = .ok (.iinc 3 1, 3)) ∧ (decode cX4_read 88 = .ok (.goto (-56), 3) ∧ decode cX4_read 91 = .ok (.aload_n 0, 1))))) ∧ ((((decode cX4_read 92 = .ok (.getfield 12, 3) ∧ decode cX4_read 95 = .ok (.getfield 56, 3)) ∧ (decode cX4_read 98 = .ok (.ifCond .ne 16, 3) ∧ decode cX4_read 101 = .ok (.aload_n 0, 1))) ∧ ((decode cX4_read 102 = .ok (.bipush 6, 2) ∧ decode cX4_read 104 = .ok (.aload_n 0, 1)) ∧ (decode cX4_read 105 = .ok (.getfield 25, 3) ∧ decode cX4_read 108 = .ok (.getfield 59, 3)))) ∧ (((decode cX4_read 111 = .ok (.invokevirtual 62, 3) ∧ decode cX4_read 114 = .ok (.aload_n 0, 1)) ∧ (decode cX4_read 115 = .ok (.getfield 36, 3) ∧ decode cX4_read 118 = .ok (.ifCond .ne 7, 3))) ∧ ((decode cX4_read 121 = .ok (.iconst 1, 1) ∧ decode cX4_read 122 = .ok (.goto 4, 3)) ∧ (decode cX4_read 125 = .ok (.iconst 0, 1) ∧ decode cX4_read 126 = .ok (.ireturn, 1))))))) := ⟨⟨⟨by decide +kernel, by decide +kernel⟩, ⟨by decide +kernel, by decide +kernel⟩⟩, ⟨⟨by decide +kernel, by decide +kernel⟩, ⟨by decide +kernel, by decide +kernel⟩⟩⟩
def X4_read_b126 (s : St) (k0 : Int) : Rs :=
  grd (k0 = 0 ∨ k0 = 1) (some (k0, s))
set_option maxRecDepth 100000 in
set_option maxHeartbeats 4000000 in
theorem X4_read_b126_s (G : Gx) (l : Launch) (s : St) (k0 : Int) : V G l mX4_read 126 [] [(0, k0)] s (X4_read_b126 s k0) := by
  unfold X4_read_b126
  exact V_zret rfl dec_X4_read.2.2.2.2.2.2
def X4_read_b114 (s : St) (x0 : Int) : Rs :=
  grd (isK s 14 x0) (if ¬ (gI s x0 1) = 0 then (X4_read_b126 s 0) else (X4_read_b126 s 1))
set_option maxRecDepth 100000 in
set_option maxHeartbeats 4000000 in
theorem X4_read_b114_s (G : Gx) (l : Launch) (s : St) (x0 : Int) : V G l mX4_read 114 [(0, (2, x0))] [] s (X4_read_b114 s x0) := by
  unfold X4_read_b114
  refine V_aload_n dec_X4_read.2.2.2.1.1.2 0 rfl ?_
  refine V_getI 4 1 nf_4_1 ft_4_1 fl_X4_36 dec_X4_read.2.2.2.1.2.1 ?_
  refine V_if_ne (tgt := 125) dec_X4_read.2.2.2.1.2.2 (by decide) ?_ ?_
  · refine V_iconst dec_X4_read.2.2.2.2.2.1 rfl ?_
    exact V_pick [] rfl (X4_read_b126_s G l s 0)
  · refine V_iconst dec_X4_read.2.2.2.2.1.1 rfl ?_
    refine V_goto (tgt := 126) dec_X4_read.2.2.2.2.1.2 (by decide) ?_
    exact V_pick [] rfl (X4_read_b126_s G l s 1)
def X4_read_b91 (s : St) (x0 : Int) : Rs :=
  grd (isK s 14 x0) (grd (isK s 19 (gR s x0 0)) (if ¬ (gI s (gR s x0 0) 2) = 0 then (X4_read_b114 s x0) else (grd (isK s 14 x0) (grd (isK s 18 (gR s x0 3)) (grd (isK s 14 x0) (bnd (X4_fail s x0 6 (gI s (gR s x0 3) 1)) (fun r9 s10 => X4_read_b114 s10 x0)))))))
set_option maxRecDepth 100000 in
set_option maxHeartbeats 4000000 in
theorem X4_read_b91_s (G : Gx) (l : Launch) (s : St) (x0 : Int) : V G l mX4_read 91 [(0, (2, x0))] [] s (X4_read_b91 s x0) := by
  unfold X4_read_b91
  refine V_aload_n dec_X4_read.2.1.2.2.2.2 0 rfl ?_
  refine V_getR 4 0 nf_4_0 ft_4_0 fl_X4_12 dec_X4_read.2.2.1.1.1.1 ?_
  refine V_getI 9 2 nf_9_2 ft_9_2 fl_X4_56 dec_X4_read.2.2.1.1.1.2 ?_
  refine V_if_ne (tgt := 114) dec_X4_read.2.2.1.1.2.1 (by decide) ?_ ?_
  · exact V_pick [0] rfl (X4_read_b114_s G l s x0)
  · refine V_aload_n dec_X4_read.2.2.1.1.2.2 0 rfl ?_
    refine V_bipush dec_X4_read.2.2.1.2.1.1 rfl ?_
    refine V_aload_n dec_X4_read.2.2.1.2.1.2 0 rfl ?_
    refine V_getR 4 3 nf_4_3 ft_4_3 fl_X4_25 dec_X4_read.2.2.1.2.2.1 ?_
    refine V_getI 8 1 nf_8_1 ft_8_1 fl_X4_59 dec_X4_read.2.2.1.2.2.2 ?_
    refine V_callV0 (ci := 4) (a := x0) (As := [(0, 6), (0, (gI s (gR s x0 3) 1))]) (st := []) rfl rfl (X4_fail_s G l s x0 6 (gI s (gR s x0 3) 1)) cal_X4_fail rfl ml_X4_62 rfl rfl dec_X4_read.2.2.2.1.1.1 (k_void rfl fun r9 s10 => ?_)
    exact V_pick [0] rfl (X4_read_b114_s G l s10 x0)
def X4_read_b85 (rk32 : St → Int → Int → Int → Rs) (s : St) (x0 x2 x3 : Int) : Rs :=
  rk32 s x0 x2 (w32 (x3 + 1))
set_option maxRecDepth 100000 in
set_option maxHeartbeats 4000000 in
theorem X4_read_b85_s (G : Gx) (l : Launch) (rk32 : St → Int → Int → Int → Rs) (hk32 : ∀ (s : St) (x0 x2 x3 : Int), V G l mX4_read 32 [(0, (2, x0)), (2, (0, x2)), (3, (0, x3))] [] s (rk32 s x0 x2 x3)) (s : St) (x0 x2 x3 : Int) : V G l mX4_read 85 [(0, (2, x0)), (2, (0, x2)), (3, (0, x3))] [] s (X4_read_b85 rk32 s x0 x2 x3) := by
  unfold X4_read_b85
  refine V_iinc (lv' := [(3, (0, (w32 (x3 + 1)))), (0, (2, x0)), (2, (0, x2))]) dec_X4_read.2.1.2.2.1.2 2 rfl (by decide) rfl ?_
  refine V_goto (tgt := 32) dec_X4_read.2.1.2.2.2.1 (by decide) ?_
  exact V_pick [1, 2, 0] rfl (hk32 s x0 x2 (w32 (x3 + 1)))
def X4_read_b71 (rk32 : St → Int → Int → Int → Rs) (s : St) (x0 x2 x3 k0 k1 : Int) : Rs :=
  grd (isK s 14 k1) (bnd (X4_takeToken s k1 k0) (fun r11 s12 => grd (isK s12 14 x0) (if ¬ (gI s12 x0 1) = 0 then (X4_read_b85 rk32 s12 x0 x2 x3) else (grd (isK s12 14 x0) (bnd (X4_readLine s12 x0) (fun r13 s14 => X4_read_b85 rk32 s14 x0 x2 x3))))))
set_option maxRecDepth 100000 in
set_option maxHeartbeats 4000000 in
theorem X4_read_b71_s (G : Gx) (l : Launch) (rk32 : St → Int → Int → Int → Rs) (hk32 : ∀ (s : St) (x0 x2 x3 : Int), V G l mX4_read 32 [(0, (2, x0)), (2, (0, x2)), (3, (0, x3))] [] s (rk32 s x0 x2 x3)) (s : St) (x0 x2 x3 k0 k1 : Int) : V G l mX4_read 71 [(0, (2, x0)), (2, (0, x2)), (3, (0, x3))] [(0, k0), (2, k1)] s (X4_read_b71 rk32 s x0 x2 x3 k0 k1) := by
  unfold X4_read_b71
  refine V_callV0 (ci := 4) (a := k1) (As := [(0, k0)]) (st := []) rfl rfl (X4_takeToken_s G l s k1 k0) cal_X4_takeToken rfl ml_X4_52 rfl rfl dec_X4_read.2.1.1.2.2.2 (k_void rfl fun r11 s12 => ?_)
  refine V_aload_n dec_X4_read.2.1.2.1.1.1 0 rfl ?_
  refine V_getI 4 1 nf_4_1 ft_4_1 fl_X4_36 dec_X4_read.2.1.2.1.1.2 ?_
  refine V_if_ne (tgt := 85) dec_X4_read.2.1.2.1.2.1 (by decide) ?_ ?_
  · exact V_pick [0, 1, 2] rfl (X4_read_b85_s G l rk32 hk32 s12 x0 x2 x3)
  · refine V_aload_n dec_X4_read.2.1.2.1.2.2 0 rfl ?_
    refine V_callV0 (ci := 4) (a := x0) (As := []) (st := []) rfl rfl (X4_readLine_s G l s12 x0) cal_X4_readLine rfl ml_X4_46 rfl rfl dec_X4_read.2.1.2.2.1.1 (k_void rfl fun r13 s14 => ?_)
    exact V_pick [0, 1, 2] rfl (X4_read_b85_s G l rk32 hk32 s14 x0 x2 x3)
def X4_read_b32_body (rk32 : St → Int → Int → Int → Rs) (s : St) (x0 x2 x3 : Int) : Rs :=
  if x2 ≤ x3 then (X4_read_b91 s x0) else (grd (isK s 14 x0) (if ¬ (gI s x0 1) = 0 then (X4_read_b91 s x0) else (grd (isK s 14 x0) (grd (isK s 18 (gR s x0 3)) (if (gI s (gR s x0 3) 0) = 0 then (X4_read_b91 s x0) else (grd (isK s 14 x0) (grd (isK s 18 (gR s x0 3)) (if ¬ (gI s (gR s x0 3) 0) = (3 : Int) then (X4_read_b71 rk32 s x0 x2 x3 0 x0) else (X4_read_b71 rk32 s x0 x2 x3 1 x0)))))))))
def X4_read_b32 (n : Nat) (s : St) (x0 x2 x3 : Int) : Rs := iter (fun (rec : St × Int × Int × Int → Rs) (a : St × Int × Int × Int) => X4_read_b32_body (fun (s : St) (x0 x2 x3 : Int) => rec (s, x0, x2, x3)) a.1 a.2.1 a.2.2.1 a.2.2.2) n (s, x0, x2, x3)
theorem X4_read_b32_0 (s : St) (x0 x2 x3 : Int) : X4_read_b32 0 s x0 x2 x3 = none := rfl
theorem X4_read_b32_1 (n : Nat) (s : St) (x0 x2 x3 : Int) : X4_read_b32 (n + 1) s x0 x2 x3 = X4_read_b32_body (X4_read_b32 n) s x0 x2 x3 := rfl
set_option maxRecDepth 100000 in
set_option maxHeartbeats 4000000 in
theorem X4_read_b32_body_s (G : Gx) (l : Launch) (rk32 : St → Int → Int → Int → Rs) (hk32 : ∀ (s : St) (x0 x2 x3 : Int), V G l mX4_read 32 [(0, (2, x0)), (2, (0, x2)), (3, (0, x3))] [] s (rk32 s x0 x2 x3)) (s : St) (x0 x2 x3 : Int) : V G l mX4_read 32 [(0, (2, x0)), (2, (0, x2)), (3, (0, x3))] [] s (X4_read_b32_body rk32 s x0 x2 x3) := by
  unfold X4_read_b32_body
  refine V_iload_n dec_X4_read.1.2.1.1.2.2 2 rfl ?_
  refine V_iload_n dec_X4_read.1.2.1.2.1.1 1 rfl ?_
  refine V_icmp_ge (tgt := 91) dec_X4_read.1.2.1.2.1.2 (by decide) ?_ ?_
  · exact V_pick [0] rfl (X4_read_b91_s G l s x0)
  · refine V_aload_n dec_X4_read.1.2.1.2.2.1 0 rfl ?_
    refine V_getI 4 1 nf_4_1 ft_4_1 fl_X4_36 dec_X4_read.1.2.1.2.2.2 ?_
    refine V_if_ne (tgt := 91) dec_X4_read.1.2.2.1.1.1 (by decide) ?_ ?_
    · exact V_pick [0] rfl (X4_read_b91_s G l s x0)
    · refine V_aload_n dec_X4_read.1.2.2.1.1.2 0 rfl ?_
      refine V_getR 4 3 nf_4_3 ft_4_3 fl_X4_25 dec_X4_read.1.2.2.1.2.1 ?_
      refine V_getI 8 0 nf_8_0 ft_8_0 fl_X4_49 dec_X4_read.1.2.2.1.2.2 ?_
      refine V_if_eq (tgt := 91) dec_X4_read.1.2.2.2.1.1 (by decide) ?_ ?_
      · exact V_pick [0] rfl (X4_read_b91_s G l s x0)
      · refine V_aload_n dec_X4_read.1.2.2.2.1.2 0 rfl ?_
        refine V_aload_n dec_X4_read.1.2.2.2.2.1 0 rfl ?_
        refine V_getR 4 3 nf_4_3 ft_4_3 fl_X4_25 dec_X4_read.1.2.2.2.2.2 ?_
        refine V_getI 8 0 nf_8_0 ft_8_0 fl_X4_49 dec_X4_read.2.1.1.1.1 ?_
        refine V_iconst dec_X4_read.2.1.1.1.2.1 rfl ?_
        refine V_icmp_ne (tgt := 70) dec_X4_read.2.1.1.1.2.2 (by decide) ?_ ?_
        · refine V_iconst dec_X4_read.2.1.1.2.2.1 rfl ?_
          exact V_pick [0, 1, 2] rfl (X4_read_b71_s G l rk32 hk32 s x0 x2 x3 0 x0)
        · refine V_iconst dec_X4_read.2.1.1.2.1.1 rfl ?_
          refine V_goto (tgt := 71) dec_X4_read.2.1.1.2.1.2 (by decide) ?_
          exact V_pick [0, 1, 2] rfl (X4_read_b71_s G l rk32 hk32 s x0 x2 x3 1 x0)
theorem X4_read_b32_s (G : Gx) (l : Launch) (n : Nat) (s : St) (x0 x2 x3 : Int) : V G l mX4_read 32 [(0, (2, x0)), (2, (0, x2)), (3, (0, x3))] [] s (X4_read_b32 n s x0 x2 x3) :=
  V_iter (LV := fun a : St × Int × Int × Int => [(0, (2, a.2.1)), (2, (0, a.2.2.1)), (3, (0, a.2.2.2))]) (ST := fun a : St × Int × Int × Int => []) (SS := fun a : St × Int × Int × Int => a.1) (fun rec hrec a => X4_read_b32_body_s G l (fun (s : St) (x0 x2 x3 : Int) => rec (s, x0, x2, x3)) (fun (s : St) (x0 x2 x3 : Int) => hrec (s, x0, x2, x3)) a.1 a.2.1 a.2.2.1 a.2.2.2) n (s, x0, x2, x3)
def X4_read (s : St) (a0 a1 a2 : Int) : Rs :=
  grd (isK s 14 a0) (lets (pI s a0 1 0) (fun s1 => grd (isK s1 14 a0) (lets (pI s1 a0 2 (-1)) (fun s2 => grd (isK s2 14 a0) (grd (isK s2 19 (gR s2 a0 0)) (bnd (X9_clear s2 (gR s2 a0 0)) (fun r3 s4 => grd (isK s4 14 a0) (grd (isK s4 18 (gR s4 a0 3)) (bnd (X8_begin s4 (gR s4 a0 3) a1 a2) (fun r5 s6 => grd (isK s6 14 a0) (bnd (X4_readLine s6 a0) (fun r7 s8 => X4_read_b32 FU s8 a0 a2 0))))))))))))
set_option maxRecDepth 100000 in
set_option maxHeartbeats 4000000 in
theorem X4_read_s (G : Gx) (l : Launch) (s : St) (a0 a1 a2 : Int) : Snd G l mX4_read [(2, a0), (2, a1), (0, a2)] s (X4_read s a0 a1 a2) := by
  refine Snd.of (by decide +kernel) rfl ?_
  show V G l mX4_read 0 [(0, (2, a0)), (1, (2, a1)), (2, (0, a2))] [] s _
  unfold X4_read
  refine V_aload_n dec_X4_read.1.1.1.1.1 0 rfl ?_
  refine V_iconst dec_X4_read.1.1.1.1.2.1 rfl ?_
  refine V_putI (host := "") 4 1 nf_4_1 ty_4_1 (Or.inl ⟨fl_X4_36, Or.inl rfl⟩) dec_X4_read.1.1.1.1.2.2 ?_
  refine V_lets fun s1 => ?_
  refine V_aload_n dec_X4_read.1.1.1.2.1.1 0 rfl ?_
  refine V_iconst dec_X4_read.1.1.1.2.1.2 rfl ?_
  refine V_putI (host := "") 4 2 nf_4_2 ty_4_2 (Or.inl ⟨fl_X4_18, Or.inl rfl⟩) dec_X4_read.1.1.1.2.2.1 ?_
  refine V_lets fun s2 => ?_
  refine V_aload_n dec_X4_read.1.1.1.2.2.2 0 rfl ?_
  refine V_getR 4 0 nf_4_0 ft_4_0 fl_X4_12 dec_X4_read.1.1.2.1.1.1 ?_
  refine V_callV0 (ci := 9) (a := (gR s2 a0 0)) (As := []) (st := []) rfl rfl (X9_clear_s G l s2 (gR s2 a0 0)) cal_X9_clear rfl ml_X4_39 rfl rfl dec_X4_read.1.1.2.1.1.2 (k_void rfl fun r3 s4 => ?_)
  refine V_aload_n dec_X4_read.1.1.2.1.2.1 0 rfl ?_
  refine V_getR 4 3 nf_4_3 ft_4_3 fl_X4_25 dec_X4_read.1.1.2.1.2.2 ?_
  refine V_aload_n dec_X4_read.1.1.2.2.1.1 1 rfl ?_
  refine V_iload_n dec_X4_read.1.1.2.2.1.2 2 rfl ?_
  refine V_callV0 (ci := 8) (a := (gR s4 a0 3)) (As := [(2, a1), (0, a2)]) (st := []) rfl rfl (X8_begin_s G l s4 (gR s4 a0 3) a1 a2) cal_X8_begin rfl ml_X4_42 rfl rfl dec_X4_read.1.1.2.2.2.1 (k_void rfl fun r5 s6 => ?_)
  refine V_aload_n dec_X4_read.1.1.2.2.2.2 0 rfl ?_
  refine V_callV0 (ci := 4) (a := a0) (As := []) (st := []) rfl rfl (X4_readLine_s G l s6 a0) cal_X4_readLine rfl ml_X4_46 rfl rfl dec_X4_read.1.2.1.1.1.1 (k_void rfl fun r7 s8 => ?_)
  refine V_iconst dec_X4_read.1.2.1.1.1.2 rfl ?_
  refine V_istore_n (lv' := [(3, (0, 0)), (0, (2, a0)), (1, (2, a1)), (2, (0, a2))]) dec_X4_read.1.2.1.1.2.1 (by decide) rfl ?_
  exact V_pick [1, 3, 0] rfl (X4_read_b32_s G l FU s8 a0 a2 0)
theorem dec_X9_copy : ((((((decode cX9_copy 0 = .ok (.aload_n 0, 1) ∧ decode cX9_copy 1 = .ok (.aload_n 1, 1)) ∧ (decode cX9_copy 2 = .ok (.getfield 40, 3) ∧ decode cX9_copy 5 = .ok (.putfield 40, 3))) ∧ ((decode cX9_copy 8 = .ok (.aload_n 0, 1) ∧ decode cX9_copy 9 = .ok (.aload_n 1, 1)) ∧ (decode cX9_copy 10 = .ok (.getfield 44, 3) ∧ decode cX9_copy 13 = .ok (.putfield 44, 3)))) ∧ (((decode cX9_copy 16 = .ok (.aload_n 0, 1) ∧ decode cX9_copy 17 = .ok (.aload_n 1, 1)) ∧ (decode cX9_copy 18 = .ok (.getfield 47, 3) ∧ decode cX9_copy 21 = .ok (.putfield 47, 3))) ∧ ((decode cX9_copy 24 = .ok (.aload_n 0, 1) ∧ decode cX9_copy 25 = .ok (.aload_n 1, 1)) ∧ (decode cX9_copy 26 = .ok (.getfield 50, 3) ∧ decode cX9_copy 29 = .ok (.putfield 50, 3))))) ∧ ((((decode cX9_copy 32 = .ok (.aload_n 0, 1) ∧ decode cX9_copy 33 = .ok (.aload_n 1, 1)) ∧ (decode cX9_copy 34 = .ok (.getfield 53, 3) ∧ decode cX9_copy 37 = .ok (.putfield 53, 3))) ∧ ((decode cX9_copy 40 = .ok (.aload_n 0, 1) ∧ decode cX9_copy 41 = .ok (.aload_n 1, 1)) ∧ (decode cX9_copy 42 = .ok (.getfield 56, 3) ∧ decode cX9_copy 45 = .ok (.putfield 56, 3)))) ∧ (((decode cX9_copy 48 = .ok (.aload_n 0, 1) ∧ decode cX9_copy 49 = .ok (.getfield 12, 3)) ∧ (decode cX9_copy 52 = .ok (.aload_n 1, 1) ∧ decode cX9_copy 53 = .ok (.getfield 12, 3))) ∧ ((decode cX9_copy 56 = .ok (.invokevirtual 59, 3) ∧ decode cX9_copy 59 = .ok (.aload_n 1, 1)) ∧ (decode cX9_copy 60 = .ok (.getfield 18, 3) ∧ decode cX9_copy 63 = .ok (.aload_n 0, 1)))))) ∧ (((((decode cX9_copy 64 = .ok (.getfield 18, 3) ∧ decode cX9_copy 67 = .ok (.invokestatic 63, 3)) ∧ (decode cX9_copy 70 = .ok (.aload_n 1, 1) ∧ decode cX9_copy 71 = .ok (.getfield 22, 3))) ∧ ((decode cX9_copy 74 = .ok (.aload_n 0, 1) ∧ decode cX9_copy 75 = .ok (.getfield 22, 3)) ∧ (decode cX9_copy 78 = .ok (.invokestatic 63, 3) ∧ decode cX9_copy 81 = .ok (.aload_n 1, 1)))) ∧ (((decode cX9_copy 82 = .ok (.getfield 25, 3) ∧ decode cX9_copy 85 = .ok (.aload_n 0, 1)) ∧ (decode cX9_copy 86 = .ok (.getfield 25, 3) ∧ decode cX9_copy 89 = .ok (.invokestatic 63, 3))) ∧ ((decode cX9_copy 92 = .ok (.aload_n 1, 1) ∧ decode cX9_copy 93 = .ok (.getfield 28, 3)) ∧ (decode cX9_copy 96 = .ok (.aload_n 0, 1) ∧ decode cX9_copy 97 = .ok (.getfield 28, 3))))) ∧ ((((decode cX9_copy 100 = .ok (.invokestatic 63, 3) ∧ decode cX9_copy 103 = .ok (.aload_n 1, 1)) ∧ (decode cX9_copy 104 = .ok (.getfield 31, 3) ∧ decode cX9_copy 107 = .ok (.aload_n 0, 1))) ∧ ((decode cX9_copy 108 = .ok (.getfield 31, 3) ∧ decode cX9_copy 111 = .ok (.invokestatic 63, 3)) ∧ (decode cX9_copy 114 = .ok (.aload_n 1, 1) ∧ decode cX9_copy 115 = .ok (.getfield 34, 3)))) ∧ (((decode cX9_copy 118 = .ok (.aload_n 0, 1) ∧ decode cX9_copy 119 = .ok (.getfield 34, 3)) ∧ (decode cX9_copy 122 = .ok (.invokestatic 63, 3) ∧ decode cX9_copy 125 = .ok (.aload_n 1, 1))) ∧ ((decode cX9_copy 126 = .ok (.getfield 37, 3) ∧ decode cX9_copy 129 = .ok (.aload_n 0, 1)) ∧ (decode cX9_copy 130 = .ok (.getfield 37, 3) ∧ (decode cX9_copy 133 = .ok (.invokestatic 63, 3) ∧ decode cX9_copy 136 = .ok (.return_, 1)))))))) := ⟨⟨⟨by decide +kernel, by decide +kernel⟩, ⟨by decide +kernel, by decide +kernel⟩⟩, ⟨⟨by decide +kernel, by decide +kernel⟩, ⟨by decide +kernel, by decide +kernel⟩⟩⟩
def X9_copy (s : St) (a0 a1 : Int) : Rs :=
  grd (isK s 19 a1) (grd (isK s 19 a0) (lets (pI s a0 0 (gI s a1 0)) (fun s1 => grd (isK s1 19 a1) (grd (isK s1 19 a0) (lets (pI s1 a0 1 (gI s1 a1 1)) (fun s2 => grd (isK s2 19 a1) (grd (isK s2 19 a0) (lets (pI s2 a0 2 (gI s2 a1 2)) (fun s3 => grd (isK s3 19 a1) (grd (isK s3 19 a0) (lets (pI s3 a0 3 (gI s3 a1 3)) (fun s4 => grd (isK s4 19 a1) (grd (isK s4 19 a0) (lets (pI s4 a0 4 (gI s4 a1 4)) (fun s5 => grd (isK s5 19 a1) (grd (isK s5 19 a0) (lets (pI s5 a0 5 (gI s5 a1 5)) (fun s6 => grd (isK s6 19 a0) (grd (isK s6 19 a1) (grd (isK s6 16 (gR s6 a0 6)) (bnd (X6_copy s6 (gR s6 a0 6) (gR s6 a1 6)) (fun r7 s8 => grd (isK s8 19 a1) (grd (isK s8 19 a0) (bnd (X11_copyRow s8 (gR s8 a1 7) (gR s8 a0 7)) (fun r9 s10 => grd (isK s10 19 a1) (grd (isK s10 19 a0) (bnd (X11_copyRow s10 (gR s10 a1 8) (gR s10 a0 8)) (fun r11 s12 => grd (isK s12 19 a1) (grd (isK s12 19 a0) (bnd (X11_copyRow s12 (gR s12 a1 9) (gR s12 a0 9)) (fun r13 s14 => grd (isK s14 19 a1) (grd (isK s14 19 a0) (bnd (X11_copyRow s14 (gR s14 a1 10) (gR s14 a0 10)) (fun r15 s16 => grd (isK s16 19 a1) (grd (isK s16 19 a0) (bnd (X11_copyRow s16 (gR s16 a1 11) (gR s16 a0 11)) (fun r17 s18 => grd (isK s18 19 a1) (grd (isK s18 19 a0) (bnd (X11_copyRow s18 (gR s18 a1 12) (gR s18 a0 12)) (fun r19 s20 => grd (isK s20 19 a1) (grd (isK s20 19 a0) (bnd (X11_copyRow s20 (gR s20 a1 13) (gR s20 a0 13)) (fun r21 s22 => some (0, s22))))))))))))))))))))))))))))))))))))))))))))
set_option maxRecDepth 100000 in
set_option maxHeartbeats 4000000 in
theorem X9_copy_s (G : Gx) (l : Launch) (s : St) (a0 a1 : Int) : Snd G l mX9_copy [(2, a0), (2, a1)] s (X9_copy s a0 a1) := by
  refine Snd.of (by decide +kernel) rfl ?_
  show V G l mX9_copy 0 [(0, (2, a0)), (1, (2, a1))] [] s _
  unfold X9_copy
  refine V_aload_n dec_X9_copy.1.1.1.1.1.1 0 rfl ?_
  refine V_aload_n dec_X9_copy.1.1.1.1.1.2 1 rfl ?_
  refine V_getI 9 0 nf_9_0 ft_9_0 fl_X9_40 dec_X9_copy.1.1.1.1.2.1 ?_
  refine V_putI (host := "") 9 0 nf_9_0 ty_9_0 (Or.inl ⟨fl_X9_40, Or.inl rfl⟩) dec_X9_copy.1.1.1.1.2.2 ?_
  refine V_lets fun s1 => ?_
  refine V_aload_n dec_X9_copy.1.1.1.2.1.1 0 rfl ?_
  refine V_aload_n dec_X9_copy.1.1.1.2.1.2 1 rfl ?_
  refine V_getI 9 1 nf_9_1 ft_9_1 fl_X9_44 dec_X9_copy.1.1.1.2.2.1 ?_
  refine V_putI (host := "") 9 1 nf_9_1 ty_9_1 (Or.inl ⟨fl_X9_44, Or.inl rfl⟩) dec_X9_copy.1.1.1.2.2.2 ?_
  refine V_lets fun s2 => ?_
  refine V_aload_n dec_X9_copy.1.1.2.1.1.1 0 rfl ?_
  refine V_aload_n dec_X9_copy.1.1.2.1.1.2 1 rfl ?_
  refine V_getI 9 2 nf_9_2 ft_9_2 fl_X9_47 dec_X9_copy.1.1.2.1.2.1 ?_
  refine V_putI (host := "") 9 2 nf_9_2 ty_9_2 (Or.inl ⟨fl_X9_47, Or.inl rfl⟩) dec_X9_copy.1.1.2.1.2.2 ?_
  refine V_lets fun s3 => ?_
  refine V_aload_n dec_X9_copy.1.1.2.2.1.1 0 rfl ?_
  refine V_aload_n dec_X9_copy.1.1.2.2.1.2 1 rfl ?_
  refine V_getI 9 3 nf_9_3 ft_9_3 fl_X9_50 dec_X9_copy.1.1.2.2.2.1 ?_
  refine V_putI (host := "") 9 3 nf_9_3 ty_9_3 (Or.inl ⟨fl_X9_50, Or.inl rfl⟩) dec_X9_copy.1.1.2.2.2.2 ?_
  refine V_lets fun s4 => ?_
  refine V_aload_n dec_X9_copy.1.2.1.1.1.1 0 rfl ?_
  refine V_aload_n dec_X9_copy.1.2.1.1.1.2 1 rfl ?_
  refine V_getI 9 4 nf_9_4 ft_9_4 fl_X9_53 dec_X9_copy.1.2.1.1.2.1 ?_
  refine V_putI (host := "") 9 4 nf_9_4 ty_9_4 (Or.inl ⟨fl_X9_53, Or.inl rfl⟩) dec_X9_copy.1.2.1.1.2.2 ?_
  refine V_lets fun s5 => ?_
  refine V_aload_n dec_X9_copy.1.2.1.2.1.1 0 rfl ?_
  refine V_aload_n dec_X9_copy.1.2.1.2.1.2 1 rfl ?_
  refine V_getI 9 5 nf_9_5 ft_9_5 fl_X9_56 dec_X9_copy.1.2.1.2.2.1 ?_
  refine V_putI (host := "") 9 5 nf_9_5 ty_9_5 (Or.inl ⟨fl_X9_56, Or.inl rfl⟩) dec_X9_copy.1.2.1.2.2.2 ?_
  refine V_lets fun s6 => ?_
  refine V_aload_n dec_X9_copy.1.2.2.1.1.1 0 rfl ?_
  refine V_getR 9 6 nf_9_6 ft_9_6 fl_X9_12 dec_X9_copy.1.2.2.1.1.2 ?_
  refine V_aload_n dec_X9_copy.1.2.2.1.2.1 1 rfl ?_
  refine V_getR 9 6 nf_9_6 ft_9_6 fl_X9_12 dec_X9_copy.1.2.2.1.2.2 ?_
  refine V_callV0 (ci := 6) (a := (gR s6 a0 6)) (As := [(2, (gR s6 a1 6))]) (st := []) rfl rfl (X6_copy_s G l s6 (gR s6 a0 6) (gR s6 a1 6)) cal_X6_copy rfl ml_X9_59 rfl rfl dec_X9_copy.1.2.2.2.1.1 (k_void rfl fun r7 s8 => ?_)
  refine V_aload_n dec_X9_copy.1.2.2.2.1.2 1 rfl ?_
  refine V_getR 9 7 nf_9_7 ft_9_7 fl_X9_18 dec_X9_copy.1.2.2.2.2.1 ?_
  refine V_aload_n dec_X9_copy.1.2.2.2.2.2 0 rfl ?_
  refine V_getR 9 7 nf_9_7 ft_9_7 fl_X9_18 dec_X9_copy.2.1.1.1.1.1 ?_
  refine V_callS0 (As := [(2, (gR s8 a1 7)), (2, (gR s8 a0 7))]) (st := []) (host := RX11) rfl (X11_copyRow_s G l s8 (gR s8 a1 7) (gR s8 a0 7)) cal_X11_copyRow rfl (Or.inr ml_X9_63) rfl rfl dec_X9_copy.2.1.1.1.1.2 (k_void rfl fun r9 s10 => ?_)
  refine V_aload_n dec_X9_copy.2.1.1.1.2.1 1 rfl ?_
  refine V_getR 9 8 nf_9_8 ft_9_8 fl_X9_22 dec_X9_copy.2.1.1.1.2.2 ?_
  refine V_aload_n dec_X9_copy.2.1.1.2.1.1 0 rfl ?_
  refine V_getR 9 8 nf_9_8 ft_9_8 fl_X9_22 dec_X9_copy.2.1.1.2.1.2 ?_
  refine V_callS0 (As := [(2, (gR s10 a1 8)), (2, (gR s10 a0 8))]) (st := []) (host := RX11) rfl (X11_copyRow_s G l s10 (gR s10 a1 8) (gR s10 a0 8)) cal_X11_copyRow rfl (Or.inr ml_X9_63) rfl rfl dec_X9_copy.2.1.1.2.2.1 (k_void rfl fun r11 s12 => ?_)
  refine V_aload_n dec_X9_copy.2.1.1.2.2.2 1 rfl ?_
  refine V_getR 9 9 nf_9_9 ft_9_9 fl_X9_25 dec_X9_copy.2.1.2.1.1.1 ?_
  refine V_aload_n dec_X9_copy.2.1.2.1.1.2 0 rfl ?_
  refine V_getR 9 9 nf_9_9 ft_9_9 fl_X9_25 dec_X9_copy.2.1.2.1.2.1 ?_
  refine V_callS0 (As := [(2, (gR s12 a1 9)), (2, (gR s12 a0 9))]) (st := []) (host := RX11) rfl (X11_copyRow_s G l s12 (gR s12 a1 9) (gR s12 a0 9)) cal_X11_copyRow rfl (Or.inr ml_X9_63) rfl rfl dec_X9_copy.2.1.2.1.2.2 (k_void rfl fun r13 s14 => ?_)
  refine V_aload_n dec_X9_copy.2.1.2.2.1.1 1 rfl ?_
  refine V_getR 9 10 nf_9_10 ft_9_10 fl_X9_28 dec_X9_copy.2.1.2.2.1.2 ?_
  refine V_aload_n dec_X9_copy.2.1.2.2.2.1 0 rfl ?_
  refine V_getR 9 10 nf_9_10 ft_9_10 fl_X9_28 dec_X9_copy.2.1.2.2.2.2 ?_
  refine V_callS0 (As := [(2, (gR s14 a1 10)), (2, (gR s14 a0 10))]) (st := []) (host := RX11) rfl (X11_copyRow_s G l s14 (gR s14 a1 10) (gR s14 a0 10)) cal_X11_copyRow rfl (Or.inr ml_X9_63) rfl rfl dec_X9_copy.2.2.1.1.1.1 (k_void rfl fun r15 s16 => ?_)
  refine V_aload_n dec_X9_copy.2.2.1.1.1.2 1 rfl ?_
  refine V_getR 9 11 nf_9_11 ft_9_11 fl_X9_31 dec_X9_copy.2.2.1.1.2.1 ?_
  refine V_aload_n dec_X9_copy.2.2.1.1.2.2 0 rfl ?_
  refine V_getR 9 11 nf_9_11 ft_9_11 fl_X9_31 dec_X9_copy.2.2.1.2.1.1 ?_
  refine V_callS0 (As := [(2, (gR s16 a1 11)), (2, (gR s16 a0 11))]) (st := []) (host := RX11) rfl (X11_copyRow_s G l s16 (gR s16 a1 11) (gR s16 a0 11)) cal_X11_copyRow rfl (Or.inr ml_X9_63) rfl rfl dec_X9_copy.2.2.1.2.1.2 (k_void rfl fun r17 s18 => ?_)
  refine V_aload_n dec_X9_copy.2.2.1.2.2.1 1 rfl ?_
  refine V_getR 9 12 nf_9_12 ft_9_12 fl_X9_34 dec_X9_copy.2.2.1.2.2.2 ?_
  refine V_aload_n dec_X9_copy.2.2.2.1.1.1 0 rfl ?_
  refine V_getR 9 12 nf_9_12 ft_9_12 fl_X9_34 dec_X9_copy.2.2.2.1.1.2 ?_
  refine V_callS0 (As := [(2, (gR s18 a1 12)), (2, (gR s18 a0 12))]) (st := []) (host := RX11) rfl (X11_copyRow_s G l s18 (gR s18 a1 12) (gR s18 a0 12)) cal_X11_copyRow rfl (Or.inr ml_X9_63) rfl rfl dec_X9_copy.2.2.2.1.2.1 (k_void rfl fun r19 s20 => ?_)
  refine V_aload_n dec_X9_copy.2.2.2.1.2.2 1 rfl ?_
  refine V_getR 9 13 nf_9_13 ft_9_13 fl_X9_37 dec_X9_copy.2.2.2.2.1.1 ?_
  refine V_aload_n dec_X9_copy.2.2.2.2.1.2 0 rfl ?_
  refine V_getR 9 13 nf_9_13 ft_9_13 fl_X9_37 dec_X9_copy.2.2.2.2.2.1 ?_
  refine V_callS0 (As := [(2, (gR s20 a1 13)), (2, (gR s20 a0 13))]) (st := []) (host := RX11) rfl (X11_copyRow_s G l s20 (gR s20 a1 13) (gR s20 a0 13)) cal_X11_copyRow rfl (Or.inr ml_X9_63) rfl rfl dec_X9_copy.2.2.2.2.2.2.1 (k_void rfl fun r21 s22 => ?_)
  exact V_vret rfl dec_X9_copy.2.2.2.2.2.2.2
theorem dec_X11_town : ((((((decode cX11_town 0 = .ok (.aload_n 0, 1) ∧ decode cX11_town 1 = .ok (.iconst 0, 1)) ∧ (decode cX11_town 2 = .ok (.iload_n 1, 1) ∧ decode cX11_town 3 = .ok (.ifCond .lt 11, 3))) ∧ ((decode cX11_town 6 = .ok (.iload_n 1, 1) ∧ decode cX11_town 7 = .ok (.aload_n 0, 1)) ∧ (decode cX11_town 8 = .ok (.getfield 85, 3) ∧ decode cX11_town 11 = .ok (.if_icmp .le 7, 3)))) ∧ (((decode cX11_town 14 = .ok (.iconst 1, 1) ∧ decode cX11_town 15 = .ok (.goto 4, 3)) ∧ (decode cX11_town 18 = .ok (.iconst 0, 1) ∧ decode cX11_town 19 = .ok (.invokevirtual 92, 3))) ∧ ((decode cX11_town 22 = .ok (.ifCond .eq 5, 3) ∧ decode cX11_town 25 = .ok (.iconst (-1), 1)) ∧ (decode cX11_town 26 = .ok (.ireturn, 1) ∧ (decode cX11_town 27 = .ok (.aload_n 0, 1) ∧ decode cX11_town 28 = .ok (.iconst 0, 1)))))) ∧ ((((decode cX11_town 29 = .ok (.putfield 85, 3) ∧ decode cX11_town 32 = .ok (.aload_n 0, 1)) ∧ (decode cX11_town 33 = .ok (.getfield 20, 3) ∧ decode cX11_town 36 = .ok (.aload_n 0, 1))) ∧ ((decode cX11_town 37 = .ok (.getfield 9, 3) ∧ decode cX11_town 40 = .ok (.iload_n 1, 1)) ∧ (decode cX11_town 41 = .ok (.invokevirtual 96, 3) ∧ (decode cX11_town 44 = .ok (.istore_n 2, 1) ∧ decode cX11_town 45 = .ok (.aload_n 0, 1))))) ∧ (((decode cX11_town 46 = .ok (.aload_n 0, 1) ∧ decode cX11_town 47 = .ok (.getfield 20, 3)) ∧ (decode cX11_town 50 = .ok (.getfield 100, 3) ∧ decode cX11_town 53 = .ok (.putfield 103, 3))) ∧ ((decode cX11_town 56 = .ok (.aload_n 0, 1) ∧ decode cX11_town 57 = .ok (.aload_n 0, 1)) ∧ (decode cX11_town 58 = .ok (.getfield 20, 3) ∧ (decode cX11_town 61 = .ok (.getfield 104, 3) ∧ decode cX11_town 64 = .ok (.putfield 13, 3))))))) ∧ (((((decode cX11_town 67 = .ok (.iload_n 2, 1) ∧ decode cX11_town 68 = .ok (.ifCond .ne 9, 3)) ∧ (decode cX11_town 71 = .ok (.aload_n 0, 1) ∧ decode cX11_town 72 = .ok (.iconst 4, 1))) ∧ ((decode cX11_town 73 = .ok (.invokevirtual 105, 3) ∧ decode cX11_town 76 = .ok (.ireturn, 1)) ∧ (decode cX11_town 77 = .ok (.aload_n 0, 1) ∧ (decode cX11_town 78 = .ok (.getfield 27, 3) ∧ decode cX11_town 81 = .ok (.aload_n 0, 1))))) ∧ (((decode cX11_town 82 = .ok (.getfield 20, 3) ∧ decode cX11_town 85 = .ok (.getfield 109, 3)) ∧ (decode cX11_town 88 = .ok (.invokevirtual 112, 3) ∧ decode cX11_town 91 = .ok (.aload_n 0, 1))) ∧ ((decode cX11_town 92 = .ok (.getfield 36, 3) ∧ decode cX11_town 95 = .ok (.aload_n 0, 1)) ∧ (decode cX11_town 96 = .ok (.getfield 27, 3) ∧ (decode cX11_town 99 = .ok (.getfield 115, 3) ∧ decode cX11_town 102 = .ok (.invokevirtual 119, 3)))))) ∧ ((((decode cX11_town 105 = .ok (.aload_n 0, 1) ∧ decode cX11_town 106 = .ok (.getfield 60, 3)) ∧ (decode cX11_town 109 = .ok (.aload_n 0, 1) ∧ decode cX11_town 110 = .ok (.getfield 27, 3))) ∧ ((decode cX11_town 113 = .ok (.aload_n 0, 1) ∧ decode cX11_town 114 = .ok (.getfield 40, 3)) ∧ (decode cX11_town 117 = .ok (.invokevirtual 123, 3) ∧ (decode cX11_town 120 = .ok (.aload_n 0, 1) ∧ decode cX11_town 121 = .ok (.getfield 74, 3))))) ∧ (((decode cX11_town 124 = .ok (.iconst 0, 1) ∧ decode cX11_town 125 = .ok (.putfield 127, 3)) ∧ (decode cX11_town 128 = .ok (.aload_n 0, 1) ∧ decode cX11_town 129 = .ok (.iconst 0, 1))) ∧ ((decode cX11_town 130 = .ok (.putfield 130, 3) ∧ decode cX11_town 133 = .ok (.aload_n 0, 1)) ∧ (decode cX11_town 134 = .ok (.getfield 27, 3) ∧ (decode cX11_town 137 = .ok (.getfield 133, 3) ∧ decode cX11_town 140 = .ok (.ireturn, 1)))))))) := ⟨⟨⟨by decide +kernel, by decide +kernel⟩, ⟨by decide +kernel, by decide +kernel⟩⟩, ⟨⟨by decide +kernel, by decide +kernel⟩, ⟨by decide +kernel, by decide +kernel⟩⟩⟩
def X11_town_b19 (s : St) (x0 x1 k0 k1 k2 : Int) : Rs :=
  grd (isK s 21 k2) (bnd (X11_refused s k2 k1 k0) (fun r1 s2 => if r1 = 0 then (grd (isK s2 21 x0) (lets (pI s2 x0 1 0) (fun s3 => grd (isK s3 21 x0) (grd (isK s3 21 x0) (grd (isK s3 14 (gR s3 x0 5)) (bnd (X4_read s3 (gR s3 x0 5) (gR s3 x0 0) x1) (fun r4 s5 => grd (isK s5 21 x0) (grd (isK s5 14 (gR s5 x0 5)) (grd (isK s5 21 x0) (lets (pI s5 x0 3 (gI s5 (gR s5 x0 5) 1)) (fun s6 => grd (isK s6 21 x0) (grd (isK s6 14 (gR s6 x0 5)) (grd (isK s6 21 x0) (lets (pI s6 x0 4 (gI s6 (gR s6 x0 5) 2)) (fun s7 => if ¬ r4 = 0 then (grd (isK s7 21 x0) (grd (isK s7 21 x0) (grd (isK s7 14 (gR s7 x0 5)) (grd (isK s7 19 (gR s7 x0 6)) (bnd (X9_copy s7 (gR s7 x0 6) (gR s7 (gR s7 x0 5) 0)) (fun r8 s9 => grd (isK s9 21 x0) (grd (isK s9 21 x0) (grd (isK s9 19 (gR s9 x0 6)) (grd (isK s9 20 (gR s9 x0 7)) (bnd (X10_settle s9 (gR s9 x0 7) (gR s9 (gR s9 x0 6) 6)) (fun r10 s11 => grd (isK s11 21 x0) (grd (isK s11 21 x0) (grd (isK s11 21 x0) (grd (isK s11 11 (gR s11 x0 11)) (bnd (X1_list s11 (gR s11 x0 11) (gR s11 x0 6) (gR s11 x0 8)) (fun r12 s13 => grd (isK s13 21 x0) (grd (isK s13 13 (gR s13 x0 13)) (lets (pI s13 (gR s13 x0 13) 0 0) (fun s14 => grd (isK s14 21 x0) (lets (pI s14 x0 15 0) (fun s15 => grd (isK s15 21 x0) (grd (isK s15 19 (gR s15 x0 6)) (some ((gI s15 (gR s15 x0 6) 2), s15)))))))))))))))))))))))) else (grd (isK s7 21 x0) (bnd (X11_refuse s7 x0 4) (fun r16 s17 => some (r16, s17))))))))))))))))))) else (some ((-1), s2))))
set_option maxRecDepth 100000 in
set_option maxHeartbeats 4000000 in
theorem X11_town_b19_s (G : Gx) (l : Launch) (s : St) (x0 x1 k0 k1 k2 : Int) : V G l mX11_town 19 [(0, (2, x0)), (1, (0, x1))] [(0, k0), (0, k1), (2, k2)] s (X11_town_b19 s x0 x1 k0 k1 k2) := by
  unfold X11_town_b19
  refine V_callV0 (ci := 11) (a := k2) (As := [(0, k1), (0, k0)]) (st := []) rfl rfl (X11_refused_s G l s k2 k1 k0) cal_X11_refused rfl ml_X11_92 rfl rfl dec_X11_town.1.1.2.1.2.2 (k_tag (tag := 0) rfl fun r1 s2 => ?_)
  refine V_if_eq (tgt := 27) dec_X11_town.1.1.2.2.1.1 (by decide) ?_ ?_
  · refine V_aload_n dec_X11_town.1.1.2.2.2.2.1 0 rfl ?_
    refine V_iconst dec_X11_town.1.1.2.2.2.2.2 rfl ?_
    refine V_putI (host := "") 11 1 nf_11_1 ty_11_1 (Or.inl ⟨fl_X11_85, Or.inl rfl⟩) dec_X11_town.1.2.1.1.1.1 ?_
    refine V_lets fun s3 => ?_
    refine V_aload_n dec_X11_town.1.2.1.1.1.2 0 rfl ?_
    refine V_getR 11 5 nf_11_5 ft_11_5 fl_X11_20 dec_X11_town.1.2.1.1.2.1 ?_
    refine V_aload_n dec_X11_town.1.2.1.1.2.2 0 rfl ?_
    refine V_getR 11 0 nf_11_0 ft_11_0 fl_X11_9 dec_X11_town.1.2.1.2.1.1 ?_
    refine V_iload_n dec_X11_town.1.2.1.2.1.2 1 rfl ?_
    refine V_callV0 (ci := 4) (a := (gR s3 x0 5)) (As := [(2, (gR s3 x0 0)), (0, x1)]) (st := []) rfl rfl (X4_read_s G l s3 (gR s3 x0 5) (gR s3 x0 0) x1) cal_X4_read rfl ml_X11_96 rfl rfl dec_X11_town.1.2.1.2.2.1 (k_tag (tag := 0) rfl fun r4 s5 => ?_)
    refine V_istore_n (lv' := [(2, (0, r4)), (0, (2, x0)), (1, (0, x1))]) dec_X11_town.1.2.1.2.2.2.1 (by decide) rfl ?_
    refine V_aload_n dec_X11_town.1.2.1.2.2.2.2 1 rfl ?_
    refine V_aload_n dec_X11_town.1.2.2.1.1.1 1 rfl ?_
    refine V_getR 11 5 nf_11_5 ft_11_5 fl_X11_20 dec_X11_town.1.2.2.1.1.2 ?_
    refine V_getI 4 1 nf_4_1 ft_4_1 fl_X11_100 dec_X11_town.1.2.2.1.2.1 ?_
    refine V_putI (host := "") 11 3 nf_11_3 ty_11_3 (Or.inl ⟨fl_X11_103, Or.inl rfl⟩) dec_X11_town.1.2.2.1.2.2 ?_
    refine V_lets fun s6 => ?_
    refine V_aload_n dec_X11_town.1.2.2.2.1.1 1 rfl ?_
    refine V_aload_n dec_X11_town.1.2.2.2.1.2 1 rfl ?_
    refine V_getR 11 5 nf_11_5 ft_11_5 fl_X11_20 dec_X11_town.1.2.2.2.2.1 ?_
    refine V_getI 4 2 nf_4_2 ft_4_2 fl_X11_104 dec_X11_town.1.2.2.2.2.2.1 ?_
    refine V_putI (host := "") 11 4 nf_11_4 ty_11_4 (Or.inl ⟨fl_X11_13, Or.inl rfl⟩) dec_X11_town.1.2.2.2.2.2.2 ?_
    refine V_lets fun s7 => ?_
    refine V_iload_n dec_X11_town.2.1.1.1.1.1 0 rfl ?_
    refine V_if_ne (tgt := 77) dec_X11_town.2.1.1.1.1.2 (by decide) ?_ ?_
    · refine V_aload_n dec_X11_town.2.1.1.2.2.1 1 rfl ?_
      refine V_getR 11 6 nf_11_6 ft_11_6 fl_X11_27 dec_X11_town.2.1.1.2.2.2.1 ?_
      refine V_aload_n dec_X11_town.2.1.1.2.2.2.2 1 rfl ?_
      refine V_getR 11 5 nf_11_5 ft_11_5 fl_X11_20 dec_X11_town.2.1.2.1.1.1 ?_
      refine V_getR 4 0 nf_4_0 ft_4_0 fl_X11_109 dec_X11_town.2.1.2.1.1.2 ?_
      refine V_callV0 (ci := 9) (a := (gR s7 x0 6)) (As := [(2, (gR s7 (gR s7 x0 5) 0))]) (st := []) rfl rfl (X9_copy_s G l s7 (gR s7 x0 6) (gR s7 (gR s7 x0 5) 0)) cal_X9_copy rfl ml_X11_112 rfl rfl dec_X11_town.2.1.2.1.2.1 (k_void rfl fun r8 s9 => ?_)
      refine V_aload_n dec_X11_town.2.1.2.1.2.2 1 rfl ?_
      refine V_getR 11 7 nf_11_7 ft_11_7 fl_X11_36 dec_X11_town.2.1.2.2.1.1 ?_
      refine V_aload_n dec_X11_town.2.1.2.2.1.2 1 rfl ?_
      refine V_getR 11 6 nf_11_6 ft_11_6 fl_X11_27 dec_X11_town.2.1.2.2.2.1 ?_
      refine V_getR 9 6 nf_9_6 ft_9_6 fl_X11_115 dec_X11_town.2.1.2.2.2.2.1 ?_
      refine V_callV0 (ci := 10) (a := (gR s9 x0 7)) (As := [(2, (gR s9 (gR s9 x0 6) 6))]) (st := []) rfl rfl (X10_settle_s G l s9 (gR s9 x0 7) (gR s9 (gR s9 x0 6) 6)) cal_X10_settle rfl ml_X11_119 rfl rfl dec_X11_town.2.1.2.2.2.2.2 (k_void rfl fun r10 s11 => ?_)
      refine V_aload_n dec_X11_town.2.2.1.1.1.1 1 rfl ?_
      refine V_getR 11 11 nf_11_11 ft_11_11 fl_X11_60 dec_X11_town.2.2.1.1.1.2 ?_
      refine V_aload_n dec_X11_town.2.2.1.1.2.1 1 rfl ?_
      refine V_getR 11 6 nf_11_6 ft_11_6 fl_X11_27 dec_X11_town.2.2.1.1.2.2 ?_
      refine V_aload_n dec_X11_town.2.2.1.2.1.1 1 rfl ?_
      refine V_getR 11 8 nf_11_8 ft_11_8 fl_X11_40 dec_X11_town.2.2.1.2.1.2 ?_
      refine V_callV0 (ci := 1) (a := (gR s11 x0 11)) (As := [(2, (gR s11 x0 6)), (2, (gR s11 x0 8))]) (st := []) rfl rfl (X1_list_s G l s11 (gR s11 x0 11) (gR s11 x0 6) (gR s11 x0 8)) cal_X1_list rfl ml_X11_123 rfl rfl dec_X11_town.2.2.1.2.2.1 (k_void rfl fun r12 s13 => ?_)
      refine V_aload_n dec_X11_town.2.2.1.2.2.2.1 1 rfl ?_
      refine V_getR 11 13 nf_11_13 ft_11_13 fl_X11_74 dec_X11_town.2.2.1.2.2.2.2 ?_
      refine V_iconst dec_X11_town.2.2.2.1.1.1 rfl ?_
      refine V_putI (host := "") 3 0 nf_3_0 ty_3_0 (Or.inl ⟨fl_X11_127, Or.inl rfl⟩) dec_X11_town.2.2.2.1.1.2 ?_
      refine V_lets fun s14 => ?_
      refine V_aload_n dec_X11_town.2.2.2.1.2.1 1 rfl ?_
      refine V_iconst dec_X11_town.2.2.2.1.2.2 rfl ?_
      refine V_putI (host := "") 11 15 nf_11_15 ty_11_15 (Or.inl ⟨fl_X11_130, Or.inl rfl⟩) dec_X11_town.2.2.2.2.1.1 ?_
      refine V_lets fun s15 => ?_
      refine V_aload_n dec_X11_town.2.2.2.2.1.2 1 rfl ?_
      refine V_getR 11 6 nf_11_6 ft_11_6 fl_X11_27 dec_X11_town.2.2.2.2.2.1 ?_
      refine V_getI 9 2 nf_9_2 ft_9_2 fl_X11_133 dec_X11_town.2.2.2.2.2.2.1 ?_
      exact V_iret rfl dec_X11_town.2.2.2.2.2.2.2
    · refine V_aload_n dec_X11_town.2.1.1.1.2.1 1 rfl ?_
      refine V_iconst dec_X11_town.2.1.1.1.2.2 rfl ?_
      refine V_callV0 (ci := 11) (a := x0) (As := [(0, 4)]) (st := []) rfl rfl (X11_refuse_s G l s7 x0 4) cal_X11_refuse rfl ml_X11_105 rfl rfl dec_X11_town.2.1.1.2.1.1 (k_tag (tag := 0) rfl fun r16 s17 => ?_)
      exact V_iret rfl dec_X11_town.2.1.1.2.1.2
  · refine V_iconst dec_X11_town.1.1.2.2.1.2 rfl ?_
    exact V_iret rfl dec_X11_town.1.1.2.2.2.1
def X11_town_b14 (s : St) (x0 x1 k0 k1 : Int) : Rs :=
  X11_town_b19 s x0 x1 1 k0 k1
set_option maxRecDepth 100000 in
set_option maxHeartbeats 4000000 in
theorem X11_town_b14_s (G : Gx) (l : Launch) (s : St) (x0 x1 k0 k1 : Int) : V G l mX11_town 14 [(0, (2, x0)), (1, (0, x1))] [(0, k0), (2, k1)] s (X11_town_b14 s x0 x1 k0 k1) := by
  unfold X11_town_b14
  refine V_iconst dec_X11_town.1.1.2.1.1.1 rfl ?_
  refine V_goto (tgt := 19) dec_X11_town.1.1.2.1.1.2 (by decide) ?_
  exact V_pick [0, 1] rfl (X11_town_b19_s G l s x0 x1 1 k0 k1)
def X11_town (s : St) (a0 a1 : Int) : Rs :=
  if a1 < 0 then (X11_town_b14 s a0 a1 0 a0) else (grd (isK s 21 a0) (if a1 ≤ (gI s a0 1) then (X11_town_b19 s a0 a1 0 0 a0) else (X11_town_b14 s a0 a1 0 a0)))
set_option maxRecDepth 100000 in
set_option maxHeartbeats 4000000 in
theorem X11_town_s (G : Gx) (l : Launch) (s : St) (a0 a1 : Int) : Snd G l mX11_town [(2, a0), (0, a1)] s (X11_town s a0 a1) := by
  refine Snd.of (by decide +kernel) rfl ?_
  show V G l mX11_town 0 [(0, (2, a0)), (1, (0, a1))] [] s _
  unfold X11_town
  refine V_aload_n dec_X11_town.1.1.1.1.1.1 0 rfl ?_
  refine V_iconst dec_X11_town.1.1.1.1.1.2 rfl ?_
  refine V_iload_n dec_X11_town.1.1.1.1.2.1 1 rfl ?_
  refine V_if_lt (tgt := 14) dec_X11_town.1.1.1.1.2.2 (by decide) ?_ ?_
  · exact V_pick [0, 1] rfl (X11_town_b14_s G l s a0 a1 0 a0)
  · refine V_iload_n dec_X11_town.1.1.1.2.1.1 1 rfl ?_
    refine V_aload_n dec_X11_town.1.1.1.2.1.2 0 rfl ?_
    refine V_getI 11 1 nf_11_1 ft_11_1 fl_X11_85 dec_X11_town.1.1.1.2.2.1 ?_
    refine V_icmp_le (tgt := 18) dec_X11_town.1.1.1.2.2.2 (by decide) ?_ ?_
    · refine V_iconst dec_X11_town.1.1.2.1.2.1 rfl ?_
      exact V_pick [0, 1] rfl (X11_town_b19_s G l s a0 a1 0 0 a0)
    · exact V_pick [0, 1] rfl (X11_town_b14_s G l s a0 a1 0 a0)
theorem dec_X11_trouble : (decode cX11_trouble 0 = .ok (.aload_n 0, 1) ∧ (decode cX11_trouble 1 = .ok (.getfield 136, 3) ∧ decode cX11_trouble 4 = .ok (.ireturn, 1))) := by decide +kernel
def X11_trouble (s : St) (a0 : Int) : Rs :=
  grd (isK s 21 a0) (some ((gI s a0 2), s))
set_option maxRecDepth 100000 in
set_option maxHeartbeats 4000000 in
theorem X11_trouble_s (G : Gx) (l : Launch) (s : St) (a0 : Int) : Snd G l mX11_trouble [(2, a0)] s (X11_trouble s a0) := by
  refine Snd.of (by decide +kernel) rfl ?_
  show V G l mX11_trouble 0 [(0, (2, a0))] [] s _
  unfold X11_trouble
  refine V_aload_n dec_X11_trouble.1 0 rfl ?_
  refine V_getI 11 2 nf_11_2 ft_11_2 fl_X11_136 dec_X11_trouble.2.1 ?_
  exact V_iret rfl dec_X11_trouble.2.2
theorem dec_X3_revertLatest : (((((decode cX3_revertLatest 0 = .ok (.aload_n 0, 1) ∧ (decode cX3_revertLatest 1 = .ok (.getfield 19, 3) ∧ decode cX3_revertLatest 4 = .ok (.iconst 1, 1))) ∧ (decode cX3_revertLatest 5 = .ok (.if_icmp .ge 4, 3) ∧ (decode cX3_revertLatest 8 = .ok (.return_, 1) ∧ decode cX3_revertLatest 9 = .ok (.aload_n 0, 1)))) ∧ ((decode cX3_revertLatest 10 = .ok (.dup, 1) ∧ (decode cX3_revertLatest 11 = .ok (.getfield 19, 3) ∧ decode cX3_revertLatest 14 = .ok (.iconst 1, 1))) ∧ ((decode cX3_revertLatest 15 = .ok (.isub, 1) ∧ decode cX3_revertLatest 16 = .ok (.putfield 19, 3)) ∧ (decode cX3_revertLatest 19 = .ok (.aload_n 0, 1) ∧ decode cX3_revertLatest 20 = .ok (.getfield 13, 3))))) ∧ (((decode cX3_revertLatest 23 = .ok (.aload_n 0, 1) ∧ (decode cX3_revertLatest 24 = .ok (.getfield 19, 3) ∧ decode cX3_revertLatest 27 = .ok (.iaload, 1))) ∧ (decode cX3_revertLatest 28 = .ok (.istore_n 2, 1) ∧ (decode cX3_revertLatest 29 = .ok (.aload_n 0, 1) ∧ decode cX3_revertLatest 30 = .ok (.getfield 16, 3)))) ∧ ((decode cX3_revertLatest 33 = .ok (.aload_n 0, 1) ∧ (decode cX3_revertLatest 34 = .ok (.getfield 19, 3) ∧ decode cX3_revertLatest 37 = .ok (.iaload, 1))) ∧ ((decode cX3_revertLatest 38 = .ok (.istore_n 3, 1) ∧ decode cX3_revertLatest 39 = .ok (.aload_n 0, 1)) ∧ (decode cX3_revertLatest 40 = .ok (.getfield 9, 3) ∧ decode cX3_revertLatest 43 = .ok (.aload_n 0, 1)))))) ∧ ((((decode cX3_revertLatest 44 = .ok (.getfield 19, 3) ∧ (decode cX3_revertLatest 47 = .ok (.iaload, 1) ∧ decode cX3_revertLatest 48 = .ok (.tableswitch 61 0 2 #[28, 39, 48], 28))) ∧ (decode cX3_revertLatest 76 = .ok (.aload_n 1, 1) ∧ (decode cX3_revertLatest 77 = .ok (.getfield 26, 3) ∧ decode cX3_revertLatest 80 = .ok (.iload_n 3, 1)))) ∧ ((decode cX3_revertLatest 81 = .ok (.putfield 32, 3) ∧ (decode cX3_revertLatest 84 = .ok (.goto 35, 3) ∧ decode cX3_revertLatest 87 = .ok (.aload_n 1, 1))) ∧ ((decode cX3_revertLatest 88 = .ok (.iload_n 2, 1) ∧ decode cX3_revertLatest 89 = .ok (.iload_n 3, 1)) ∧ (decode cX3_revertLatest 90 = .ok (.invokevirtual 37, 3) ∧ decode cX3_revertLatest 93 = .ok (.goto 26, 3))))) ∧ (((decode cX3_revertLatest 96 = .ok (.aload_n 1, 1) ∧ (decode cX3_revertLatest 97 = .ok (.getfield 26, 3) ∧ decode cX3_revertLatest 100 = .ok (.getfield 41, 3))) ∧ ((decode cX3_revertLatest 103 = .ok (.iload_n 2, 1) ∧ decode cX3_revertLatest 104 = .ok (.iload_n 3, 1)) ∧ (decode cX3_revertLatest 105 = .ok (.iastore, 1) ∧ decode cX3_revertLatest 106 = .ok (.goto 13, 3)))) ∧ ((decode cX3_revertLatest 109 = .ok (.aload_n 1, 1) ∧ (decode cX3_revertLatest 110 = .ok (.getfield 26, 3) ∧ decode cX3_revertLatest 113 = .ok (.getfield 44, 3))) ∧ ((decode cX3_revertLatest 116 = .ok (.iload_n 2, 1) ∧ decode cX3_revertLatest 117 = .ok (.iload_n 3, 1)) ∧ (decode cX3_revertLatest 118 = .ok (.iastore, 1) ∧ decode cX3_revertLatest 119 = .ok (.return_, 1))))))) := ⟨⟨⟨by decide +kernel, by decide +kernel⟩, ⟨by decide +kernel, by decide +kernel⟩⟩, ⟨⟨by decide +kernel, by decide +kernel⟩, ⟨by decide +kernel, by decide +kernel⟩⟩⟩
def X3_revertLatest_b119 (s : St) : Rs :=
  some (0, s)
set_option maxRecDepth 100000 in
set_option maxHeartbeats 4000000 in
theorem X3_revertLatest_b119_s (G : Gx) (l : Launch) (s : St) : V G l mX3_revertLatest 119 [] [] s (X3_revertLatest_b119 s) := by
  unfold X3_revertLatest_b119
  exact V_vret rfl dec_X3_revertLatest.2.2.2.2.2.2
def X3_revertLatest (s : St) (a0 a1 : Int) : Rs :=
  grd (isK s 13 a0) (if (1 : Int) ≤ (gI s a0 0) then (grd (isK s 13 a0) (grd (isK s 13 a0) (lets (pI s a0 0 (w32 ((gI s a0 0) - 1))) (fun s1 => grd (isK s1 13 a0) (grd (isK s1 13 a0) (grd (isK s1 1 (gR s1 a0 2) ∧ 0 ≤ (gI s1 a0 0) ∧ (gI s1 a0 0) < ln s1 (gR s1 a0 2)) (letv (gI s1 (gR s1 a0 2) (gI s1 a0 0).toNat) (fun y2 => grd (isK s1 13 a0) (grd (isK s1 13 a0) (grd (isK s1 1 (gR s1 a0 3) ∧ 0 ≤ (gI s1 a0 0) ∧ (gI s1 a0 0) < ln s1 (gR s1 a0 3)) (letv (gI s1 (gR s1 a0 3) (gI s1 a0 0).toNat) (fun y3 => grd (isK s1 13 a0) (grd (isK s1 13 a0) (grd (isK s1 1 (gR s1 a0 1) ∧ 0 ≤ (gI s1 a0 0) ∧ (gI s1 a0 0) < ln s1 (gR s1 a0 1)) (swt (gI s1 (gR s1 a0 1) (gI s1 a0 0).toNat) 0 [grd (isK s1 20 a1) (grd (isK s1 16 (gR s1 a1 1)) (lets (pI s1 (gR s1 a1 1) 0 y3) (fun s4 => X3_revertLatest_b119 s4))), grd (isK s1 20 a1) (bnd (X10_putPerson s1 a1 y2 y3) (fun r5 s6 => X3_revertLatest_b119 s6)), grd (isK s1 20 a1) (grd (isK s1 16 (gR s1 a1 1)) (grd (isK s1 1 (gR s1 (gR s1 a1 1) 3) ∧ 0 ≤ y2 ∧ y2 < ln s1 (gR s1 (gR s1 a1 1) 3)) (lets (pI s1 (gR s1 (gR s1 a1 1) 3) y2.toNat y3) (fun s7 => X3_revertLatest_b119 s7))))] (grd (isK s1 20 a1) (grd (isK s1 16 (gR s1 a1 1)) (grd (isK s1 1 (gR s1 (gR s1 a1 1) 2) ∧ 0 ≤ y2 ∧ y2 < ln s1 (gR s1 (gR s1 a1 1) 2)) (lets (pI s1 (gR s1 (gR s1 a1 1) 2) y2.toNat y3) (fun s8 => X3_revertLatest_b119 s8)))))))))))))))))))) else (some (0, s)))
set_option maxRecDepth 100000 in
set_option maxHeartbeats 4000000 in
theorem X3_revertLatest_s (G : Gx) (l : Launch) (s : St) (a0 a1 : Int) : Snd G l mX3_revertLatest [(2, a0), (2, a1)] s (X3_revertLatest s a0 a1) := by
  refine Snd.of (by decide +kernel) rfl ?_
  show V G l mX3_revertLatest 0 [(0, (2, a0)), (1, (2, a1))] [] s _
  unfold X3_revertLatest
  refine V_aload_n dec_X3_revertLatest.1.1.1.1.1 0 rfl ?_
  refine V_getI 3 0 nf_3_0 ft_3_0 fl_X3_19 dec_X3_revertLatest.1.1.1.1.2.1 ?_
  refine V_iconst dec_X3_revertLatest.1.1.1.1.2.2 rfl ?_
  refine V_icmp_ge (tgt := 9) dec_X3_revertLatest.1.1.1.2.1 (by decide) ?_ ?_
  · refine V_aload_n dec_X3_revertLatest.1.1.1.2.2.2 0 rfl ?_
    refine V_dup (nl2 _) dec_X3_revertLatest.1.1.2.1.1 ?_
    refine V_getI 3 0 nf_3_0 ft_3_0 fl_X3_19 dec_X3_revertLatest.1.1.2.1.2.1 ?_
    refine V_iconst dec_X3_revertLatest.1.1.2.1.2.2 rfl ?_
    refine V_isub dec_X3_revertLatest.1.1.2.2.1.1 ?_
    refine V_putI (host := "") 3 0 nf_3_0 ty_3_0 (Or.inl ⟨fl_X3_19, Or.inl rfl⟩) dec_X3_revertLatest.1.1.2.2.1.2 ?_
    refine V_lets fun s1 => ?_
    refine V_aload_n dec_X3_revertLatest.1.1.2.2.2.1 0 rfl ?_
    refine V_getR 3 2 nf_3_2 ft_3_2 fl_X3_13 dec_X3_revertLatest.1.1.2.2.2.2 ?_
    refine V_aload_n dec_X3_revertLatest.1.2.1.1.1 0 rfl ?_
    refine V_getI 3 0 nf_3_0 ft_3_0 fl_X3_19 dec_X3_revertLatest.1.2.1.1.2.1 ?_
    refine V_iald dec_X3_revertLatest.1.2.1.1.2.2 ?_
    refine V_letv fun y2 => ?_
    refine V_istore_n (lv' := [(2, (0, y2)), (0, (2, a0)), (1, (2, a1))]) dec_X3_revertLatest.1.2.1.2.1 (by decide) rfl ?_
    refine V_aload_n dec_X3_revertLatest.1.2.1.2.2.1 1 rfl ?_
    refine V_getR 3 3 nf_3_3 ft_3_3 fl_X3_16 dec_X3_revertLatest.1.2.1.2.2.2 ?_
    refine V_aload_n dec_X3_revertLatest.1.2.2.1.1 1 rfl ?_
    refine V_getI 3 0 nf_3_0 ft_3_0 fl_X3_19 dec_X3_revertLatest.1.2.2.1.2.1 ?_
    refine V_iald dec_X3_revertLatest.1.2.2.1.2.2 ?_
    refine V_letv fun y3 => ?_
    refine V_istore_n (lv' := [(3, (0, y3)), (2, (0, y2)), (0, (2, a0)), (1, (2, a1))]) dec_X3_revertLatest.1.2.2.2.1.1 (by decide) rfl ?_
    refine V_aload_n dec_X3_revertLatest.1.2.2.2.1.2 2 rfl ?_
    refine V_getR 3 1 nf_3_1 ft_3_1 fl_X3_9 dec_X3_revertLatest.1.2.2.2.2.1 ?_
    refine V_aload_n dec_X3_revertLatest.1.2.2.2.2.2 2 rfl ?_
    refine V_getI 3 0 nf_3_0 ft_3_0 fl_X3_19 dec_X3_revertLatest.2.1.1.1.1 ?_
    refine V_iald dec_X3_revertLatest.2.1.1.1.2.1 ?_
    refine V_tsw (ts := [76, 87, 96]) (td := 109) dec_X3_revertLatest.2.1.1.1.2.2 (by decide) (by decide) (by decide) ⟨?_, ?_, ?_, trivial⟩ ?_
    · refine V_aload_n dec_X3_revertLatest.2.1.1.2.1 3 rfl ?_
      refine V_getR 10 1 nf_10_1 ft_10_1 fl_X3_26 dec_X3_revertLatest.2.1.1.2.2.1 ?_
      refine V_iload_n dec_X3_revertLatest.2.1.1.2.2.2 0 rfl ?_
      refine V_putI (host := "") 6 0 nf_6_0 ty_6_0 (Or.inl ⟨fl_X3_32, Or.inl rfl⟩) dec_X3_revertLatest.2.1.2.1.1 ?_
      refine V_lets fun s4 => ?_
      refine V_goto (tgt := 119) dec_X3_revertLatest.2.1.2.1.2.1 (by decide) ?_
      exact V_pick [] rfl (X3_revertLatest_b119_s G l s4)
    · refine V_aload_n dec_X3_revertLatest.2.1.2.1.2.2 3 rfl ?_
      refine V_iload_n dec_X3_revertLatest.2.1.2.2.1.1 1 rfl ?_
      refine V_iload_n dec_X3_revertLatest.2.1.2.2.1.2 0 rfl ?_
      refine V_callV0 (ci := 10) (a := a1) (As := [(0, y2), (0, y3)]) (st := []) rfl rfl (X10_putPerson_s G l s1 a1 y2 y3) cal_X10_putPerson rfl ml_X3_37 rfl rfl dec_X3_revertLatest.2.1.2.2.2.1 (k_void rfl fun r5 s6 => ?_)
      refine V_goto (tgt := 119) dec_X3_revertLatest.2.1.2.2.2.2 (by decide) ?_
      exact V_pick [] rfl (X3_revertLatest_b119_s G l s6)
    · refine V_aload_n dec_X3_revertLatest.2.2.1.1.1 3 rfl ?_
      refine V_getR 10 1 nf_10_1 ft_10_1 fl_X3_26 dec_X3_revertLatest.2.2.1.1.2.1 ?_
      refine V_getR 6 3 nf_6_3 ft_6_3 fl_X3_41 dec_X3_revertLatest.2.2.1.1.2.2 ?_
      refine V_iload_n dec_X3_revertLatest.2.2.1.2.1.1 1 rfl ?_
      refine V_iload_n dec_X3_revertLatest.2.2.1.2.1.2 0 rfl ?_
      refine V_iast dec_X3_revertLatest.2.2.1.2.2.1 ?_
      refine V_lets fun s7 => ?_
      refine V_goto (tgt := 119) dec_X3_revertLatest.2.2.1.2.2.2 (by decide) ?_
      exact V_pick [] rfl (X3_revertLatest_b119_s G l s7)
    · refine V_aload_n dec_X3_revertLatest.2.2.2.1.1 3 rfl ?_
      refine V_getR 10 1 nf_10_1 ft_10_1 fl_X3_26 dec_X3_revertLatest.2.2.2.1.2.1 ?_
      refine V_getR 6 2 nf_6_2 ft_6_2 fl_X3_44 dec_X3_revertLatest.2.2.2.1.2.2 ?_
      refine V_iload_n dec_X3_revertLatest.2.2.2.2.1.1 1 rfl ?_
      refine V_iload_n dec_X3_revertLatest.2.2.2.2.1.2 0 rfl ?_
      refine V_iast dec_X3_revertLatest.2.2.2.2.2.1 ?_
      refine V_lets fun s8 => ?_
      exact V_pick [] rfl (X3_revertLatest_b119_s G l s8)
  · exact V_vret rfl dec_X3_revertLatest.1.1.1.2.2.1
theorem dec_X11_undo : ((((decode cX11_undo 0 = .ok (.aload_n 0, 1) ∧ decode cX11_undo 1 = .ok (.aload_n 0, 1)) ∧ (decode cX11_undo 2 = .ok (.getfield 74, 3) ∧ (decode cX11_undo 5 = .ok (.getfield 127, 3) ∧ decode cX11_undo 8 = .ok (.ifCond .ne 8, 3)))) ∧ ((decode cX11_undo 11 = .ok (.bipush 6, 2) ∧ decode cX11_undo 13 = .ok (.goto 4, 3)) ∧ (decode cX11_undo 16 = .ok (.iconst 0, 1) ∧ (decode cX11_undo 17 = .ok (.putfield 136, 3) ∧ decode cX11_undo 20 = .ok (.aload_n 0, 1))))) ∧ (((decode cX11_undo 21 = .ok (.getfield 136, 3) ∧ decode cX11_undo 24 = .ok (.ifCond .eq 5, 3)) ∧ (decode cX11_undo 27 = .ok (.iconst 0, 1) ∧ (decode cX11_undo 28 = .ok (.ireturn, 1) ∧ decode cX11_undo 29 = .ok (.aload_n 0, 1)))) ∧ ((decode cX11_undo 30 = .ok (.getfield 74, 3) ∧ (decode cX11_undo 33 = .ok (.aload_n 0, 1) ∧ decode cX11_undo 34 = .ok (.getfield 36, 3))) ∧ (decode cX11_undo 37 = .ok (.invokevirtual 354, 3) ∧ (decode cX11_undo 40 = .ok (.iconst 1, 1) ∧ decode cX11_undo 41 = .ok (.ireturn, 1)))))) := ⟨by decide +kernel, by decide +kernel⟩
def X11_undo_b17 (s : St) (x0 k0 k1 : Int) : Rs :=
  grd (isK s 21 k1) (lets (pI s k1 2 k0) (fun s1 => grd (isK s1 21 x0) (if (gI s1 x0 2) = 0 then (grd (isK s1 21 x0) (grd (isK s1 21 x0) (grd (isK s1 13 (gR s1 x0 13)) (bnd (X3_revertLatest s1 (gR s1 x0 13) (gR s1 x0 7)) (fun r2 s3 => grd ((1 : Int) = 0 ∨ (1 : Int) = 1) (some (1, s3))))))) else (grd ((0 : Int) = 0 ∨ (0 : Int) = 1) (some (0, s1))))))
set_option maxRecDepth 100000 in
set_option maxHeartbeats 4000000 in
theorem X11_undo_b17_s (G : Gx) (l : Launch) (s : St) (x0 k0 k1 : Int) : V G l mX11_undo 17 [(0, (2, x0))] [(0, k0), (2, k1)] s (X11_undo_b17 s x0 k0 k1) := by
  unfold X11_undo_b17
  refine V_putI (host := "") 11 2 nf_11_2 ty_11_2 (Or.inl ⟨fl_X11_136, Or.inl rfl⟩) dec_X11_undo.1.2.2.2.1 ?_
  refine V_lets fun s1 => ?_
  refine V_aload_n dec_X11_undo.1.2.2.2.2 0 rfl ?_
  refine V_getI 11 2 nf_11_2 ft_11_2 fl_X11_136 dec_X11_undo.2.1.1.1 ?_
  refine V_if_eq (tgt := 29) dec_X11_undo.2.1.1.2 (by decide) ?_ ?_
  · refine V_aload_n dec_X11_undo.2.1.2.2.2 0 rfl ?_
    refine V_getR 11 13 nf_11_13 ft_11_13 fl_X11_74 dec_X11_undo.2.2.1.1 ?_
    refine V_aload_n dec_X11_undo.2.2.1.2.1 0 rfl ?_
    refine V_getR 11 7 nf_11_7 ft_11_7 fl_X11_36 dec_X11_undo.2.2.1.2.2 ?_
    refine V_callV0 (ci := 3) (a := (gR s1 x0 13)) (As := [(2, (gR s1 x0 7))]) (st := []) rfl rfl (X3_revertLatest_s G l s1 (gR s1 x0 13) (gR s1 x0 7)) cal_X3_revertLatest rfl ml_X11_354 rfl rfl dec_X11_undo.2.2.2.1 (k_void rfl fun r2 s3 => ?_)
    refine V_iconst dec_X11_undo.2.2.2.2.1 rfl ?_
    exact V_zret rfl dec_X11_undo.2.2.2.2.2
  · refine V_iconst dec_X11_undo.2.1.2.1 rfl ?_
    exact V_zret rfl dec_X11_undo.2.1.2.2.1
def X11_undo (s : St) (a0 : Int) : Rs :=
  grd (isK s 21 a0) (grd (isK s 13 (gR s a0 13)) (if ¬ (gI s (gR s a0 13) 0) = 0 then (X11_undo_b17 s a0 0 a0) else (X11_undo_b17 s a0 6 a0)))
set_option maxRecDepth 100000 in
set_option maxHeartbeats 4000000 in
theorem X11_undo_s (G : Gx) (l : Launch) (s : St) (a0 : Int) : Snd G l mX11_undo [(2, a0)] s (X11_undo s a0) := by
  refine Snd.of (by decide +kernel) rfl ?_
  show V G l mX11_undo 0 [(0, (2, a0))] [] s _
  unfold X11_undo
  refine V_aload_n dec_X11_undo.1.1.1.1 0 rfl ?_
  refine V_aload_n dec_X11_undo.1.1.1.2 0 rfl ?_
  refine V_getR 11 13 nf_11_13 ft_11_13 fl_X11_74 dec_X11_undo.1.1.2.1 ?_
  refine V_getI 3 0 nf_3_0 ft_3_0 fl_X11_127 dec_X11_undo.1.1.2.2.1 ?_
  refine V_if_ne (tgt := 16) dec_X11_undo.1.1.2.2.2 (by decide) ?_ ?_
  · refine V_iconst dec_X11_undo.1.2.2.1 rfl ?_
    exact V_pick [0] rfl (X11_undo_b17_s G l s a0 0 a0)
  · refine V_bipush dec_X11_undo.1.2.1.1 rfl ?_
    refine V_goto (tgt := 17) dec_X11_undo.1.2.1.2 (by decide) ?_
    exact V_pick [0] rfl (X11_undo_b17_s G l s a0 6 a0)
theorem dec_X11_where : (((decode cX11_where 0 = .ok (.aload_n 0, 1) ∧ decode cX11_where 1 = .ok (.getfield 136, 3)) ∧ (decode cX11_where 4 = .ok (.iconst 4, 1) ∧ decode cX11_where 5 = .ok (.if_icmp .ne 10, 3))) ∧ ((decode cX11_where 8 = .ok (.aload_n 0, 1) ∧ decode cX11_where 9 = .ok (.getfield 13, 3)) ∧ (decode cX11_where 12 = .ok (.goto 4, 3) ∧ (decode cX11_where 15 = .ok (.iconst (-1), 1) ∧ decode cX11_where 16 = .ok (.ireturn, 1))))) := by decide +kernel
def X11_where_b16 (s : St) (k0 : Int) : Rs :=
  some (k0, s)
set_option maxRecDepth 100000 in
set_option maxHeartbeats 4000000 in
theorem X11_where_b16_s (G : Gx) (l : Launch) (s : St) (k0 : Int) : V G l mX11_where 16 [] [(0, k0)] s (X11_where_b16 s k0) := by
  unfold X11_where_b16
  exact V_iret rfl dec_X11_where.2.2.2.2
def X11_where (s : St) (a0 : Int) : Rs :=
  grd (isK s 21 a0) (if ¬ (gI s a0 2) = (4 : Int) then (X11_where_b16 s (-1)) else (grd (isK s 21 a0) (X11_where_b16 s (gI s a0 4))))
set_option maxRecDepth 100000 in
set_option maxHeartbeats 4000000 in
theorem X11_where_s (G : Gx) (l : Launch) (s : St) (a0 : Int) : Snd G l mX11_where [(2, a0)] s (X11_where s a0) := by
  refine Snd.of (by decide +kernel) rfl ?_
  show V G l mX11_where 0 [(0, (2, a0))] [] s _
  unfold X11_where
  refine V_aload_n dec_X11_where.1.1.1 0 rfl ?_
  refine V_getI 11 2 nf_11_2 ft_11_2 fl_X11_136 dec_X11_where.1.1.2 ?_
  refine V_iconst dec_X11_where.1.2.1 rfl ?_
  refine V_icmp_ne (tgt := 15) dec_X11_where.1.2.2 (by decide) ?_ ?_
  · refine V_iconst dec_X11_where.2.2.2.1 rfl ?_
    exact V_pick [] rfl (X11_where_b16_s G l s (-1))
  · refine V_aload_n dec_X11_where.2.1.1 0 rfl ?_
    refine V_getI 11 4 nf_11_4 ft_11_4 fl_X11_13 dec_X11_where.2.1.2 ?_
    refine V_goto (tgt := 16) dec_X11_where.2.2.1 (by decide) ?_
    exact V_pick [] rfl (X11_where_b16_s G l s (gI s a0 4))
theorem dec_X12_find : ((((decode cX12_find 0 = .ok (.iconst 0, 1) ∧ decode cX12_find 1 = .ok (.istore_n 3, 1)) ∧ (decode cX12_find 2 = .ok (.iload_n 3, 1) ∧ decode cX12_find 3 = .ok (.aload_n 0, 1))) ∧ ((decode cX12_find 4 = .ok (.getfield 52, 3) ∧ decode cX12_find 7 = .ok (.if_icmp .ge 22, 3)) ∧ (decode cX12_find 10 = .ok (.aload_n 0, 1) ∧ (decode cX12_find 11 = .ok (.getfield 42, 3) ∧ decode cX12_find 14 = .ok (.iload_n 3, 1))))) ∧ (((decode cX12_find 15 = .ok (.laload, 1) ∧ decode cX12_find 16 = .ok (.lload_n 1, 1)) ∧ (decode cX12_find 17 = .ok (.lcmp, 1) ∧ (decode cX12_find 18 = .ok (.ifCond .ne 5, 3) ∧ decode cX12_find 21 = .ok (.iload_n 3, 1)))) ∧ ((decode cX12_find 22 = .ok (.ireturn, 1) ∧ decode cX12_find 23 = .ok (.iinc 3 1, 3)) ∧ (decode cX12_find 26 = .ok (.goto (-24), 3) ∧ (decode cX12_find 29 = .ok (.iconst (-1), 1) ∧ decode cX12_find 30 = .ok (.ireturn, 1)))))) := ⟨by decide +kernel, by decide +kernel⟩
def X12_find_b2_body (rk2 : St → Int → Int → Int → Rs) (s : St) (x0 x1 x3 : Int) : Rs :=
  grd (isK s 22 x0) (if (gI s x0 7) ≤ x3 then (some ((-1), s)) else (grd (isK s 22 x0) (grd (isK s 3 (gR s x0 18) ∧ 0 ≤ x3 ∧ x3 < ln s (gR s x0 18)) (if ¬ (cmp3 (gI s (gR s x0 18) x3.toNat) x1) = 0 then (rk2 s x0 x1 (w32 (x3 + 1))) else (some (x3, s))))))
def X12_find_b2 (n : Nat) (s : St) (x0 x1 x3 : Int) : Rs := iter (fun (rec : St × Int × Int × Int → Rs) (a : St × Int × Int × Int) => X12_find_b2_body (fun (s : St) (x0 x1 x3 : Int) => rec (s, x0, x1, x3)) a.1 a.2.1 a.2.2.1 a.2.2.2) n (s, x0, x1, x3)
theorem X12_find_b2_0 (s : St) (x0 x1 x3 : Int) : X12_find_b2 0 s x0 x1 x3 = none := rfl
theorem X12_find_b2_1 (n : Nat) (s : St) (x0 x1 x3 : Int) : X12_find_b2 (n + 1) s x0 x1 x3 = X12_find_b2_body (X12_find_b2 n) s x0 x1 x3 := rfl
set_option maxRecDepth 100000 in
set_option maxHeartbeats 4000000 in
theorem X12_find_b2_body_s (G : Gx) (l : Launch) (rk2 : St → Int → Int → Int → Rs) (hk2 : ∀ (s : St) (x0 x1 x3 : Int), V G l mX12_find 2 [(0, (2, x0)), (1, (1, x1)), (3, (0, x3))] [] s (rk2 s x0 x1 x3)) (s : St) (x0 x1 x3 : Int) : V G l mX12_find 2 [(0, (2, x0)), (1, (1, x1)), (3, (0, x3))] [] s (X12_find_b2_body rk2 s x0 x1 x3) := by
  unfold X12_find_b2_body
  refine V_iload_n dec_X12_find.1.1.2.1 2 rfl ?_
  refine V_aload_n dec_X12_find.1.1.2.2 0 rfl ?_
  refine V_getI 12 7 nf_12_7 ft_12_7 fl_X12_52 dec_X12_find.1.2.1.1 ?_
  refine V_icmp_ge (tgt := 29) dec_X12_find.1.2.1.2 (by decide) ?_ ?_
  · refine V_iconst dec_X12_find.2.2.2.2.1 rfl ?_
    exact V_iret rfl dec_X12_find.2.2.2.2.2
  · refine V_aload_n dec_X12_find.1.2.2.1 0 rfl ?_
    refine V_getR 12 18 nf_12_18 ft_12_18 fl_X12_42 dec_X12_find.1.2.2.2.1 ?_
    refine V_iload_n dec_X12_find.1.2.2.2.2 2 rfl ?_
    refine V_lald dec_X12_find.2.1.1.1 ?_
    refine V_lload_n dec_X12_find.2.1.1.2 1 rfl ?_
    refine V_lcmp dec_X12_find.2.1.2.1 ?_
    refine V_if_ne (tgt := 23) dec_X12_find.2.1.2.2.1 (by decide) ?_ ?_
    · refine V_iinc (lv' := [(3, (0, (w32 (x3 + 1)))), (0, (2, x0)), (1, (1, x1))]) dec_X12_find.2.2.1.2 2 rfl (by decide) rfl ?_
      refine V_goto (tgt := 2) dec_X12_find.2.2.2.1 (by decide) ?_
      exact V_pick [1, 2, 0] rfl (hk2 s x0 x1 (w32 (x3 + 1)))
    · refine V_iload_n dec_X12_find.2.1.2.2.2 2 rfl ?_
      exact V_iret rfl dec_X12_find.2.2.1.1
theorem X12_find_b2_s (G : Gx) (l : Launch) (n : Nat) (s : St) (x0 x1 x3 : Int) : V G l mX12_find 2 [(0, (2, x0)), (1, (1, x1)), (3, (0, x3))] [] s (X12_find_b2 n s x0 x1 x3) :=
  V_iter (LV := fun a : St × Int × Int × Int => [(0, (2, a.2.1)), (1, (1, a.2.2.1)), (3, (0, a.2.2.2))]) (ST := fun a : St × Int × Int × Int => []) (SS := fun a : St × Int × Int × Int => a.1) (fun rec hrec a => X12_find_b2_body_s G l (fun (s : St) (x0 x1 x3 : Int) => rec (s, x0, x1, x3)) (fun (s : St) (x0 x1 x3 : Int) => hrec (s, x0, x1, x3)) a.1 a.2.1 a.2.2.1 a.2.2.2) n (s, x0, x1, x3)
def X12_find (s : St) (a0 a1 : Int) : Rs :=
  X12_find_b2 FU s a0 a1 0
set_option maxRecDepth 100000 in
set_option maxHeartbeats 4000000 in
theorem X12_find_s (G : Gx) (l : Launch) (s : St) (a0 a1 : Int) : Snd G l mX12_find [(2, a0), (1, a1)] s (X12_find s a0 a1) := by
  refine Snd.of (by decide +kernel) rfl ?_
  show V G l mX12_find 0 [(0, (2, a0)), (1, (1, a1))] [] s _
  unfold X12_find
  refine V_iconst dec_X12_find.1.1.1.1 rfl ?_
  refine V_istore_n (lv' := [(3, (0, 0)), (0, (2, a0)), (1, (1, a1))]) dec_X12_find.1.1.1.2 (by decide) rfl ?_
  exact V_pick [1, 2, 0] rfl (X12_find_b2_s G l FU s a0 a1 0)
theorem dec_X12_init : (((((decode cX12_init 0 = .ok (.aload_n 0, 1) ∧ (decode cX12_init 1 = .ok (.invokespecial 3, 3) ∧ decode cX12_init 4 = .ok (.aload_n 0, 1))) ∧ (decode cX12_init 5 = .ok (.bipush 6, 2) ∧ (decode cX12_init 7 = .ok (.newarray .int, 2) ∧ decode cX12_init 9 = .ok (.putfield 9, 3)))) ∧ ((decode cX12_init 12 = .ok (.aload_n 0, 1) ∧ (decode cX12_init 13 = .ok (.bipush 6, 2) ∧ decode cX12_init 15 = .ok (.newarray .int, 2))) ∧ ((decode cX12_init 17 = .ok (.putfield 15, 3) ∧ decode cX12_init 20 = .ok (.aload_n 0, 1)) ∧ (decode cX12_init 21 = .ok (.bipush 6, 2) ∧ decode cX12_init 23 = .ok (.newarray .int, 2))))) ∧ (((decode cX12_init 25 = .ok (.putfield 18, 3) ∧ (decode cX12_init 28 = .ok (.aload_n 0, 1) ∧ decode cX12_init 29 = .ok (.bipush 6, 2))) ∧ ((decode cX12_init 31 = .ok (.newarray .int, 2) ∧ decode cX12_init 33 = .ok (.putfield 21, 3)) ∧ (decode cX12_init 36 = .ok (.aload_n 0, 1) ∧ decode cX12_init 37 = .ok (.bipush 6, 2)))) ∧ ((decode cX12_init 39 = .ok (.newarray .int, 2) ∧ (decode cX12_init 41 = .ok (.putfield 24, 3) ∧ decode cX12_init 44 = .ok (.aload_n 0, 1))) ∧ ((decode cX12_init 45 = .ok (.iconst 4, 1) ∧ decode cX12_init 46 = .ok (.newarray .int, 2)) ∧ (decode cX12_init 48 = .ok (.putfield 27, 3) ∧ decode cX12_init 51 = .ok (.aload_n 0, 1)))))) ∧ ((((decode cX12_init 52 = .ok (.iconst 4, 1) ∧ (decode cX12_init 53 = .ok (.newarray .int, 2) ∧ decode cX12_init 55 = .ok (.putfield 30, 3))) ∧ ((decode cX12_init 58 = .ok (.aload_n 0, 1) ∧ decode cX12_init 59 = .ok (.bipush 8, 2)) ∧ (decode cX12_init 61 = .ok (.newarray .int, 2) ∧ decode cX12_init 63 = .ok (.putfield 33, 3)))) ∧ ((decode cX12_init 66 = .ok (.aload_n 0, 1) ∧ (decode cX12_init 67 = .ok (.bipush 8, 2) ∧ decode cX12_init 69 = .ok (.newarray .int, 2))) ∧ ((decode cX12_init 71 = .ok (.putfield 36, 3) ∧ decode cX12_init 74 = .ok (.aload_n 0, 1)) ∧ (decode cX12_init 75 = .ok (.bipush 8, 2) ∧ decode cX12_init 77 = .ok (.newarray .int, 2))))) ∧ (((decode cX12_init 79 = .ok (.putfield 39, 3) ∧ (decode cX12_init 82 = .ok (.aload_n 0, 1) ∧ decode cX12_init 83 = .ok (.bipush 12, 2))) ∧ ((decode cX12_init 85 = .ok (.newarray .long, 2) ∧ decode cX12_init 87 = .ok (.putfield 42, 3)) ∧ (decode cX12_init 90 = .ok (.aload_n 0, 1) ∧ decode cX12_init 91 = .ok (.bipush 12, 2)))) ∧ ((decode cX12_init 93 = .ok (.newarray .int, 2) ∧ (decode cX12_init 95 = .ok (.putfield 46, 3) ∧ decode cX12_init 98 = .ok (.aload_n 0, 1))) ∧ ((decode cX12_init 99 = .ok (.bipush 12, 2) ∧ decode cX12_init 101 = .ok (.newarray .int, 2)) ∧ (decode cX12_init 103 = .ok (.putfield 49, 3) ∧ decode cX12_init 106 = .ok (.return_, 1))))))) := ⟨⟨⟨by decide +kernel, by decide +kernel⟩, ⟨by decide +kernel, by decide +kernel⟩⟩, ⟨⟨by decide +kernel, by decide +kernel⟩, ⟨by decide +kernel, by decide +kernel⟩⟩⟩
def X12_init (s : St) (a0 : Int) : Rs :=
  grd (isK s 22 a0) (grd (s.1.1 < 1000000 ∧ 0 ≤ (6 : Int) ∧ (6 : Int) ≤ 100000) (lets (nw s 1 (6 : Int).toNat) (fun s1 => grd (isK s1 22 a0) (lets (pR s1 a0 8 (s.1.1 : Int)) (fun s2 => grd (s2.1.1 < 1000000 ∧ 0 ≤ (6 : Int) ∧ (6 : Int) ≤ 100000) (lets (nw s2 1 (6 : Int).toNat) (fun s3 => grd (isK s3 22 a0) (lets (pR s3 a0 9 (s2.1.1 : Int)) (fun s4 => grd (s4.1.1 < 1000000 ∧ 0 ≤ (6 : Int) ∧ (6 : Int) ≤ 100000) (lets (nw s4 1 (6 : Int).toNat) (fun s5 => grd (isK s5 22 a0) (lets (pR s5 a0 10 (s4.1.1 : Int)) (fun s6 => grd (s6.1.1 < 1000000 ∧ 0 ≤ (6 : Int) ∧ (6 : Int) ≤ 100000) (lets (nw s6 1 (6 : Int).toNat) (fun s7 => grd (isK s7 22 a0) (lets (pR s7 a0 11 (s6.1.1 : Int)) (fun s8 => grd (s8.1.1 < 1000000 ∧ 0 ≤ (6 : Int) ∧ (6 : Int) ≤ 100000) (lets (nw s8 1 (6 : Int).toNat) (fun s9 => grd (isK s9 22 a0) (lets (pR s9 a0 12 (s8.1.1 : Int)) (fun s10 => grd (s10.1.1 < 1000000 ∧ 0 ≤ (4 : Int) ∧ (4 : Int) ≤ 100000) (lets (nw s10 1 (4 : Int).toNat) (fun s11 => grd (isK s11 22 a0) (lets (pR s11 a0 13 (s10.1.1 : Int)) (fun s12 => grd (s12.1.1 < 1000000 ∧ 0 ≤ (4 : Int) ∧ (4 : Int) ≤ 100000) (lets (nw s12 1 (4 : Int).toNat) (fun s13 => grd (isK s13 22 a0) (lets (pR s13 a0 14 (s12.1.1 : Int)) (fun s14 => grd (s14.1.1 < 1000000 ∧ 0 ≤ (8 : Int) ∧ (8 : Int) ≤ 100000) (lets (nw s14 1 (8 : Int).toNat) (fun s15 => grd (isK s15 22 a0) (lets (pR s15 a0 15 (s14.1.1 : Int)) (fun s16 => grd (s16.1.1 < 1000000 ∧ 0 ≤ (8 : Int) ∧ (8 : Int) ≤ 100000) (lets (nw s16 1 (8 : Int).toNat) (fun s17 => grd (isK s17 22 a0) (lets (pR s17 a0 16 (s16.1.1 : Int)) (fun s18 => grd (s18.1.1 < 1000000 ∧ 0 ≤ (8 : Int) ∧ (8 : Int) ≤ 100000) (lets (nw s18 1 (8 : Int).toNat) (fun s19 => grd (isK s19 22 a0) (lets (pR s19 a0 17 (s18.1.1 : Int)) (fun s20 => grd (s20.1.1 < 1000000 ∧ 0 ≤ (12 : Int) ∧ (12 : Int) ≤ 100000) (lets (nw s20 3 (12 : Int).toNat) (fun s21 => grd (isK s21 22 a0) (lets (pR s21 a0 18 (s20.1.1 : Int)) (fun s22 => grd (s22.1.1 < 1000000 ∧ 0 ≤ (12 : Int) ∧ (12 : Int) ≤ 100000) (lets (nw s22 1 (12 : Int).toNat) (fun s23 => grd (isK s23 22 a0) (lets (pR s23 a0 19 (s22.1.1 : Int)) (fun s24 => grd (s24.1.1 < 1000000 ∧ 0 ≤ (12 : Int) ∧ (12 : Int) ≤ 100000) (lets (nw s24 1 (12 : Int).toNat) (fun s25 => grd (isK s25 22 a0) (lets (pR s25 a0 20 (s24.1.1 : Int)) (fun s26 => some (0, s26))))))))))))))))))))))))))))))))))))))))))))))))))))))
set_option maxRecDepth 100000 in
set_option maxHeartbeats 4000000 in
theorem X12_init_s (G : Gx) (l : Launch) (s : St) (a0 : Int) : Snd G l mX12_init [(2, a0)] s (X12_init s a0) := by
  refine Snd.of (by decide +kernel) rfl ?_
  show V G l mX12_init 0 [(0, (2, a0))] [] s _
  unfold X12_init
  refine V_aload_n dec_X12_init.1.1.1.1.1 0 rfl ?_
  refine V_objInit (ci := 12) ml_X12_3 oi_inst oi_code rfl rfl dec_X12_init.1.1.1.1.2.1 ?_
  refine V_aload_n dec_X12_init.1.1.1.1.2.2 0 rfl ?_
  refine V_bipush dec_X12_init.1.1.1.2.1 rfl ?_
  refine V_newarr (at0 := .int) (by decide) ac_int dec_X12_init.1.1.1.2.2.1 ?_
  refine V_lets fun s1 => ?_
  refine V_putR (host := "") 12 8 nf_12_8 ty_12_8 (Or.inl ⟨fl_X12_9, Or.inr ⟨rfl, rfl, rfl⟩⟩) dec_X12_init.1.1.1.2.2.2 ?_
  refine V_lets fun s2 => ?_
  refine V_aload_n dec_X12_init.1.1.2.1.1 0 rfl ?_
  refine V_bipush dec_X12_init.1.1.2.1.2.1 rfl ?_
  refine V_newarr (at0 := .int) (by decide) ac_int dec_X12_init.1.1.2.1.2.2 ?_
  refine V_lets fun s3 => ?_
  refine V_putR (host := "") 12 9 nf_12_9 ty_12_9 (Or.inl ⟨fl_X12_15, Or.inr ⟨rfl, rfl, rfl⟩⟩) dec_X12_init.1.1.2.2.1.1 ?_
  refine V_lets fun s4 => ?_
  refine V_aload_n dec_X12_init.1.1.2.2.1.2 0 rfl ?_
  refine V_bipush dec_X12_init.1.1.2.2.2.1 rfl ?_
  refine V_newarr (at0 := .int) (by decide) ac_int dec_X12_init.1.1.2.2.2.2 ?_
  refine V_lets fun s5 => ?_
  refine V_putR (host := "") 12 10 nf_12_10 ty_12_10 (Or.inl ⟨fl_X12_18, Or.inr ⟨rfl, rfl, rfl⟩⟩) dec_X12_init.1.2.1.1.1 ?_
  refine V_lets fun s6 => ?_
  refine V_aload_n dec_X12_init.1.2.1.1.2.1 0 rfl ?_
  refine V_bipush dec_X12_init.1.2.1.1.2.2 rfl ?_
  refine V_newarr (at0 := .int) (by decide) ac_int dec_X12_init.1.2.1.2.1.1 ?_
  refine V_lets fun s7 => ?_
  refine V_putR (host := "") 12 11 nf_12_11 ty_12_11 (Or.inl ⟨fl_X12_21, Or.inr ⟨rfl, rfl, rfl⟩⟩) dec_X12_init.1.2.1.2.1.2 ?_
  refine V_lets fun s8 => ?_
  refine V_aload_n dec_X12_init.1.2.1.2.2.1 0 rfl ?_
  refine V_bipush dec_X12_init.1.2.1.2.2.2 rfl ?_
  refine V_newarr (at0 := .int) (by decide) ac_int dec_X12_init.1.2.2.1.1 ?_
  refine V_lets fun s9 => ?_
  refine V_putR (host := "") 12 12 nf_12_12 ty_12_12 (Or.inl ⟨fl_X12_24, Or.inr ⟨rfl, rfl, rfl⟩⟩) dec_X12_init.1.2.2.1.2.1 ?_
  refine V_lets fun s10 => ?_
  refine V_aload_n dec_X12_init.1.2.2.1.2.2 0 rfl ?_
  refine V_iconst dec_X12_init.1.2.2.2.1.1 rfl ?_
  refine V_newarr (at0 := .int) (by decide) ac_int dec_X12_init.1.2.2.2.1.2 ?_
  refine V_lets fun s11 => ?_
  refine V_putR (host := "") 12 13 nf_12_13 ty_12_13 (Or.inl ⟨fl_X12_27, Or.inr ⟨rfl, rfl, rfl⟩⟩) dec_X12_init.1.2.2.2.2.1 ?_
  refine V_lets fun s12 => ?_
  refine V_aload_n dec_X12_init.1.2.2.2.2.2 0 rfl ?_
  refine V_iconst dec_X12_init.2.1.1.1.1 rfl ?_
  refine V_newarr (at0 := .int) (by decide) ac_int dec_X12_init.2.1.1.1.2.1 ?_
  refine V_lets fun s13 => ?_
  refine V_putR (host := "") 12 14 nf_12_14 ty_12_14 (Or.inl ⟨fl_X12_30, Or.inr ⟨rfl, rfl, rfl⟩⟩) dec_X12_init.2.1.1.1.2.2 ?_
  refine V_lets fun s14 => ?_
  refine V_aload_n dec_X12_init.2.1.1.2.1.1 0 rfl ?_
  refine V_bipush dec_X12_init.2.1.1.2.1.2 rfl ?_
  refine V_newarr (at0 := .int) (by decide) ac_int dec_X12_init.2.1.1.2.2.1 ?_
  refine V_lets fun s15 => ?_
  refine V_putR (host := "") 12 15 nf_12_15 ty_12_15 (Or.inl ⟨fl_X12_33, Or.inr ⟨rfl, rfl, rfl⟩⟩) dec_X12_init.2.1.1.2.2.2 ?_
  refine V_lets fun s16 => ?_
  refine V_aload_n dec_X12_init.2.1.2.1.1 0 rfl ?_
  refine V_bipush dec_X12_init.2.1.2.1.2.1 rfl ?_
  refine V_newarr (at0 := .int) (by decide) ac_int dec_X12_init.2.1.2.1.2.2 ?_
  refine V_lets fun s17 => ?_
  refine V_putR (host := "") 12 16 nf_12_16 ty_12_16 (Or.inl ⟨fl_X12_36, Or.inr ⟨rfl, rfl, rfl⟩⟩) dec_X12_init.2.1.2.2.1.1 ?_
  refine V_lets fun s18 => ?_
  refine V_aload_n dec_X12_init.2.1.2.2.1.2 0 rfl ?_
  refine V_bipush dec_X12_init.2.1.2.2.2.1 rfl ?_
  refine V_newarr (at0 := .int) (by decide) ac_int dec_X12_init.2.1.2.2.2.2 ?_
  refine V_lets fun s19 => ?_
  refine V_putR (host := "") 12 17 nf_12_17 ty_12_17 (Or.inl ⟨fl_X12_39, Or.inr ⟨rfl, rfl, rfl⟩⟩) dec_X12_init.2.2.1.1.1 ?_
  refine V_lets fun s20 => ?_
  refine V_aload_n dec_X12_init.2.2.1.1.2.1 0 rfl ?_
  refine V_bipush dec_X12_init.2.2.1.1.2.2 rfl ?_
  refine V_newarr (at0 := .long) (by decide) ac_long dec_X12_init.2.2.1.2.1.1 ?_
  refine V_lets fun s21 => ?_
  refine V_putR (host := "") 12 18 nf_12_18 ty_12_18 (Or.inl ⟨fl_X12_42, Or.inr ⟨rfl, rfl, rfl⟩⟩) dec_X12_init.2.2.1.2.1.2 ?_
  refine V_lets fun s22 => ?_
  refine V_aload_n dec_X12_init.2.2.1.2.2.1 0 rfl ?_
  refine V_bipush dec_X12_init.2.2.1.2.2.2 rfl ?_
  refine V_newarr (at0 := .int) (by decide) ac_int dec_X12_init.2.2.2.1.1 ?_
  refine V_lets fun s23 => ?_
  refine V_putR (host := "") 12 19 nf_12_19 ty_12_19 (Or.inl ⟨fl_X12_46, Or.inr ⟨rfl, rfl, rfl⟩⟩) dec_X12_init.2.2.2.1.2.1 ?_
  refine V_lets fun s24 => ?_
  refine V_aload_n dec_X12_init.2.2.2.1.2.2 0 rfl ?_
  refine V_bipush dec_X12_init.2.2.2.2.1.1 rfl ?_
  refine V_newarr (at0 := .int) (by decide) ac_int dec_X12_init.2.2.2.2.1.2 ?_
  refine V_lets fun s25 => ?_
  refine V_putR (host := "") 12 20 nf_12_20 ty_12_20 (Or.inl ⟨fl_X12_49, Or.inr ⟨rfl, rfl, rfl⟩⟩) dec_X12_init.2.2.2.2.2.1 ?_
  refine V_lets fun s26 => ?_
  exact V_vret rfl dec_X12_init.2.2.2.2.2.2
theorem dec_X12_isHeard : ((((decode cX12_isHeard 0 = .ok (.iconst 0, 1) ∧ (decode cX12_isHeard 1 = .ok (.istore_n 3, 1) ∧ decode cX12_isHeard 2 = .ok (.iload_n 3, 1))) ∧ (decode cX12_isHeard 3 = .ok (.aload_n 0, 1) ∧ (decode cX12_isHeard 4 = .ok (.getfield 62, 3) ∧ decode cX12_isHeard 7 = .ok (.if_icmp .ge 31, 3)))) ∧ ((decode cX12_isHeard 10 = .ok (.aload_n 0, 1) ∧ (decode cX12_isHeard 11 = .ok (.getfield 36, 3) ∧ decode cX12_isHeard 14 = .ok (.iload_n 3, 1))) ∧ (decode cX12_isHeard 15 = .ok (.iaload, 1) ∧ (decode cX12_isHeard 16 = .ok (.iload_n 1, 1) ∧ decode cX12_isHeard 17 = .ok (.if_icmp .ne 15, 3))))) ∧ (((decode cX12_isHeard 20 = .ok (.aload_n 0, 1) ∧ (decode cX12_isHeard 21 = .ok (.getfield 39, 3) ∧ decode cX12_isHeard 24 = .ok (.iload_n 3, 1))) ∧ (decode cX12_isHeard 25 = .ok (.iaload, 1) ∧ (decode cX12_isHeard 26 = .ok (.iload_n 2, 1) ∧ decode cX12_isHeard 27 = .ok (.if_icmp .ne 5, 3)))) ∧ ((decode cX12_isHeard 30 = .ok (.iconst 1, 1) ∧ (decode cX12_isHeard 31 = .ok (.ireturn, 1) ∧ decode cX12_isHeard 32 = .ok (.iinc 3 1, 3))) ∧ (decode cX12_isHeard 35 = .ok (.goto (-33), 3) ∧ (decode cX12_isHeard 38 = .ok (.iconst 0, 1) ∧ decode cX12_isHeard 39 = .ok (.ireturn, 1)))))) := ⟨by decide +kernel, by decide +kernel⟩
def X12_isHeard_b32 (rk2 : St → Int → Int → Int → Int → Rs) (s : St) (x0 x1 x2 x3 : Int) : Rs :=
  rk2 s x0 x1 x2 (w32 (x3 + 1))
set_option maxRecDepth 100000 in
set_option maxHeartbeats 4000000 in
theorem X12_isHeard_b32_s (G : Gx) (l : Launch) (rk2 : St → Int → Int → Int → Int → Rs) (hk2 : ∀ (s : St) (x0 x1 x2 x3 : Int), V G l mX12_isHeard 2 [(0, (2, x0)), (1, (0, x1)), (2, (0, x2)), (3, (0, x3))] [] s (rk2 s x0 x1 x2 x3)) (s : St) (x0 x1 x2 x3 : Int) : V G l mX12_isHeard 32 [(0, (2, x0)), (1, (0, x1)), (2, (0, x2)), (3, (0, x3))] [] s (X12_isHeard_b32 rk2 s x0 x1 x2 x3) := by
  unfold X12_isHeard_b32
  refine V_iinc (lv' := [(3, (0, (w32 (x3 + 1)))), (0, (2, x0)), (1, (0, x1)), (2, (0, x2))]) dec_X12_isHeard.2.2.1.2.2 3 rfl (by decide) rfl ?_
  refine V_goto (tgt := 2) dec_X12_isHeard.2.2.2.1 (by decide) ?_
  exact V_pick [1, 2, 3, 0] rfl (hk2 s x0 x1 x2 (w32 (x3 + 1)))
def X12_isHeard_b2_body (rk2 : St → Int → Int → Int → Int → Rs) (s : St) (x0 x1 x2 x3 : Int) : Rs :=
  grd (isK s 22 x0) (if (gI s x0 6) ≤ x3 then (grd ((0 : Int) = 0 ∨ (0 : Int) = 1) (some (0, s))) else (grd (isK s 22 x0) (grd (isK s 1 (gR s x0 16) ∧ 0 ≤ x3 ∧ x3 < ln s (gR s x0 16)) (if ¬ (gI s (gR s x0 16) x3.toNat) = x1 then (X12_isHeard_b32 rk2 s x0 x1 x2 x3) else (grd (isK s 22 x0) (grd (isK s 1 (gR s x0 17) ∧ 0 ≤ x3 ∧ x3 < ln s (gR s x0 17)) (if ¬ (gI s (gR s x0 17) x3.toNat) = x2 then (X12_isHeard_b32 rk2 s x0 x1 x2 x3) else (grd ((1 : Int) = 0 ∨ (1 : Int) = 1) (some (1, s))))))))))
def X12_isHeard_b2 (n : Nat) (s : St) (x0 x1 x2 x3 : Int) : Rs := iter (fun (rec : St × Int × Int × Int × Int → Rs) (a : St × Int × Int × Int × Int) => X12_isHeard_b2_body (fun (s : St) (x0 x1 x2 x3 : Int) => rec (s, x0, x1, x2, x3)) a.1 a.2.1 a.2.2.1 a.2.2.2.1 a.2.2.2.2) n (s, x0, x1, x2, x3)
theorem X12_isHeard_b2_0 (s : St) (x0 x1 x2 x3 : Int) : X12_isHeard_b2 0 s x0 x1 x2 x3 = none := rfl
theorem X12_isHeard_b2_1 (n : Nat) (s : St) (x0 x1 x2 x3 : Int) : X12_isHeard_b2 (n + 1) s x0 x1 x2 x3 = X12_isHeard_b2_body (X12_isHeard_b2 n) s x0 x1 x2 x3 := rfl
set_option maxRecDepth 100000 in
set_option maxHeartbeats 4000000 in
theorem X12_isHeard_b2_body_s (G : Gx) (l : Launch) (rk2 : St → Int → Int → Int → Int → Rs) (hk2 : ∀ (s : St) (x0 x1 x2 x3 : Int), V G l mX12_isHeard 2 [(0, (2, x0)), (1, (0, x1)), (2, (0, x2)), (3, (0, x3))] [] s (rk2 s x0 x1 x2 x3)) (s : St) (x0 x1 x2 x3 : Int) : V G l mX12_isHeard 2 [(0, (2, x0)), (1, (0, x1)), (2, (0, x2)), (3, (0, x3))] [] s (X12_isHeard_b2_body rk2 s x0 x1 x2 x3) := by
  unfold X12_isHeard_b2_body
  refine V_iload_n dec_X12_isHeard.1.1.1.2.2 3 rfl ?_
  refine V_aload_n dec_X12_isHeard.1.1.2.1 0 rfl ?_
  refine V_getI 12 6 nf_12_6 ft_12_6 fl_X12_62 dec_X12_isHeard.1.1.2.2.1 ?_
  refine V_icmp_ge (tgt := 38) dec_X12_isHeard.1.1.2.2.2 (by decide) ?_ ?_
  · refine V_iconst dec_X12_isHeard.2.2.2.2.1 rfl ?_
    exact V_zret rfl dec_X12_isHeard.2.2.2.2.2
  · refine V_aload_n dec_X12_isHeard.1.2.1.1 0 rfl ?_
    refine V_getR 12 16 nf_12_16 ft_12_16 fl_X12_36 dec_X12_isHeard.1.2.1.2.1 ?_
    refine V_iload_n dec_X12_isHeard.1.2.1.2.2 3 rfl ?_
    refine V_iald dec_X12_isHeard.1.2.2.1 ?_
    refine V_iload_n dec_X12_isHeard.1.2.2.2.1 1 rfl ?_
    refine V_icmp_ne (tgt := 32) dec_X12_isHeard.1.2.2.2.2 (by decide) ?_ ?_
    · exact V_pick [0, 1, 2, 3] rfl (X12_isHeard_b32_s G l rk2 hk2 s x0 x1 x2 x3)
    · refine V_aload_n dec_X12_isHeard.2.1.1.1 0 rfl ?_
      refine V_getR 12 17 nf_12_17 ft_12_17 fl_X12_39 dec_X12_isHeard.2.1.1.2.1 ?_
      refine V_iload_n dec_X12_isHeard.2.1.1.2.2 3 rfl ?_
      refine V_iald dec_X12_isHeard.2.1.2.1 ?_
      refine V_iload_n dec_X12_isHeard.2.1.2.2.1 2 rfl ?_
      refine V_icmp_ne (tgt := 32) dec_X12_isHeard.2.1.2.2.2 (by decide) ?_ ?_
      · exact V_pick [0, 1, 2, 3] rfl (X12_isHeard_b32_s G l rk2 hk2 s x0 x1 x2 x3)
      · refine V_iconst dec_X12_isHeard.2.2.1.1 rfl ?_
        exact V_zret rfl dec_X12_isHeard.2.2.1.2.1
theorem X12_isHeard_b2_s (G : Gx) (l : Launch) (n : Nat) (s : St) (x0 x1 x2 x3 : Int) : V G l mX12_isHeard 2 [(0, (2, x0)), (1, (0, x1)), (2, (0, x2)), (3, (0, x3))] [] s (X12_isHeard_b2 n s x0 x1 x2 x3) :=
  V_iter (LV := fun a : St × Int × Int × Int × Int => [(0, (2, a.2.1)), (1, (0, a.2.2.1)), (2, (0, a.2.2.2.1)), (3, (0, a.2.2.2.2))]) (ST := fun a : St × Int × Int × Int × Int => []) (SS := fun a : St × Int × Int × Int × Int => a.1) (fun rec hrec a => X12_isHeard_b2_body_s G l (fun (s : St) (x0 x1 x2 x3 : Int) => rec (s, x0, x1, x2, x3)) (fun (s : St) (x0 x1 x2 x3 : Int) => hrec (s, x0, x1, x2, x3)) a.1 a.2.1 a.2.2.1 a.2.2.2.1 a.2.2.2.2) n (s, x0, x1, x2, x3)
def X12_isHeard (s : St) (a0 a1 a2 : Int) : Rs :=
  X12_isHeard_b2 FU s a0 a1 a2 0
set_option maxRecDepth 100000 in
set_option maxHeartbeats 4000000 in
theorem X12_isHeard_s (G : Gx) (l : Launch) (s : St) (a0 a1 a2 : Int) : Snd G l mX12_isHeard [(2, a0), (0, a1), (0, a2)] s (X12_isHeard s a0 a1 a2) := by
  refine Snd.of (by decide +kernel) rfl ?_
  show V G l mX12_isHeard 0 [(0, (2, a0)), (1, (0, a1)), (2, (0, a2))] [] s _
  unfold X12_isHeard
  refine V_iconst dec_X12_isHeard.1.1.1.1 rfl ?_
  refine V_istore_n (lv' := [(3, (0, 0)), (0, (2, a0)), (1, (0, a1)), (2, (0, a2))]) dec_X12_isHeard.1.1.1.2.1 (by decide) rfl ?_
  exact V_pick [1, 2, 3, 0] rfl (X12_isHeard_b2_s G l FU s a0 a1 a2 0)
theorem dec_X12_isTaken : ((((decode cX12_isTaken 0 = .ok (.iconst 0, 1) ∧ decode cX12_isTaken 1 = .ok (.istore_n 2, 1)) ∧ (decode cX12_isTaken 2 = .ok (.iload_n 2, 1) ∧ decode cX12_isTaken 3 = .ok (.aload_n 0, 1))) ∧ ((decode cX12_isTaken 4 = .ok (.getfield 56, 3) ∧ decode cX12_isTaken 7 = .ok (.if_icmp .ge 21, 3)) ∧ (decode cX12_isTaken 10 = .ok (.aload_n 0, 1) ∧ (decode cX12_isTaken 11 = .ok (.getfield 9, 3) ∧ decode cX12_isTaken 14 = .ok (.iload_n 2, 1))))) ∧ (((decode cX12_isTaken 15 = .ok (.iaload, 1) ∧ decode cX12_isTaken 16 = .ok (.iload_n 1, 1)) ∧ (decode cX12_isTaken 17 = .ok (.if_icmp .ne 5, 3) ∧ decode cX12_isTaken 20 = .ok (.iconst 1, 1))) ∧ ((decode cX12_isTaken 21 = .ok (.ireturn, 1) ∧ decode cX12_isTaken 22 = .ok (.iinc 2 1, 3)) ∧ (decode cX12_isTaken 25 = .ok (.goto (-23), 3) ∧ (decode cX12_isTaken 28 = .ok (.iconst 0, 1) ∧ decode cX12_isTaken 29 = .ok (.ireturn, 1)))))) := ⟨by decide +kernel, by decide +kernel⟩
def X12_isTaken_b2_body (rk2 : St → Int → Int → Int → Rs) (s : St) (x0 x1 x2 : Int) : Rs :=
  grd (isK s 22 x0) (if (gI s x0 2) ≤ x2 then (grd ((0 : Int) = 0 ∨ (0 : Int) = 1) (some (0, s))) else (grd (isK s 22 x0) (grd (isK s 1 (gR s x0 8) ∧ 0 ≤ x2 ∧ x2 < ln s (gR s x0 8)) (if ¬ (gI s (gR s x0 8) x2.toNat) = x1 then (rk2 s x0 x1 (w32 (x2 + 1))) else (grd ((1 : Int) = 0 ∨ (1 : Int) = 1) (some (1, s)))))))
def X12_isTaken_b2 (n : Nat) (s : St) (x0 x1 x2 : Int) : Rs := iter (fun (rec : St × Int × Int × Int → Rs) (a : St × Int × Int × Int) => X12_isTaken_b2_body (fun (s : St) (x0 x1 x2 : Int) => rec (s, x0, x1, x2)) a.1 a.2.1 a.2.2.1 a.2.2.2) n (s, x0, x1, x2)
theorem X12_isTaken_b2_0 (s : St) (x0 x1 x2 : Int) : X12_isTaken_b2 0 s x0 x1 x2 = none := rfl
theorem X12_isTaken_b2_1 (n : Nat) (s : St) (x0 x1 x2 : Int) : X12_isTaken_b2 (n + 1) s x0 x1 x2 = X12_isTaken_b2_body (X12_isTaken_b2 n) s x0 x1 x2 := rfl
set_option maxRecDepth 100000 in
set_option maxHeartbeats 4000000 in
theorem X12_isTaken_b2_body_s (G : Gx) (l : Launch) (rk2 : St → Int → Int → Int → Rs) (hk2 : ∀ (s : St) (x0 x1 x2 : Int), V G l mX12_isTaken 2 [(0, (2, x0)), (1, (0, x1)), (2, (0, x2))] [] s (rk2 s x0 x1 x2)) (s : St) (x0 x1 x2 : Int) : V G l mX12_isTaken 2 [(0, (2, x0)), (1, (0, x1)), (2, (0, x2))] [] s (X12_isTaken_b2_body rk2 s x0 x1 x2) := by
  unfold X12_isTaken_b2_body
  refine V_iload_n dec_X12_isTaken.1.1.2.1 2 rfl ?_
  refine V_aload_n dec_X12_isTaken.1.1.2.2 0 rfl ?_
  refine V_getI 12 2 nf_12_2 ft_12_2 fl_X12_56 dec_X12_isTaken.1.2.1.1 ?_
  refine V_icmp_ge (tgt := 28) dec_X12_isTaken.1.2.1.2 (by decide) ?_ ?_
  · refine V_iconst dec_X12_isTaken.2.2.2.2.1 rfl ?_
    exact V_zret rfl dec_X12_isTaken.2.2.2.2.2
  · refine V_aload_n dec_X12_isTaken.1.2.2.1 0 rfl ?_
    refine V_getR 12 8 nf_12_8 ft_12_8 fl_X12_9 dec_X12_isTaken.1.2.2.2.1 ?_
    refine V_iload_n dec_X12_isTaken.1.2.2.2.2 2 rfl ?_
    refine V_iald dec_X12_isTaken.2.1.1.1 ?_
    refine V_iload_n dec_X12_isTaken.2.1.1.2 1 rfl ?_
    refine V_icmp_ne (tgt := 22) dec_X12_isTaken.2.1.2.1 (by decide) ?_ ?_
    · refine V_iinc (lv' := [(2, (0, (w32 (x2 + 1)))), (0, (2, x0)), (1, (0, x1))]) dec_X12_isTaken.2.2.1.2 2 rfl (by decide) rfl ?_
      refine V_goto (tgt := 2) dec_X12_isTaken.2.2.2.1 (by decide) ?_
      exact V_pick [1, 2, 0] rfl (hk2 s x0 x1 (w32 (x2 + 1)))
    · refine V_iconst dec_X12_isTaken.2.1.2.2 rfl ?_
      exact V_zret rfl dec_X12_isTaken.2.2.1.1
theorem X12_isTaken_b2_s (G : Gx) (l : Launch) (n : Nat) (s : St) (x0 x1 x2 : Int) : V G l mX12_isTaken 2 [(0, (2, x0)), (1, (0, x1)), (2, (0, x2))] [] s (X12_isTaken_b2 n s x0 x1 x2) :=
  V_iter (LV := fun a : St × Int × Int × Int => [(0, (2, a.2.1)), (1, (0, a.2.2.1)), (2, (0, a.2.2.2))]) (ST := fun a : St × Int × Int × Int => []) (SS := fun a : St × Int × Int × Int => a.1) (fun rec hrec a => X12_isTaken_b2_body_s G l (fun (s : St) (x0 x1 x2 : Int) => rec (s, x0, x1, x2)) (fun (s : St) (x0 x1 x2 : Int) => hrec (s, x0, x1, x2)) a.1 a.2.1 a.2.2.1 a.2.2.2) n (s, x0, x1, x2)
def X12_isTaken (s : St) (a0 a1 : Int) : Rs :=
  X12_isTaken_b2 FU s a0 a1 0
set_option maxRecDepth 100000 in
set_option maxHeartbeats 4000000 in
theorem X12_isTaken_s (G : Gx) (l : Launch) (s : St) (a0 a1 : Int) : Snd G l mX12_isTaken [(2, a0), (0, a1)] s (X12_isTaken s a0 a1) := by
  refine Snd.of (by decide +kernel) rfl ?_
  show V G l mX12_isTaken 0 [(0, (2, a0)), (1, (0, a1))] [] s _
  unfold X12_isTaken
  refine V_iconst dec_X12_isTaken.1.1.1.1 rfl ?_
  refine V_istore_n (lv' := [(2, (0, 0)), (0, (2, a0)), (1, (0, a1))]) dec_X12_isTaken.1.1.1.2 (by decide) rfl ?_
  exact V_pick [1, 2, 0] rfl (X12_isTaken_b2_s G l FU s a0 a1 0)
theorem dec_X12_isUnsure : ((((decode cX12_isUnsure 0 = .ok (.iconst 0, 1) ∧ decode cX12_isUnsure 1 = .ok (.istore_n 2, 1)) ∧ (decode cX12_isUnsure 2 = .ok (.iload_n 2, 1) ∧ decode cX12_isUnsure 3 = .ok (.aload_n 0, 1))) ∧ ((decode cX12_isUnsure 4 = .ok (.getfield 59, 3) ∧ decode cX12_isUnsure 7 = .ok (.if_icmp .ge 21, 3)) ∧ (decode cX12_isUnsure 10 = .ok (.aload_n 0, 1) ∧ (decode cX12_isUnsure 11 = .ok (.getfield 27, 3) ∧ decode cX12_isUnsure 14 = .ok (.iload_n 2, 1))))) ∧ (((decode cX12_isUnsure 15 = .ok (.iaload, 1) ∧ decode cX12_isUnsure 16 = .ok (.iload_n 1, 1)) ∧ (decode cX12_isUnsure 17 = .ok (.if_icmp .ne 5, 3) ∧ decode cX12_isUnsure 20 = .ok (.iconst 1, 1))) ∧ ((decode cX12_isUnsure 21 = .ok (.ireturn, 1) ∧ decode cX12_isUnsure 22 = .ok (.iinc 2 1, 3)) ∧ (decode cX12_isUnsure 25 = .ok (.goto (-23), 3) ∧ (decode cX12_isUnsure 28 = .ok (.iconst 0, 1) ∧ decode cX12_isUnsure 29 = .ok (.ireturn, 1)))))) := ⟨by decide +kernel, by decide +kernel⟩
def X12_isUnsure_b2_body (rk2 : St → Int → Int → Int → Rs) (s : St) (x0 x1 x2 : Int) : Rs :=
  grd (isK s 22 x0) (if (gI s x0 5) ≤ x2 then (grd ((0 : Int) = 0 ∨ (0 : Int) = 1) (some (0, s))) else (grd (isK s 22 x0) (grd (isK s 1 (gR s x0 13) ∧ 0 ≤ x2 ∧ x2 < ln s (gR s x0 13)) (if ¬ (gI s (gR s x0 13) x2.toNat) = x1 then (rk2 s x0 x1 (w32 (x2 + 1))) else (grd ((1 : Int) = 0 ∨ (1 : Int) = 1) (some (1, s)))))))
def X12_isUnsure_b2 (n : Nat) (s : St) (x0 x1 x2 : Int) : Rs := iter (fun (rec : St × Int × Int × Int → Rs) (a : St × Int × Int × Int) => X12_isUnsure_b2_body (fun (s : St) (x0 x1 x2 : Int) => rec (s, x0, x1, x2)) a.1 a.2.1 a.2.2.1 a.2.2.2) n (s, x0, x1, x2)
theorem X12_isUnsure_b2_0 (s : St) (x0 x1 x2 : Int) : X12_isUnsure_b2 0 s x0 x1 x2 = none := rfl
theorem X12_isUnsure_b2_1 (n : Nat) (s : St) (x0 x1 x2 : Int) : X12_isUnsure_b2 (n + 1) s x0 x1 x2 = X12_isUnsure_b2_body (X12_isUnsure_b2 n) s x0 x1 x2 := rfl
set_option maxRecDepth 100000 in
set_option maxHeartbeats 4000000 in
theorem X12_isUnsure_b2_body_s (G : Gx) (l : Launch) (rk2 : St → Int → Int → Int → Rs) (hk2 : ∀ (s : St) (x0 x1 x2 : Int), V G l mX12_isUnsure 2 [(0, (2, x0)), (1, (0, x1)), (2, (0, x2))] [] s (rk2 s x0 x1 x2)) (s : St) (x0 x1 x2 : Int) : V G l mX12_isUnsure 2 [(0, (2, x0)), (1, (0, x1)), (2, (0, x2))] [] s (X12_isUnsure_b2_body rk2 s x0 x1 x2) := by
  unfold X12_isUnsure_b2_body
  refine V_iload_n dec_X12_isUnsure.1.1.2.1 2 rfl ?_
  refine V_aload_n dec_X12_isUnsure.1.1.2.2 0 rfl ?_
  refine V_getI 12 5 nf_12_5 ft_12_5 fl_X12_59 dec_X12_isUnsure.1.2.1.1 ?_
  refine V_icmp_ge (tgt := 28) dec_X12_isUnsure.1.2.1.2 (by decide) ?_ ?_
  · refine V_iconst dec_X12_isUnsure.2.2.2.2.1 rfl ?_
    exact V_zret rfl dec_X12_isUnsure.2.2.2.2.2
  · refine V_aload_n dec_X12_isUnsure.1.2.2.1 0 rfl ?_
    refine V_getR 12 13 nf_12_13 ft_12_13 fl_X12_27 dec_X12_isUnsure.1.2.2.2.1 ?_
    refine V_iload_n dec_X12_isUnsure.1.2.2.2.2 2 rfl ?_
    refine V_iald dec_X12_isUnsure.2.1.1.1 ?_
    refine V_iload_n dec_X12_isUnsure.2.1.1.2 1 rfl ?_
    refine V_icmp_ne (tgt := 22) dec_X12_isUnsure.2.1.2.1 (by decide) ?_ ?_
    · refine V_iinc (lv' := [(2, (0, (w32 (x2 + 1)))), (0, (2, x0)), (1, (0, x1))]) dec_X12_isUnsure.2.2.1.2 2 rfl (by decide) rfl ?_
      refine V_goto (tgt := 2) dec_X12_isUnsure.2.2.2.1 (by decide) ?_
      exact V_pick [1, 2, 0] rfl (hk2 s x0 x1 (w32 (x2 + 1)))
    · refine V_iconst dec_X12_isUnsure.2.1.2.2 rfl ?_
      exact V_zret rfl dec_X12_isUnsure.2.2.1.1
theorem X12_isUnsure_b2_s (G : Gx) (l : Launch) (n : Nat) (s : St) (x0 x1 x2 : Int) : V G l mX12_isUnsure 2 [(0, (2, x0)), (1, (0, x1)), (2, (0, x2))] [] s (X12_isUnsure_b2 n s x0 x1 x2) :=
  V_iter (LV := fun a : St × Int × Int × Int => [(0, (2, a.2.1)), (1, (0, a.2.2.1)), (2, (0, a.2.2.2))]) (ST := fun a : St × Int × Int × Int => []) (SS := fun a : St × Int × Int × Int => a.1) (fun rec hrec a => X12_isUnsure_b2_body_s G l (fun (s : St) (x0 x1 x2 : Int) => rec (s, x0, x1, x2)) (fun (s : St) (x0 x1 x2 : Int) => hrec (s, x0, x1, x2)) a.1 a.2.1 a.2.2.1 a.2.2.2) n (s, x0, x1, x2)
def X12_isUnsure (s : St) (a0 a1 : Int) : Rs :=
  X12_isUnsure_b2 FU s a0 a1 0
set_option maxRecDepth 100000 in
set_option maxHeartbeats 4000000 in
theorem X12_isUnsure_s (G : Gx) (l : Launch) (s : St) (a0 a1 : Int) : Snd G l mX12_isUnsure [(2, a0), (0, a1)] s (X12_isUnsure s a0 a1) := by
  refine Snd.of (by decide +kernel) rfl ?_
  show V G l mX12_isUnsure 0 [(0, (2, a0)), (1, (0, a1))] [] s _
  unfold X12_isUnsure
  refine V_iconst dec_X12_isUnsure.1.1.1.1 rfl ?_
  refine V_istore_n (lv' := [(2, (0, 0)), (0, (2, a0)), (1, (0, a1))]) dec_X12_isUnsure.1.1.1.2 (by decide) rfl ?_
  exact V_pick [1, 2, 0] rfl (X12_isUnsure_b2_s G l FU s a0 a1 0)
theorem dec_X13_good : (((decode cX13_good 0 = .ok (.aload_n 0, 1) ∧ decode cX13_good 1 = .ok (.iconst 0, 1)) ∧ (decode cX13_good 2 = .ok (.putfield 52, 3) ∧ decode cX13_good 5 = .ok (.aload_n 0, 1))) ∧ ((decode cX13_good 6 = .ok (.iconst (-1), 1) ∧ decode cX13_good 7 = .ok (.putfield 9, 3)) ∧ (decode cX13_good 10 = .ok (.iload_n 1, 1) ∧ decode cX13_good 11 = .ok (.ireturn, 1)))) := by decide +kernel
def X13_good (s : St) (a0 a1 : Int) : Rs :=
  grd (isK s 23 a0) (lets (pI s a0 1 0) (fun s1 => grd (isK s1 23 a0) (lets (pI s1 a0 2 (-1)) (fun s2 => some (a1, s2)))))
set_option maxRecDepth 100000 in
set_option maxHeartbeats 4000000 in
theorem X13_good_s (G : Gx) (l : Launch) (s : St) (a0 a1 : Int) : Snd G l mX13_good [(2, a0), (0, a1)] s (X13_good s a0 a1) := by
  refine Snd.of (by decide +kernel) rfl ?_
  show V G l mX13_good 0 [(0, (2, a0)), (1, (0, a1))] [] s _
  unfold X13_good
  refine V_aload_n dec_X13_good.1.1.1 0 rfl ?_
  refine V_iconst dec_X13_good.1.1.2 rfl ?_
  refine V_putI (host := "") 13 1 nf_13_1 ty_13_1 (Or.inl ⟨fl_X13_52, Or.inl rfl⟩) dec_X13_good.1.2.1 ?_
  refine V_lets fun s1 => ?_
  refine V_aload_n dec_X13_good.1.2.2 0 rfl ?_
  refine V_iconst dec_X13_good.2.1.1 rfl ?_
  refine V_putI (host := "") 13 2 nf_13_2 ty_13_2 (Or.inl ⟨fl_X13_9, Or.inl rfl⟩) dec_X13_good.2.1.2 ?_
  refine V_lets fun s2 => ?_
  refine V_iload_n dec_X13_good.2.2.1 1 rfl ?_
  exact V_iret rfl dec_X13_good.2.2.2
theorem dec_X13_around : ((((decode cX13_around 0 = .ok (.lload_n 1, 1) ∧ decode cX13_around 1 = .ok (.aload_n 0, 1)) ∧ (decode cX13_around 2 = .ok (.getfield 303, 3) ∧ decode cX13_around 5 = .ok (.getfield 159, 3))) ∧ ((decode cX13_around 8 = .ok (.i2l, 1) ∧ decode cX13_around 9 = .ok (.lrem, 1)) ∧ (decode cX13_around 10 = .ok (.aload_n 0, 1) ∧ (decode cX13_around 11 = .ok (.getfield 303, 3) ∧ decode cX13_around 14 = .ok (.getfield 159, 3))))) ∧ (((decode cX13_around 17 = .ok (.i2l, 1) ∧ decode cX13_around 18 = .ok (.ladd, 1)) ∧ (decode cX13_around 19 = .ok (.aload_n 0, 1) ∧ decode cX13_around 20 = .ok (.getfield 303, 3))) ∧ ((decode cX13_around 23 = .ok (.getfield 159, 3) ∧ decode cX13_around 26 = .ok (.i2l, 1)) ∧ (decode cX13_around 27 = .ok (.lrem, 1) ∧ (decode cX13_around 28 = .ok (.l2i, 1) ∧ decode cX13_around 29 = .ok (.ireturn, 1)))))) := ⟨by decide +kernel, by decide +kernel⟩
def X13_around (s : St) (a0 a1 : Int) : Rs :=
  grd (isK s 23 a0) (grd (isK s 22 (gR s a0 3)) (grd ((gI s (gR s a0 3) 0) ≠ 0) (grd (isK s 23 a0) (grd (isK s 22 (gR s a0 3)) (grd (isK s 23 a0) (grd (isK s 22 (gR s a0 3)) (grd ((gI s (gR s a0 3) 0) ≠ 0) (some ((w32 (Int.tmod (w64 ((Int.tmod a1 (gI s (gR s a0 3) 0)) + (gI s (gR s a0 3) 0))) (gI s (gR s a0 3) 0))), s)))))))))
set_option maxRecDepth 100000 in
set_option maxHeartbeats 4000000 in
theorem X13_around_s (G : Gx) (l : Launch) (s : St) (a0 a1 : Int) : Snd G l mX13_around [(2, a0), (1, a1)] s (X13_around s a0 a1) := by
  refine Snd.of (by decide +kernel) rfl ?_
  show V G l mX13_around 0 [(0, (2, a0)), (1, (1, a1))] [] s _
  unfold X13_around
  refine V_lload_n dec_X13_around.1.1.1.1 1 rfl ?_
  refine V_aload_n dec_X13_around.1.1.1.2 0 rfl ?_
  refine V_getR 13 3 nf_13_3 ft_13_3 fl_X13_303 dec_X13_around.1.1.2.1 ?_
  refine V_getIN RX13 12 0 nf_12_0 ft_12_0 fl_X13_159 dec_X13_around.1.1.2.2 ?_
  refine V_i2l dec_X13_around.1.2.1.1 ?_
  refine V_lrem dec_X13_around.1.2.1.2 ?_
  refine V_aload_n dec_X13_around.1.2.2.1 0 rfl ?_
  refine V_getR 13 3 nf_13_3 ft_13_3 fl_X13_303 dec_X13_around.1.2.2.2.1 ?_
  refine V_getIN RX13 12 0 nf_12_0 ft_12_0 fl_X13_159 dec_X13_around.1.2.2.2.2 ?_
  refine V_i2l dec_X13_around.2.1.1.1 ?_
  refine V_ladd dec_X13_around.2.1.1.2 ?_
  refine V_aload_n dec_X13_around.2.1.2.1 0 rfl ?_
  refine V_getR 13 3 nf_13_3 ft_13_3 fl_X13_303 dec_X13_around.2.1.2.2 ?_
  refine V_getIN RX13 12 0 nf_12_0 ft_12_0 fl_X13_159 dec_X13_around.2.2.1.1 ?_
  refine V_i2l dec_X13_around.2.2.1.2 ?_
  refine V_lrem dec_X13_around.2.2.2.1 ?_
  refine V_l2i dec_X13_around.2.2.2.2.1 ?_
  exact V_iret rfl dec_X13_around.2.2.2.2.2
theorem dec_X13_whoIn : ((((decode cX13_whoIn 0 = .ok (.iconst 0, 1) ∧ decode cX13_whoIn 1 = .ok (.istore_n 2, 1)) ∧ (decode cX13_whoIn 2 = .ok (.iload_n 2, 1) ∧ decode cX13_whoIn 3 = .ok (.aload_n 0, 1))) ∧ ((decode cX13_whoIn 4 = .ok (.getfield 303, 3) ∧ decode cX13_whoIn 7 = .ok (.getfield 193, 3)) ∧ (decode cX13_whoIn 10 = .ok (.if_icmp .ge 21, 3) ∧ (decode cX13_whoIn 13 = .ok (.aload_n 0, 1) ∧ decode cX13_whoIn 14 = .ok (.getfield 21, 3))))) ∧ (((decode cX13_whoIn 17 = .ok (.iload_n 2, 1) ∧ decode cX13_whoIn 18 = .ok (.iaload, 1)) ∧ (decode cX13_whoIn 19 = .ok (.iload_n 1, 1) ∧ (decode cX13_whoIn 20 = .ok (.if_icmp .ne 5, 3) ∧ decode cX13_whoIn 23 = .ok (.iload_n 2, 1)))) ∧ ((decode cX13_whoIn 24 = .ok (.ireturn, 1) ∧ decode cX13_whoIn 25 = .ok (.iinc 2 1, 3)) ∧ (decode cX13_whoIn 28 = .ok (.goto (-26), 3) ∧ (decode cX13_whoIn 31 = .ok (.bipush (-2), 2) ∧ decode cX13_whoIn 33 = .ok (.ireturn, 1)))))) := ⟨by decide +kernel, by decide +kernel⟩
def X13_whoIn_b2_body (rk2 : St → Int → Int → Int → Rs) (s : St) (x0 x1 x2 : Int) : Rs :=
  grd (isK s 23 x0) (grd (isK s 22 (gR s x0 3)) (if (gI s (gR s x0 3) 2) ≤ x2 then (some ((-2), s)) else (grd (isK s 23 x0) (grd (isK s 1 (gR s x0 16) ∧ 0 ≤ x2 ∧ x2 < ln s (gR s x0 16)) (if ¬ (gI s (gR s x0 16) x2.toNat) = x1 then (rk2 s x0 x1 (w32 (x2 + 1))) else (some (x2, s)))))))
def X13_whoIn_b2 (n : Nat) (s : St) (x0 x1 x2 : Int) : Rs := iter (fun (rec : St × Int × Int × Int → Rs) (a : St × Int × Int × Int) => X13_whoIn_b2_body (fun (s : St) (x0 x1 x2 : Int) => rec (s, x0, x1, x2)) a.1 a.2.1 a.2.2.1 a.2.2.2) n (s, x0, x1, x2)
theorem X13_whoIn_b2_0 (s : St) (x0 x1 x2 : Int) : X13_whoIn_b2 0 s x0 x1 x2 = none := rfl
theorem X13_whoIn_b2_1 (n : Nat) (s : St) (x0 x1 x2 : Int) : X13_whoIn_b2 (n + 1) s x0 x1 x2 = X13_whoIn_b2_body (X13_whoIn_b2 n) s x0 x1 x2 := rfl
set_option maxRecDepth 100000 in
set_option maxHeartbeats 4000000 in
theorem X13_whoIn_b2_body_s (G : Gx) (l : Launch) (rk2 : St → Int → Int → Int → Rs) (hk2 : ∀ (s : St) (x0 x1 x2 : Int), V G l mX13_whoIn 2 [(0, (2, x0)), (1, (0, x1)), (2, (0, x2))] [] s (rk2 s x0 x1 x2)) (s : St) (x0 x1 x2 : Int) : V G l mX13_whoIn 2 [(0, (2, x0)), (1, (0, x1)), (2, (0, x2))] [] s (X13_whoIn_b2_body rk2 s x0 x1 x2) := by
  unfold X13_whoIn_b2_body
  refine V_iload_n dec_X13_whoIn.1.1.2.1 2 rfl ?_
  refine V_aload_n dec_X13_whoIn.1.1.2.2 0 rfl ?_
  refine V_getR 13 3 nf_13_3 ft_13_3 fl_X13_303 dec_X13_whoIn.1.2.1.1 ?_
  refine V_getIN RX13 12 2 nf_12_2 ft_12_2 fl_X13_193 dec_X13_whoIn.1.2.1.2 ?_
  refine V_icmp_ge (tgt := 31) dec_X13_whoIn.1.2.2.1 (by decide) ?_ ?_
  · refine V_bipush dec_X13_whoIn.2.2.2.2.1 rfl ?_
    exact V_iret rfl dec_X13_whoIn.2.2.2.2.2
  · refine V_aload_n dec_X13_whoIn.1.2.2.2.1 0 rfl ?_
    refine V_getR 13 16 nf_13_16 ft_13_16 fl_X13_21 dec_X13_whoIn.1.2.2.2.2 ?_
    refine V_iload_n dec_X13_whoIn.2.1.1.1 2 rfl ?_
    refine V_iald dec_X13_whoIn.2.1.1.2 ?_
    refine V_iload_n dec_X13_whoIn.2.1.2.1 1 rfl ?_
    refine V_icmp_ne (tgt := 25) dec_X13_whoIn.2.1.2.2.1 (by decide) ?_ ?_
    · refine V_iinc (lv' := [(2, (0, (w32 (x2 + 1)))), (0, (2, x0)), (1, (0, x1))]) dec_X13_whoIn.2.2.1.2 2 rfl (by decide) rfl ?_
      refine V_goto (tgt := 2) dec_X13_whoIn.2.2.2.1 (by decide) ?_
      exact V_pick [1, 2, 0] rfl (hk2 s x0 x1 (w32 (x2 + 1)))
    · refine V_iload_n dec_X13_whoIn.2.1.2.2.2 2 rfl ?_
      exact V_iret rfl dec_X13_whoIn.2.2.1.1
theorem X13_whoIn_b2_s (G : Gx) (l : Launch) (n : Nat) (s : St) (x0 x1 x2 : Int) : V G l mX13_whoIn 2 [(0, (2, x0)), (1, (0, x1)), (2, (0, x2))] [] s (X13_whoIn_b2 n s x0 x1 x2) :=
  V_iter (LV := fun a : St × Int × Int × Int => [(0, (2, a.2.1)), (1, (0, a.2.2.1)), (2, (0, a.2.2.2))]) (ST := fun a : St × Int × Int × Int => []) (SS := fun a : St × Int × Int × Int => a.1) (fun rec hrec a => X13_whoIn_b2_body_s G l (fun (s : St) (x0 x1 x2 : Int) => rec (s, x0, x1, x2)) (fun (s : St) (x0 x1 x2 : Int) => hrec (s, x0, x1, x2)) a.1 a.2.1 a.2.2.1 a.2.2.2) n (s, x0, x1, x2)
def X13_whoIn (s : St) (a0 a1 : Int) : Rs :=
  X13_whoIn_b2 FU s a0 a1 0
set_option maxRecDepth 100000 in
set_option maxHeartbeats 4000000 in
theorem X13_whoIn_s (G : Gx) (l : Launch) (s : St) (a0 a1 : Int) : Snd G l mX13_whoIn [(2, a0), (0, a1)] s (X13_whoIn s a0 a1) := by
  refine Snd.of (by decide +kernel) rfl ?_
  show V G l mX13_whoIn 0 [(0, (2, a0)), (1, (0, a1))] [] s _
  unfold X13_whoIn
  refine V_iconst dec_X13_whoIn.1.1.1.1 rfl ?_
  refine V_istore_n (lv' := [(2, (0, 0)), (0, (2, a0)), (1, (0, a1))]) dec_X13_whoIn.1.1.1.2 (by decide) rfl ?_
  exact V_pick [1, 2, 0] rfl (X13_whoIn_b2_s G l FU s a0 a1 0)
theorem dec_X13_heardFrom : ((((decode cX13_heardFrom 0 = .ok (.iload_n 1, 1) ∧ decode cX13_heardFrom 1 = .ok (.istore_n 2, 1)) ∧ (decode cX13_heardFrom 2 = .ok (.aload_n 0, 1) ∧ decode cX13_heardFrom 3 = .ok (.iload_n 2, 1))) ∧ ((decode cX13_heardFrom 4 = .ok (.invokevirtual 320, 3) ∧ decode cX13_heardFrom 7 = .ok (.bipush (-2), 2)) ∧ (decode cX13_heardFrom 9 = .ok (.if_icmp .ne 15, 3) ∧ (decode cX13_heardFrom 12 = .ok (.aload_n 0, 1) ∧ decode cX13_heardFrom 13 = .ok (.iload_n 2, 1))))) ∧ (((decode cX13_heardFrom 14 = .ok (.iconst 1, 1) ∧ decode cX13_heardFrom 15 = .ok (.iadd, 1)) ∧ (decode cX13_heardFrom 16 = .ok (.i2l, 1) ∧ (decode cX13_heardFrom 17 = .ok (.invokevirtual 317, 3) ∧ decode cX13_heardFrom 20 = .ok (.istore_n 2, 1)))) ∧ ((decode cX13_heardFrom 21 = .ok (.goto (-19), 3) ∧ decode cX13_heardFrom 24 = .ok (.aload_n 0, 1)) ∧ (decode cX13_heardFrom 25 = .ok (.iload_n 2, 1) ∧ (decode cX13_heardFrom 26 = .ok (.invokevirtual 320, 3) ∧ decode cX13_heardFrom 29 = .ok (.ireturn, 1)))))) := ⟨by decide +kernel, by decide +kernel⟩
def X13_heardFrom_b2_body (rk2 : St → Int → Int → Rs) (s : St) (x0 x2 : Int) : Rs :=
  grd (isK s 23 x0) (bnd (X13_whoIn s x0 x2) (fun r1 s2 => if ¬ r1 = ((-2) : Int) then (grd (isK s2 23 x0) (bnd (X13_whoIn s2 x0 x2) (fun r3 s4 => some (r3, s4)))) else (grd (isK s2 23 x0) (bnd (X13_around s2 x0 (w32 (x2 + 1))) (fun r5 s6 => rk2 s6 x0 r5)))))
def X13_heardFrom_b2 (n : Nat) (s : St) (x0 x2 : Int) : Rs := iter (fun (rec : St × Int × Int → Rs) (a : St × Int × Int) => X13_heardFrom_b2_body (fun (s : St) (x0 x2 : Int) => rec (s, x0, x2)) a.1 a.2.1 a.2.2) n (s, x0, x2)
theorem X13_heardFrom_b2_0 (s : St) (x0 x2 : Int) : X13_heardFrom_b2 0 s x0 x2 = none := rfl
theorem X13_heardFrom_b2_1 (n : Nat) (s : St) (x0 x2 : Int) : X13_heardFrom_b2 (n + 1) s x0 x2 = X13_heardFrom_b2_body (X13_heardFrom_b2 n) s x0 x2 := rfl
set_option maxRecDepth 100000 in
set_option maxHeartbeats 4000000 in
theorem X13_heardFrom_b2_body_s (G : Gx) (l : Launch) (rk2 : St → Int → Int → Rs) (hk2 : ∀ (s : St) (x0 x2 : Int), V G l mX13_heardFrom 2 [(0, (2, x0)), (2, (0, x2))] [] s (rk2 s x0 x2)) (s : St) (x0 x2 : Int) : V G l mX13_heardFrom 2 [(0, (2, x0)), (2, (0, x2))] [] s (X13_heardFrom_b2_body rk2 s x0 x2) := by
  unfold X13_heardFrom_b2_body
  refine V_aload_n dec_X13_heardFrom.1.1.2.1 0 rfl ?_
  refine V_iload_n dec_X13_heardFrom.1.1.2.2 1 rfl ?_
  refine V_callV0 (ci := 13) (a := x0) (As := [(0, x2)]) (st := []) rfl rfl (X13_whoIn_s G l s x0 x2) cal_X13_whoIn rfl ml_X13_320 rfl rfl dec_X13_heardFrom.1.2.1.1 (k_tag (tag := 0) rfl fun r1 s2 => ?_)
  refine V_bipush dec_X13_heardFrom.1.2.1.2 rfl ?_
  refine V_icmp_ne (tgt := 24) dec_X13_heardFrom.1.2.2.1 (by decide) ?_ ?_
  · refine V_aload_n dec_X13_heardFrom.2.2.1.2 0 rfl ?_
    refine V_iload_n dec_X13_heardFrom.2.2.2.1 1 rfl ?_
    refine V_callV0 (ci := 13) (a := x0) (As := [(0, x2)]) (st := []) rfl rfl (X13_whoIn_s G l s2 x0 x2) cal_X13_whoIn rfl ml_X13_320 rfl rfl dec_X13_heardFrom.2.2.2.2.1 (k_tag (tag := 0) rfl fun r3 s4 => ?_)
    exact V_iret rfl dec_X13_heardFrom.2.2.2.2.2
  · refine V_aload_n dec_X13_heardFrom.1.2.2.2.1 0 rfl ?_
    refine V_iload_n dec_X13_heardFrom.1.2.2.2.2 1 rfl ?_
    refine V_iconst dec_X13_heardFrom.2.1.1.1 rfl ?_
    refine V_iadd dec_X13_heardFrom.2.1.1.2 ?_
    refine V_i2l dec_X13_heardFrom.2.1.2.1 ?_
    refine V_callV0 (ci := 13) (a := x0) (As := [(1, (w32 (x2 + 1)))]) (st := []) rfl rfl (X13_around_s G l s2 x0 (w32 (x2 + 1))) cal_X13_around rfl ml_X13_317 rfl rfl dec_X13_heardFrom.2.1.2.2.1 (k_tag (tag := 0) rfl fun r5 s6 => ?_)
    refine V_istore_n (lv' := [(2, (0, r5)), (0, (2, x0))]) dec_X13_heardFrom.2.1.2.2.2 (by decide) rfl ?_
    refine V_goto (tgt := 2) dec_X13_heardFrom.2.2.1.1 (by decide) ?_
    exact V_pick [1, 0] rfl (hk2 s6 x0 r5)
theorem X13_heardFrom_b2_s (G : Gx) (l : Launch) (n : Nat) (s : St) (x0 x2 : Int) : V G l mX13_heardFrom 2 [(0, (2, x0)), (2, (0, x2))] [] s (X13_heardFrom_b2 n s x0 x2) :=
  V_iter (LV := fun a : St × Int × Int => [(0, (2, a.2.1)), (2, (0, a.2.2))]) (ST := fun a : St × Int × Int => []) (SS := fun a : St × Int × Int => a.1) (fun rec hrec a => X13_heardFrom_b2_body_s G l (fun (s : St) (x0 x2 : Int) => rec (s, x0, x2)) (fun (s : St) (x0 x2 : Int) => hrec (s, x0, x2)) a.1 a.2.1 a.2.2) n (s, x0, x2)
def X13_heardFrom (s : St) (a0 a1 : Int) : Rs :=
  X13_heardFrom_b2 FU s a0 a1
set_option maxRecDepth 100000 in
set_option maxHeartbeats 4000000 in
theorem X13_heardFrom_s (G : Gx) (l : Launch) (s : St) (a0 a1 : Int) : Snd G l mX13_heardFrom [(2, a0), (0, a1)] s (X13_heardFrom s a0 a1) := by
  refine Snd.of (by decide +kernel) rfl ?_
  show V G l mX13_heardFrom 0 [(0, (2, a0)), (1, (0, a1))] [] s _
  unfold X13_heardFrom
  refine V_iload_n dec_X13_heardFrom.1.1.1.1 1 rfl ?_
  refine V_istore_n (lv' := [(2, (0, a1)), (0, (2, a0)), (1, (0, a1))]) dec_X13_heardFrom.1.1.1.2 (by decide) rfl ?_
  exact V_pick [1, 0] rfl (X13_heardFrom_b2_s G l FU s a0 a1)
theorem dec_X13_isDead : (((decode cX13_isDead 0 = .ok (.aload_n 0, 1) ∧ (decode cX13_isDead 1 = .ok (.getfield 303, 3) ∧ decode cX13_isDead 4 = .ok (.ifnull 22, 3))) ∧ ((decode cX13_isDead 7 = .ok (.iload_n 1, 1) ∧ decode cX13_isDead 8 = .ok (.ifCond .lt 18, 3)) ∧ (decode cX13_isDead 11 = .ok (.iload_n 1, 1) ∧ decode cX13_isDead 12 = .ok (.aload_n 0, 1)))) ∧ ((decode cX13_isDead 13 = .ok (.getfield 303, 3) ∧ (decode cX13_isDead 16 = .ok (.getfield 241, 3) ∧ decode cX13_isDead 19 = .ok (.if_icmp .ge 7, 3))) ∧ ((decode cX13_isDead 22 = .ok (.iconst 1, 1) ∧ decode cX13_isDead 23 = .ok (.goto 4, 3)) ∧ (decode cX13_isDead 26 = .ok (.iconst 0, 1) ∧ decode cX13_isDead 27 = .ok (.ireturn, 1))))) := ⟨by decide +kernel, by decide +kernel⟩
def X13_isDead_b27 (s : St) (k0 : Int) : Rs :=
  grd (k0 = 0 ∨ k0 = 1) (some (k0, s))
set_option maxRecDepth 100000 in
set_option maxHeartbeats 4000000 in
theorem X13_isDead_b27_s (G : Gx) (l : Launch) (s : St) (k0 : Int) : V G l mX13_isDead 27 [] [(0, k0)] s (X13_isDead_b27 s k0) := by
  unfold X13_isDead_b27
  exact V_zret rfl dec_X13_isDead.2.2.2.2
def X13_isDead_b26 (s : St) : Rs :=
  X13_isDead_b27 s 0
set_option maxRecDepth 100000 in
set_option maxHeartbeats 4000000 in
theorem X13_isDead_b26_s (G : Gx) (l : Launch) (s : St) : V G l mX13_isDead 26 [] [] s (X13_isDead_b26 s) := by
  unfold X13_isDead_b26
  refine V_iconst dec_X13_isDead.2.2.2.1 rfl ?_
  exact V_pick [] rfl (X13_isDead_b27_s G l s 0)
def X13_isDead (s : St) (a0 a1 : Int) : Rs :=
  grd (isK s 23 a0) (if (gR s a0 3) < 0 then (X13_isDead_b26 s) else (if a1 < 0 then (X13_isDead_b26 s) else (grd (isK s 23 a0) (grd (isK s 22 (gR s a0 3)) (if (gI s (gR s a0 3) 3) ≤ a1 then (X13_isDead_b26 s) else (X13_isDead_b27 s 1))))))
set_option maxRecDepth 100000 in
set_option maxHeartbeats 4000000 in
theorem X13_isDead_s (G : Gx) (l : Launch) (s : St) (a0 a1 : Int) : Snd G l mX13_isDead [(2, a0), (0, a1)] s (X13_isDead s a0 a1) := by
  refine Snd.of (by decide +kernel) rfl ?_
  show V G l mX13_isDead 0 [(0, (2, a0)), (1, (0, a1))] [] s _
  unfold X13_isDead
  refine V_aload_n dec_X13_isDead.1.1.1 0 rfl ?_
  refine V_getR 13 3 nf_13_3 ft_13_3 fl_X13_303 dec_X13_isDead.1.1.2.1 ?_
  refine V_ifnull (tgt := 26) dec_X13_isDead.1.1.2.2 (by decide) ?_ ?_
  · exact V_pick [] rfl (X13_isDead_b26_s G l s)
  · refine V_iload_n dec_X13_isDead.1.2.1.1 1 rfl ?_
    refine V_if_lt (tgt := 26) dec_X13_isDead.1.2.1.2 (by decide) ?_ ?_
    · exact V_pick [] rfl (X13_isDead_b26_s G l s)
    · refine V_iload_n dec_X13_isDead.1.2.2.1 1 rfl ?_
      refine V_aload_n dec_X13_isDead.1.2.2.2 0 rfl ?_
      refine V_getR 13 3 nf_13_3 ft_13_3 fl_X13_303 dec_X13_isDead.2.1.1 ?_
      refine V_getIN RX13 12 3 nf_12_3 ft_12_3 fl_X13_241 dec_X13_isDead.2.1.2.1 ?_
      refine V_icmp_ge (tgt := 26) dec_X13_isDead.2.1.2.2 (by decide) ?_ ?_
      · exact V_pick [] rfl (X13_isDead_b26_s G l s)
      · refine V_iconst dec_X13_isDead.2.2.1.1 rfl ?_
        refine V_goto (tgt := 27) dec_X13_isDead.2.2.1.2 (by decide) ?_
        exact V_pick [] rfl (X13_isDead_b27_s G l s 1)
theorem dec_X13_isPerson : (((decode cX13_isPerson 0 = .ok (.aload_n 0, 1) ∧ (decode cX13_isPerson 1 = .ok (.getfield 303, 3) ∧ decode cX13_isPerson 4 = .ok (.ifnull 22, 3))) ∧ ((decode cX13_isPerson 7 = .ok (.iload_n 1, 1) ∧ decode cX13_isPerson 8 = .ok (.ifCond .lt 18, 3)) ∧ (decode cX13_isPerson 11 = .ok (.iload_n 1, 1) ∧ decode cX13_isPerson 12 = .ok (.aload_n 0, 1)))) ∧ ((decode cX13_isPerson 13 = .ok (.getfield 303, 3) ∧ (decode cX13_isPerson 16 = .ok (.getfield 193, 3) ∧ decode cX13_isPerson 19 = .ok (.if_icmp .ge 7, 3))) ∧ ((decode cX13_isPerson 22 = .ok (.iconst 1, 1) ∧ decode cX13_isPerson 23 = .ok (.goto 4, 3)) ∧ (decode cX13_isPerson 26 = .ok (.iconst 0, 1) ∧ decode cX13_isPerson 27 = .ok (.ireturn, 1))))) := ⟨by decide +kernel, by decide +kernel⟩
def X13_isPerson_b27 (s : St) (k0 : Int) : Rs :=
  grd (k0 = 0 ∨ k0 = 1) (some (k0, s))
set_option maxRecDepth 100000 in
set_option maxHeartbeats 4000000 in
theorem X13_isPerson_b27_s (G : Gx) (l : Launch) (s : St) (k0 : Int) : V G l mX13_isPerson 27 [] [(0, k0)] s (X13_isPerson_b27 s k0) := by
  unfold X13_isPerson_b27
  exact V_zret rfl dec_X13_isPerson.2.2.2.2
def X13_isPerson_b26 (s : St) : Rs :=
  X13_isPerson_b27 s 0
set_option maxRecDepth 100000 in
set_option maxHeartbeats 4000000 in
theorem X13_isPerson_b26_s (G : Gx) (l : Launch) (s : St) : V G l mX13_isPerson 26 [] [] s (X13_isPerson_b26 s) := by
  unfold X13_isPerson_b26
  refine V_iconst dec_X13_isPerson.2.2.2.1 rfl ?_
  exact V_pick [] rfl (X13_isPerson_b27_s G l s 0)
def X13_isPerson (s : St) (a0 a1 : Int) : Rs :=
  grd (isK s 23 a0) (if (gR s a0 3) < 0 then (X13_isPerson_b26 s) else (if a1 < 0 then (X13_isPerson_b26 s) else (grd (isK s 23 a0) (grd (isK s 22 (gR s a0 3)) (if (gI s (gR s a0 3) 2) ≤ a1 then (X13_isPerson_b26 s) else (X13_isPerson_b27 s 1))))))
set_option maxRecDepth 100000 in
set_option maxHeartbeats 4000000 in
theorem X13_isPerson_s (G : Gx) (l : Launch) (s : St) (a0 a1 : Int) : Snd G l mX13_isPerson [(2, a0), (0, a1)] s (X13_isPerson s a0 a1) := by
  refine Snd.of (by decide +kernel) rfl ?_
  show V G l mX13_isPerson 0 [(0, (2, a0)), (1, (0, a1))] [] s _
  unfold X13_isPerson
  refine V_aload_n dec_X13_isPerson.1.1.1 0 rfl ?_
  refine V_getR 13 3 nf_13_3 ft_13_3 fl_X13_303 dec_X13_isPerson.1.1.2.1 ?_
  refine V_ifnull (tgt := 26) dec_X13_isPerson.1.1.2.2 (by decide) ?_ ?_
  · exact V_pick [] rfl (X13_isPerson_b26_s G l s)
  · refine V_iload_n dec_X13_isPerson.1.2.1.1 1 rfl ?_
    refine V_if_lt (tgt := 26) dec_X13_isPerson.1.2.1.2 (by decide) ?_ ?_
    · exact V_pick [] rfl (X13_isPerson_b26_s G l s)
    · refine V_iload_n dec_X13_isPerson.1.2.2.1 1 rfl ?_
      refine V_aload_n dec_X13_isPerson.1.2.2.2 0 rfl ?_
      refine V_getR 13 3 nf_13_3 ft_13_3 fl_X13_303 dec_X13_isPerson.2.1.1 ?_
      refine V_getIN RX13 12 2 nf_12_2 ft_12_2 fl_X13_193 dec_X13_isPerson.2.1.2.1 ?_
      refine V_icmp_ge (tgt := 26) dec_X13_isPerson.2.1.2.2 (by decide) ?_ ?_
      · exact V_pick [] rfl (X13_isPerson_b26_s G l s)
      · refine V_iconst dec_X13_isPerson.2.2.1.1 rfl ?_
        refine V_goto (tgt := 27) dec_X13_isPerson.2.2.1.2 (by decide) ?_
        exact V_pick [] rfl (X13_isPerson_b27_s G l s 1)
theorem dec_X13_outOf : ((((((decode cX13_outOf 0 = .ok (.aload_n 0, 1) ∧ decode cX13_outOf 1 = .ok (.getfield 21, 3)) ∧ (decode cX13_outOf 4 = .ok (.bipush 6, 2) ∧ decode cX13_outOf 6 = .ok (.iload_n 1, 1))) ∧ ((decode cX13_outOf 7 = .ok (.iadd, 1) ∧ decode cX13_outOf 8 = .ok (.iaload, 1)) ∧ (decode cX13_outOf 9 = .ok (.istore 4, 2) ∧ decode cX13_outOf 11 = .ok (.aload_n 0, 1)))) ∧ (((decode cX13_outOf 12 = .ok (.getfield 303, 3) ∧ decode cX13_outOf 15 = .ok (.getfield 258, 3)) ∧ (decode cX13_outOf 18 = .ok (.iload_n 1, 1) ∧ decode cX13_outOf 19 = .ok (.iaload, 1))) ∧ ((decode cX13_outOf 20 = .ok (.istore 5, 2) ∧ decode cX13_outOf 22 = .ok (.iload 5, 2)) ∧ (decode cX13_outOf 24 = .ok (.ifCond .ne 8, 3) ∧ decode cX13_outOf 27 = .ok (.iload 4, 2))))) ∧ ((((decode cX13_outOf 29 = .ok (.goto 42, 3) ∧ decode cX13_outOf 32 = .ok (.iload 5, 2)) ∧ (decode cX13_outOf 34 = .ok (.iconst 1, 1) ∧ decode cX13_outOf 35 = .ok (.if_icmp .ne 9, 3))) ∧ ((decode cX13_outOf 38 = .ok (.iload 4, 2) ∧ decode cX13_outOf 40 = .ok (.ineg, 1)) ∧ (decode cX13_outOf 41 = .ok (.goto 30, 3) ∧ decode cX13_outOf 44 = .ok (.iload 5, 2)))) ∧ (((decode cX13_outOf 46 = .ok (.iconst 2, 1) ∧ decode cX13_outOf 47 = .ok (.if_icmp .ne 10, 3)) ∧ (decode cX13_outOf 50 = .ok (.iload 4, 2) ∧ decode cX13_outOf 52 = .ok (.iload_n 3, 1))) ∧ ((decode cX13_outOf 53 = .ok (.imul, 1) ∧ decode cX13_outOf 54 = .ok (.goto 17, 3)) ∧ (decode cX13_outOf 57 = .ok (.iload_n 3, 1) ∧ (decode cX13_outOf 58 = .ok (.iconst 2, 1) ∧ decode cX13_outOf 59 = .ok (.irem, 1))))))) ∧ (((((decode cX13_outOf 60 = .ok (.ifCond .ne 8, 3) ∧ decode cX13_outOf 63 = .ok (.iload 4, 2)) ∧ (decode cX13_outOf 65 = .ok (.goto 6, 3) ∧ decode cX13_outOf 68 = .ok (.iload 4, 2))) ∧ ((decode cX13_outOf 70 = .ok (.ineg, 1) ∧ decode cX13_outOf 71 = .ok (.istore 6, 2)) ∧ (decode cX13_outOf 73 = .ok (.aload_n 0, 1) ∧ decode cX13_outOf 74 = .ok (.iload_n 2, 1)))) ∧ (((decode cX13_outOf 75 = .ok (.iload 6, 2) ∧ decode cX13_outOf 77 = .ok (.iadd, 1)) ∧ (decode cX13_outOf 78 = .ok (.i2l, 1) ∧ decode cX13_outOf 79 = .ok (.invokevirtual 317, 3))) ∧ ((decode cX13_outOf 82 = .ok (.istore 7, 2) ∧ decode cX13_outOf 84 = .ok (.aload_n 0, 1)) ∧ (decode cX13_outOf 85 = .ok (.getfield 21, 3) ∧ (decode cX13_outOf 88 = .ok (.bipush 12, 2) ∧ decode cX13_outOf 90 = .ok (.iload_n 1, 1)))))) ∧ ((((decode cX13_outOf 91 = .ok (.iadd, 1) ∧ decode cX13_outOf 92 = .ok (.iaload, 1)) ∧ (decode cX13_outOf 93 = .ok (.istore 8, 2) ∧ decode cX13_outOf 95 = .ok (.iload 8, 2))) ∧ ((decode cX13_outOf 97 = .ok (.bipush (-2), 2) ∧ decode cX13_outOf 99 = .ok (.if_icmp .ne 8, 3)) ∧ (decode cX13_outOf 102 = .ok (.iload 7, 2) ∧ decode cX13_outOf 104 = .ok (.goto 15, 3)))) ∧ (((decode cX13_outOf 107 = .ok (.aload_n 0, 1) ∧ decode cX13_outOf 108 = .ok (.iconst 2, 1)) ∧ (decode cX13_outOf 109 = .ok (.iload 8, 2) ∧ decode cX13_outOf 111 = .ok (.imul, 1))) ∧ ((decode cX13_outOf 112 = .ok (.iload 7, 2) ∧ decode cX13_outOf 114 = .ok (.isub, 1)) ∧ (decode cX13_outOf 115 = .ok (.i2l, 1) ∧ (decode cX13_outOf 116 = .ok (.invokevirtual 317, 3) ∧ decode cX13_outOf 119 = .ok (.ireturn, 1)))))))) := ⟨⟨⟨by decide +kernel, by decide +kernel⟩, ⟨by decide +kernel, by decide +kernel⟩⟩, ⟨⟨by decide +kernel, by decide +kernel⟩, ⟨by decide +kernel, by decide +kernel⟩⟩⟩
def X13_outOf_b119 (s : St) (k0 : Int) : Rs :=
  some (k0, s)
set_option maxRecDepth 100000 in
set_option maxHeartbeats 4000000 in
theorem X13_outOf_b119_s (G : Gx) (l : Launch) (s : St) (k0 : Int) : V G l mX13_outOf 119 [] [(0, k0)] s (X13_outOf_b119 s k0) := by
  unfold X13_outOf_b119
  exact V_iret rfl dec_X13_outOf.2.2.2.2.2.2.2
def X13_outOf_b71 (s : St) (x0 x1 x2 k0 : Int) : Rs :=
  grd (isK s 23 x0) (bnd (X13_around s x0 (w32 (x2 + k0))) (fun r3 s4 => grd (isK s4 23 x0) (grd (isK s4 1 (gR s4 x0 16) ∧ 0 ≤ (w32 (12 + x1)) ∧ (w32 (12 + x1)) < ln s4 (gR s4 x0 16)) (letv (gI s4 (gR s4 x0 16) (w32 (12 + x1)).toNat) (fun y5 => if ¬ y5 = ((-2) : Int) then (grd (isK s4 23 x0) (bnd (X13_around s4 x0 (w32 ((w32 (2 * y5)) - r3))) (fun r6 s7 => X13_outOf_b119 s7 r6))) else (X13_outOf_b119 s4 r3))))))
set_option maxRecDepth 100000 in
set_option maxHeartbeats 4000000 in
theorem X13_outOf_b71_s (G : Gx) (l : Launch) (s : St) (x0 x1 x2 k0 : Int) : V G l mX13_outOf 71 [(0, (2, x0)), (1, (0, x1)), (2, (0, x2))] [(0, k0)] s (X13_outOf_b71 s x0 x1 x2 k0) := by
  unfold X13_outOf_b71
  refine V_istore (lv' := [(6, (0, k0)), (0, (2, x0)), (1, (0, x1)), (2, (0, x2))]) dec_X13_outOf.2.1.1.2.1.2 (by decide) rfl ?_
  refine V_aload_n dec_X13_outOf.2.1.1.2.2.1 1 rfl ?_
  refine V_iload_n dec_X13_outOf.2.1.1.2.2.2 3 rfl ?_
  refine V_iload dec_X13_outOf.2.1.2.1.1.1 0 rfl ?_
  refine V_iadd dec_X13_outOf.2.1.2.1.1.2 ?_
  refine V_i2l dec_X13_outOf.2.1.2.1.2.1 ?_
  refine V_callV0 (ci := 13) (a := x0) (As := [(1, (w32 (x2 + k0)))]) (st := []) rfl rfl (X13_around_s G l s x0 (w32 (x2 + k0))) cal_X13_around rfl ml_X13_317 rfl rfl dec_X13_outOf.2.1.2.1.2.2 (k_tag (tag := 0) rfl fun r3 s4 => ?_)
  refine V_istore (lv' := [(7, (0, r3)), (6, (0, k0)), (0, (2, x0)), (1, (0, x1)), (2, (0, x2))]) dec_X13_outOf.2.1.2.2.1.1 (by decide) rfl ?_
  refine V_aload_n dec_X13_outOf.2.1.2.2.1.2 2 rfl ?_
  refine V_getR 13 16 nf_13_16 ft_13_16 fl_X13_21 dec_X13_outOf.2.1.2.2.2.1 ?_
  refine V_bipush dec_X13_outOf.2.1.2.2.2.2.1 rfl ?_
  refine V_iload_n dec_X13_outOf.2.1.2.2.2.2.2 3 rfl ?_
  refine V_iadd dec_X13_outOf.2.2.1.1.1.1 ?_
  refine V_iald dec_X13_outOf.2.2.1.1.1.2 ?_
  refine V_letv fun y5 => ?_
  refine V_istore (lv' := [(8, (0, y5)), (7, (0, r3)), (6, (0, k0)), (0, (2, x0)), (1, (0, x1)), (2, (0, x2))]) dec_X13_outOf.2.2.1.1.2.1 (by decide) rfl ?_
  refine V_iload dec_X13_outOf.2.2.1.1.2.2 0 rfl ?_
  refine V_bipush dec_X13_outOf.2.2.1.2.1.1 rfl ?_
  refine V_icmp_ne (tgt := 107) dec_X13_outOf.2.2.1.2.1.2 (by decide) ?_ ?_
  · refine V_aload_n dec_X13_outOf.2.2.2.1.1.1 3 rfl ?_
    refine V_iconst dec_X13_outOf.2.2.2.1.1.2 rfl ?_
    refine V_iload dec_X13_outOf.2.2.2.1.2.1 0 rfl ?_
    refine V_imul dec_X13_outOf.2.2.2.1.2.2 ?_
    refine V_iload dec_X13_outOf.2.2.2.2.1.1 1 rfl ?_
    refine V_isub dec_X13_outOf.2.2.2.2.1.2 ?_
    refine V_i2l dec_X13_outOf.2.2.2.2.2.1 ?_
    refine V_callV0 (ci := 13) (a := x0) (As := [(1, (w32 ((w32 (2 * y5)) - r3)))]) (st := []) rfl rfl (X13_around_s G l s4 x0 (w32 ((w32 (2 * y5)) - r3))) cal_X13_around rfl ml_X13_317 rfl rfl dec_X13_outOf.2.2.2.2.2.2.1 (k_tag (tag := 0) rfl fun r6 s7 => ?_)
    exact V_pick [] rfl (X13_outOf_b119_s G l s7 r6)
  · refine V_iload dec_X13_outOf.2.2.1.2.2.1 1 rfl ?_
    refine V_goto (tgt := 119) dec_X13_outOf.2.2.1.2.2.2 (by decide) ?_
    exact V_pick [] rfl (X13_outOf_b119_s G l s4 r3)
def X13_outOf (s : St) (a0 a1 a2 a3 : Int) : Rs :=
  grd (isK s 23 a0) (grd (isK s 1 (gR s a0 16) ∧ 0 ≤ (w32 (6 + a1)) ∧ (w32 (6 + a1)) < ln s (gR s a0 16)) (letv (gI s (gR s a0 16) (w32 (6 + a1)).toNat) (fun y1 => grd (isK s 23 a0) (grd (isK s 22 (gR s a0 3)) (grd (isK s 1 (gR s (gR s a0 3) 9) ∧ 0 ≤ a1 ∧ a1 < ln s (gR s (gR s a0 3) 9)) (letv (gI s (gR s (gR s a0 3) 9) a1.toNat) (fun y2 => if ¬ y2 = 0 then (if ¬ y2 = (1 : Int) then (if ¬ y2 = (2 : Int) then (grd ((2 : Int) ≠ 0) (if ¬ (Int.tmod a3 2) = 0 then (X13_outOf_b71 s a0 a1 a2 (w32 (-y1))) else (X13_outOf_b71 s a0 a1 a2 y1))) else (X13_outOf_b71 s a0 a1 a2 (w32 (y1 * a3)))) else (X13_outOf_b71 s a0 a1 a2 (w32 (-y1)))) else (X13_outOf_b71 s a0 a1 a2 y1))))))))
set_option maxRecDepth 100000 in
set_option maxHeartbeats 4000000 in
theorem X13_outOf_s (G : Gx) (l : Launch) (s : St) (a0 a1 a2 a3 : Int) : Snd G l mX13_outOf [(2, a0), (0, a1), (0, a2), (0, a3)] s (X13_outOf s a0 a1 a2 a3) := by
  refine Snd.of (by decide +kernel) rfl ?_
  show V G l mX13_outOf 0 [(0, (2, a0)), (1, (0, a1)), (2, (0, a2)), (3, (0, a3))] [] s _
  unfold X13_outOf
  refine V_aload_n dec_X13_outOf.1.1.1.1.1.1 0 rfl ?_
  refine V_getR 13 16 nf_13_16 ft_13_16 fl_X13_21 dec_X13_outOf.1.1.1.1.1.2 ?_
  refine V_bipush dec_X13_outOf.1.1.1.1.2.1 rfl ?_
  refine V_iload_n dec_X13_outOf.1.1.1.1.2.2 1 rfl ?_
  refine V_iadd dec_X13_outOf.1.1.1.2.1.1 ?_
  refine V_iald dec_X13_outOf.1.1.1.2.1.2 ?_
  refine V_letv fun y1 => ?_
  refine V_istore (lv' := [(4, (0, y1)), (0, (2, a0)), (1, (0, a1)), (2, (0, a2)), (3, (0, a3))]) dec_X13_outOf.1.1.1.2.2.1 (by decide) rfl ?_
  refine V_aload_n dec_X13_outOf.1.1.1.2.2.2 1 rfl ?_
  refine V_getR 13 3 nf_13_3 ft_13_3 fl_X13_303 dec_X13_outOf.1.1.2.1.1.1 ?_
  refine V_getRN RX13 12 9 nf_12_9 ft_12_9 fl_X13_258 dec_X13_outOf.1.1.2.1.1.2 ?_
  refine V_iload_n dec_X13_outOf.1.1.2.1.2.1 2 rfl ?_
  refine V_iald dec_X13_outOf.1.1.2.1.2.2 ?_
  refine V_letv fun y2 => ?_
  refine V_istore (lv' := [(5, (0, y2)), (4, (0, y1)), (0, (2, a0)), (1, (0, a1)), (2, (0, a2)), (3, (0, a3))]) dec_X13_outOf.1.1.2.2.1.1 (by decide) rfl ?_
  refine V_iload dec_X13_outOf.1.1.2.2.1.2 0 rfl ?_
  refine V_if_ne (tgt := 32) dec_X13_outOf.1.1.2.2.2.1 (by decide) ?_ ?_
  · refine V_iload dec_X13_outOf.1.2.1.1.1.2 0 rfl ?_
    refine V_iconst dec_X13_outOf.1.2.1.1.2.1 rfl ?_
    refine V_icmp_ne (tgt := 44) dec_X13_outOf.1.2.1.1.2.2 (by decide) ?_ ?_
    · refine V_iload dec_X13_outOf.1.2.1.2.2.2 0 rfl ?_
      refine V_iconst dec_X13_outOf.1.2.2.1.1.1 rfl ?_
      refine V_icmp_ne (tgt := 57) dec_X13_outOf.1.2.2.1.1.2 (by decide) ?_ ?_
      · refine V_iload_n dec_X13_outOf.1.2.2.2.2.1 5 rfl ?_
        refine V_iconst dec_X13_outOf.1.2.2.2.2.2.1 rfl ?_
        refine V_irem dec_X13_outOf.1.2.2.2.2.2.2 ?_
        refine V_if_ne (tgt := 68) dec_X13_outOf.2.1.1.1.1.1 (by decide) ?_ ?_
        · refine V_iload dec_X13_outOf.2.1.1.1.2.2 1 rfl ?_
          refine V_ineg dec_X13_outOf.2.1.1.2.1.1 ?_
          exact V_pick [2, 3, 4] rfl (X13_outOf_b71_s G l s a0 a1 a2 (w32 (-y1)))
        · refine V_iload dec_X13_outOf.2.1.1.1.1.2 1 rfl ?_
          refine V_goto (tgt := 71) dec_X13_outOf.2.1.1.1.2.1 (by decide) ?_
          exact V_pick [2, 3, 4] rfl (X13_outOf_b71_s G l s a0 a1 a2 y1)
      · refine V_iload dec_X13_outOf.1.2.2.1.2.1 1 rfl ?_
        refine V_iload_n dec_X13_outOf.1.2.2.1.2.2 5 rfl ?_
        refine V_imul dec_X13_outOf.1.2.2.2.1.1 ?_
        refine V_goto (tgt := 71) dec_X13_outOf.1.2.2.2.1.2 (by decide) ?_
        exact V_pick [2, 3, 4] rfl (X13_outOf_b71_s G l s a0 a1 a2 (w32 (y1 * a3)))
    · refine V_iload dec_X13_outOf.1.2.1.2.1.1 1 rfl ?_
      refine V_ineg dec_X13_outOf.1.2.1.2.1.2 ?_
      refine V_goto (tgt := 71) dec_X13_outOf.1.2.1.2.2.1 (by decide) ?_
      exact V_pick [2, 3, 4] rfl (X13_outOf_b71_s G l s a0 a1 a2 (w32 (-y1)))
  · refine V_iload dec_X13_outOf.1.1.2.2.2.2 1 rfl ?_
    refine V_goto (tgt := 71) dec_X13_outOf.1.2.1.1.1.1 (by decide) ?_
    exact V_pick [2, 3, 4] rfl (X13_outOf_b71_s G l s a0 a1 a2 y1)
theorem dec_X13_refused : (((decode cX13_refused 0 = .ok (.aload_n 0, 1) ∧ decode cX13_refused 1 = .ok (.iload_n 1, 1)) ∧ (decode cX13_refused 2 = .ok (.putfield 52, 3) ∧ decode cX13_refused 5 = .ok (.aload_n 0, 1))) ∧ ((decode cX13_refused 6 = .ok (.iconst (-1), 1) ∧ decode cX13_refused 7 = .ok (.putfield 9, 3)) ∧ (decode cX13_refused 10 = .ok (.iconst (-1), 1) ∧ decode cX13_refused 11 = .ok (.ireturn, 1)))) := by decide +kernel
def X13_refused (s : St) (a0 a1 : Int) : Rs :=
  grd (isK s 23 a0) (lets (pI s a0 1 a1) (fun s1 => grd (isK s1 23 a0) (lets (pI s1 a0 2 (-1)) (fun s2 => some ((-1), s2)))))
set_option maxRecDepth 100000 in
set_option maxHeartbeats 4000000 in
theorem X13_refused_s (G : Gx) (l : Launch) (s : St) (a0 a1 : Int) : Snd G l mX13_refused [(2, a0), (0, a1)] s (X13_refused s a0 a1) := by
  refine Snd.of (by decide +kernel) rfl ?_
  show V G l mX13_refused 0 [(0, (2, a0)), (1, (0, a1))] [] s _
  unfold X13_refused
  refine V_aload_n dec_X13_refused.1.1.1 0 rfl ?_
  refine V_iload_n dec_X13_refused.1.1.2 1 rfl ?_
  refine V_putI (host := "") 13 1 nf_13_1 ty_13_1 (Or.inl ⟨fl_X13_52, Or.inl rfl⟩) dec_X13_refused.1.2.1 ?_
  refine V_lets fun s1 => ?_
  refine V_aload_n dec_X13_refused.1.2.2 0 rfl ?_
  refine V_iconst dec_X13_refused.2.1.1 rfl ?_
  refine V_putI (host := "") 13 2 nf_13_2 ty_13_2 (Or.inl ⟨fl_X13_9, Or.inl rfl⟩) dec_X13_refused.2.1.2 ?_
  refine V_lets fun s2 => ?_
  refine V_iconst dec_X13_refused.2.2.1 rfl ?_
  exact V_iret rfl dec_X13_refused.2.2.2
theorem dec_X13_in : (((decode cX13_in 0 = .ok (.iload_n 0, 1) ∧ decode cX13_in 1 = .ok (.iload_n 1, 1)) ∧ (decode cX13_in 2 = .ok (.if_icmp .lt 12, 3) ∧ (decode cX13_in 5 = .ok (.iload_n 0, 1) ∧ decode cX13_in 6 = .ok (.iload_n 2, 1)))) ∧ ((decode cX13_in 7 = .ok (.if_icmp .gt 7, 3) ∧ decode cX13_in 10 = .ok (.iconst 1, 1)) ∧ (decode cX13_in 11 = .ok (.goto 4, 3) ∧ (decode cX13_in 14 = .ok (.iconst 0, 1) ∧ decode cX13_in 15 = .ok (.ireturn, 1))))) := by decide +kernel
def X13_in_b15 (s : St) (k0 : Int) : Rs :=
  grd (k0 = 0 ∨ k0 = 1) (some (k0, s))
set_option maxRecDepth 100000 in
set_option maxHeartbeats 4000000 in
theorem X13_in_b15_s (G : Gx) (l : Launch) (s : St) (k0 : Int) : V G l mX13_in 15 [] [(0, k0)] s (X13_in_b15 s k0) := by
  unfold X13_in_b15
  exact V_zret rfl dec_X13_in.2.2.2.2
def X13_in_b14 (s : St) : Rs :=
  X13_in_b15 s 0
set_option maxRecDepth 100000 in
set_option maxHeartbeats 4000000 in
theorem X13_in_b14_s (G : Gx) (l : Launch) (s : St) : V G l mX13_in 14 [] [] s (X13_in_b14 s) := by
  unfold X13_in_b14
  refine V_iconst dec_X13_in.2.2.2.1 rfl ?_
  exact V_pick [] rfl (X13_in_b15_s G l s 0)
def X13_in (s : St) (a0 a1 a2 : Int) : Rs :=
  if a0 < a1 then (X13_in_b14 s) else (if a2 < a0 then (X13_in_b14 s) else (X13_in_b15 s 1))
set_option maxRecDepth 100000 in
set_option maxHeartbeats 4000000 in
theorem X13_in_s (G : Gx) (l : Launch) (s : St) (a0 a1 a2 : Int) : Snd G l mX13_in [(0, a0), (0, a1), (0, a2)] s (X13_in s a0 a1 a2) := by
  refine Snd.of (by decide +kernel) rfl ?_
  show V G l mX13_in 0 [(0, (0, a0)), (1, (0, a1)), (2, (0, a2))] [] s _
  unfold X13_in
  refine V_iload_n dec_X13_in.1.1.1 0 rfl ?_
  refine V_iload_n dec_X13_in.1.1.2 1 rfl ?_
  refine V_icmp_lt (tgt := 14) dec_X13_in.1.2.1 (by decide) ?_ ?_
  · exact V_pick [] rfl (X13_in_b14_s G l s)
  · refine V_iload_n dec_X13_in.1.2.2.1 0 rfl ?_
    refine V_iload_n dec_X13_in.1.2.2.2 2 rfl ?_
    refine V_icmp_gt (tgt := 14) dec_X13_in.2.1.1 (by decide) ?_ ?_
    · exact V_pick [] rfl (X13_in_b14_s G l s)
    · refine V_iconst dec_X13_in.2.1.2 rfl ?_
      refine V_goto (tgt := 15) dec_X13_in.2.2.1 (by decide) ?_
      exact V_pick [] rfl (X13_in_b15_s G l s 1)
