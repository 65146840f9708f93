theorem dec_X13_seats : ((((((decode cX13_seats 0 = .ok (.iload_n 1, 1) ∧ decode cX13_seats 1 = .ok (.istore_n 2, 1)) ∧ (decode cX13_seats 2 = .ok (.iconst 0, 1) ∧ (decode cX13_seats 3 = .ok (.istore_n 3, 1) ∧ decode cX13_seats 4 = .ok (.iconst 1, 1)))) ∧ ((decode cX13_seats 5 = .ok (.istore 4, 2) ∧ (decode cX13_seats 7 = .ok (.iconst 2, 1) ∧ decode cX13_seats 8 = .ok (.istore 5, 2))) ∧ (decode cX13_seats 10 = .ok (.iload 5, 2) ∧ (decode cX13_seats 12 = .ok (.aload_n 0, 1) ∧ decode cX13_seats 13 = .ok (.getfield 303, 3))))) ∧ (((decode cX13_seats 16 = .ok (.getfield 193, 3) ∧ decode cX13_seats 19 = .ok (.if_icmp .ge 16, 3)) ∧ (decode cX13_seats 22 = .ok (.iload 4, 2) ∧ (decode cX13_seats 24 = .ok (.iload 5, 2) ∧ decode cX13_seats 26 = .ok (.imul, 1)))) ∧ ((decode cX13_seats 27 = .ok (.istore 4, 2) ∧ (decode cX13_seats 29 = .ok (.iinc 5 1, 3) ∧ decode cX13_seats 32 = .ok (.goto (-22), 3))) ∧ (decode cX13_seats 35 = .ok (.iconst 0, 1) ∧ (decode cX13_seats 36 = .ok (.istore 5, 2) ∧ decode cX13_seats 38 = .ok (.iload 5, 2)))))) ∧ ((((decode cX13_seats 40 = .ok (.aload_n 0, 1) ∧ decode cX13_seats 41 = .ok (.getfield 303, 3)) ∧ (decode cX13_seats 44 = .ok (.getfield 193, 3) ∧ (decode cX13_seats 47 = .ok (.if_icmp .ge 114, 3) ∧ decode cX13_seats 50 = .ok (.iload_n 2, 1)))) ∧ ((decode cX13_seats 51 = .ok (.iload 4, 2) ∧ (decode cX13_seats 53 = .ok (.idiv, 1) ∧ decode cX13_seats 54 = .ok (.istore 6, 2))) ∧ (decode cX13_seats 56 = .ok (.iload_n 2, 1) ∧ (decode cX13_seats 57 = .ok (.iload 4, 2) ∧ decode cX13_seats 59 = .ok (.irem, 1))))) ∧ (((decode cX13_seats 60 = .ok (.istore_n 2, 1) ∧ decode cX13_seats 61 = .ok (.iload 5, 2)) ∧ (decode cX13_seats 63 = .ok (.iconst 1, 1) ∧ (decode cX13_seats 64 = .ok (.iadd, 1) ∧ decode cX13_seats 65 = .ok (.aload_n 0, 1)))) ∧ ((decode cX13_seats 66 = .ok (.getfield 303, 3) ∧ (decode cX13_seats 69 = .ok (.getfield 193, 3) ∧ decode cX13_seats 72 = .ok (.if_icmp .ge 20, 3))) ∧ (decode cX13_seats 75 = .ok (.iload 4, 2) ∧ (decode cX13_seats 77 = .ok (.aload_n 0, 1) ∧ decode cX13_seats 78 = .ok (.getfield 303, 3))))))) ∧ (((((decode cX13_seats 81 = .ok (.getfield 193, 3) ∧ decode cX13_seats 84 = .ok (.iconst 1, 1)) ∧ (decode cX13_seats 85 = .ok (.isub, 1) ∧ (decode cX13_seats 86 = .ok (.iload 5, 2) ∧ decode cX13_seats 88 = .ok (.isub, 1)))) ∧ ((decode cX13_seats 89 = .ok (.idiv, 1) ∧ (decode cX13_seats 90 = .ok (.istore 4, 2) ∧ decode cX13_seats 92 = .ok (.iconst 0, 1))) ∧ (decode cX13_seats 93 = .ok (.istore 7, 2) ∧ (decode cX13_seats 95 = .ok (.iload_n 3, 1) ∧ decode cX13_seats 96 = .ok (.iload 7, 2))))) ∧ (((decode cX13_seats 98 = .ok (.invokestatic 314, 3) ∧ decode cX13_seats 101 = .ok (.ifCond .ne 8, 3)) ∧ (decode cX13_seats 104 = .ok (.iload 6, 2) ∧ (decode cX13_seats 106 = .ok (.ifCond .le 28, 3) ∧ decode cX13_seats 109 = .ok (.iload 6, 2)))) ∧ ((decode cX13_seats 111 = .ok (.iload_n 3, 1) ∧ (decode cX13_seats 112 = .ok (.iload 7, 2) ∧ decode cX13_seats 114 = .ok (.invokestatic 314, 3))) ∧ (decode cX13_seats 117 = .ok (.ifCond .eq 7, 3) ∧ (decode cX13_seats 120 = .ok (.iconst 0, 1) ∧ decode cX13_seats 121 = .ok (.goto 4, 3)))))) ∧ ((((decode cX13_seats 124 = .ok (.iconst 1, 1) ∧ decode cX13_seats 125 = .ok (.isub, 1)) ∧ (decode cX13_seats 126 = .ok (.istore 6, 2) ∧ (decode cX13_seats 128 = .ok (.iinc 7 1, 3) ∧ decode cX13_seats 131 = .ok (.goto (-36), 3)))) ∧ ((decode cX13_seats 134 = .ok (.iload_n 3, 1) ∧ (decode cX13_seats 135 = .ok (.iconst 1, 1) ∧ decode cX13_seats 136 = .ok (.iload 7, 2))) ∧ (decode cX13_seats 138 = .ok (.ishl, 1) ∧ (decode cX13_seats 139 = .ok (.ior, 1) ∧ decode cX13_seats 140 = .ok (.istore_n 3, 1))))) ∧ (((decode cX13_seats 141 = .ok (.aload_n 0, 1) ∧ decode cX13_seats 142 = .ok (.getfield 21, 3)) ∧ (decode cX13_seats 145 = .ok (.iload 5, 2) ∧ (decode cX13_seats 147 = .ok (.aload_n 0, 1) ∧ decode cX13_seats 148 = .ok (.getfield 30, 3)))) ∧ ((decode cX13_seats 151 = .ok (.iload 7, 2) ∧ (decode cX13_seats 153 = .ok (.iaload, 1) ∧ decode cX13_seats 154 = .ok (.iastore, 1))) ∧ (decode cX13_seats 155 = .ok (.iinc 5 1, 3) ∧ (decode cX13_seats 158 = .ok (.goto (-120), 3) ∧ decode cX13_seats 161 = .ok (.return_, 1)))))))) := ⟨⟨⟨by decide +kernel, by decide +kernel⟩, ⟨by decide +kernel, by decide +kernel⟩⟩, ⟨⟨by decide +kernel, by decide +kernel⟩, ⟨by decide +kernel, by decide +kernel⟩⟩⟩
def X13_seats_b125 (rk38 : St → Int → Int → Int → Int → Int → Rs) (rk95 : St → Int → Int → Int → Int → Int → Int → Int → Rs) (s : St) (x0 x2 x3 x4 x5 x7 k0 k1 : Int) : Rs :=
  rk95 s x0 x2 x3 x4 x5 (w32 (k1 - k0)) (w32 (x7 + 1))
set_option maxRecDepth 100000 in
set_option maxHeartbeats 4000000 in
theorem X13_seats_b125_s (G : Gx) (l : Launch) (rk38 : St → Int → Int → Int → Int → Int → Rs) (rk95 : St → Int → Int → Int → Int → Int → Int → Int → Rs) (hk38 : ∀ (s : St) (x0 x2 x3 x4 x5 : Int), V G l mX13_seats 38 [(0, (2, x0)), (2, (0, x2)), (3, (0, x3)), (4, (0, x4)), (5, (0, x5))] [] s (rk38 s x0 x2 x3 x4 x5)) (hk95 : ∀ (s : St) (x0 x2 x3 x4 x5 x6 x7 : Int), V G l mX13_seats 95 [(0, (2, x0)), (2, (0, x2)), (3, (0, x3)), (4, (0, x4)), (5, (0, x5)), (6, (0, x6)), (7, (0, x7))] [] s (rk95 s x0 x2 x3 x4 x5 x6 x7)) (s : St) (x0 x2 x3 x4 x5 x7 k0 k1 : Int) : V G l mX13_seats 125 [(0, (2, x0)), (2, (0, x2)), (3, (0, x3)), (4, (0, x4)), (5, (0, x5)), (7, (0, x7))] [(0, k0), (0, k1)] s (X13_seats_b125 rk38 rk95 s x0 x2 x3 x4 x5 x7 k0 k1) := by
  unfold X13_seats_b125
  refine V_isub dec_X13_seats.2.2.1.1.1.2 ?_
  refine V_istore (lv' := [(6, (0, (w32 (k1 - k0)))), (0, (2, x0)), (2, (0, x2)), (3, (0, x3)), (4, (0, x4)), (5, (0, x5)), (7, (0, x7))]) dec_X13_seats.2.2.1.1.2.1 (by decide) rfl ?_
  refine V_iinc (lv' := [(7, (0, (w32 (x7 + 1)))), (6, (0, (w32 (k1 - k0)))), (0, (2, x0)), (2, (0, x2)), (3, (0, x3)), (4, (0, x4)), (5, (0, x5))]) dec_X13_seats.2.2.1.1.2.2.1 6 rfl (by decide) rfl ?_
  refine V_goto (tgt := 95) dec_X13_seats.2.2.1.1.2.2.2 (by decide) ?_
  exact V_pick [2, 3, 4, 5, 6, 1, 0] rfl (hk95 s x0 x2 x3 x4 x5 (w32 (k1 - k0)) (w32 (x7 + 1)))
def X13_seats_b109 (rk38 : St → Int → Int → Int → Int → Int → Rs) (rk95 : St → Int → Int → Int → Int → Int → Int → Int → Rs) (s : St) (x0 x2 x3 x4 x5 x6 x7 : Int) : Rs :=
  bnd (X13_bit s x3 x7) (fun r3 s4 => if r3 = 0 then (X13_seats_b125 rk38 rk95 s4 x0 x2 x3 x4 x5 x7 1 x6) else (X13_seats_b125 rk38 rk95 s4 x0 x2 x3 x4 x5 x7 0 x6))
set_option maxRecDepth 100000 in
set_option maxHeartbeats 4000000 in
theorem X13_seats_b109_s (G : Gx) (l : Launch) (rk38 : St → Int → Int → Int → Int → Int → Rs) (rk95 : St → Int → Int → Int → Int → Int → Int → Int → Rs) (hk38 : ∀ (s : St) (x0 x2 x3 x4 x5 : Int), V G l mX13_seats 38 [(0, (2, x0)), (2, (0, x2)), (3, (0, x3)), (4, (0, x4)), (5, (0, x5))] [] s (rk38 s x0 x2 x3 x4 x5)) (hk95 : ∀ (s : St) (x0 x2 x3 x4 x5 x6 x7 : Int), V G l mX13_seats 95 [(0, (2, x0)), (2, (0, x2)), (3, (0, x3)), (4, (0, x4)), (5, (0, x5)), (6, (0, x6)), (7, (0, x7))] [] s (rk95 s x0 x2 x3 x4 x5 x6 x7)) (s : St) (x0 x2 x3 x4 x5 x6 x7 : Int) : V G l mX13_seats 109 [(0, (2, x0)), (2, (0, x2)), (3, (0, x3)), (4, (0, x4)), (5, (0, x5)), (6, (0, x6)), (7, (0, x7))] [] s (X13_seats_b109 rk38 rk95 s x0 x2 x3 x4 x5 x6 x7) := by
  unfold X13_seats_b109
  refine V_iload dec_X13_seats.2.1.2.1.2.2.2 5 rfl ?_
  refine V_iload_n dec_X13_seats.2.1.2.2.1.1 2 rfl ?_
  refine V_iload dec_X13_seats.2.1.2.2.1.2.1 6 rfl ?_
  refine V_callS0 (As := [(0, x3), (0, x7)]) (st := [(0, x6)]) (host := "") rfl (X13_bit_s G l s x3 x7) cal_X13_bit rfl (Or.inl ml_X13_314) rfl rfl dec_X13_seats.2.1.2.2.1.2.2 (k_tag (tag := 0) rfl fun r3 s4 => ?_)
  refine V_if_eq (tgt := 124) dec_X13_seats.2.1.2.2.2.1 (by decide) ?_ ?_
  · refine V_iconst dec_X13_seats.2.2.1.1.1.1 rfl ?_
    exact V_pick [0, 1, 2, 3, 4, 6] rfl (X13_seats_b125_s G l rk38 rk95 hk38 hk95 s4 x0 x2 x3 x4 x5 x7 1 x6)
  · refine V_iconst dec_X13_seats.2.1.2.2.2.2.1 rfl ?_
    refine V_goto (tgt := 125) dec_X13_seats.2.1.2.2.2.2.2 (by decide) ?_
    exact V_pick [0, 1, 2, 3, 4, 6] rfl (X13_seats_b125_s G l rk38 rk95 hk38 hk95 s4 x0 x2 x3 x4 x5 x7 0 x6)
def X13_seats_b95_body (rk38 : St → Int → Int → Int → Int → Int → Rs) (rk95 : St → Int → Int → Int → Int → Int → Int → Int → Rs) (s : St) (x0 x2 x3 x4 x5 x6 x7 : Int) : Rs :=
  bnd (X13_bit s x3 x7) (fun r1 s2 => if ¬ r1 = 0 then (X13_seats_b109 rk38 rk95 s2 x0 x2 x3 x4 x5 x6 x7) else (if x6 ≤ 0 then (grd (isK s2 23 x0) (grd (isK s2 23 x0) (grd (isK s2 1 (gR s2 x0 21) ∧ 0 ≤ x7 ∧ x7 < ln s2 (gR s2 x0 21)) (grd (isK s2 1 (gR s2 x0 16) ∧ 0 ≤ x5 ∧ x5 < ln s2 (gR s2 x0 16)) (lets (pI s2 (gR s2 x0 16) x5.toNat (gI s2 (gR s2 x0 21) x7.toNat)) (fun s5 => rk38 s5 x0 x2 (or32 x3 (shl32 1 x7)) x4 (w32 (x5 + 1)))))))) else (X13_seats_b109 rk38 rk95 s2 x0 x2 x3 x4 x5 x6 x7)))
def X13_seats_b95 (rk38 : St → Int → Int → Int → Int → Int → Rs) (n : Nat) (s : St) (x0 x2 x3 x4 x5 x6 x7 : Int) : Rs := iter (fun (rec : St × Int × Int × Int × Int × Int × Int × Int → Rs) (a : St × Int × Int × Int × Int × Int × Int × Int) => X13_seats_b95_body rk38 (fun (s : St) (x0 x2 x3 x4 x5 x6 x7 : Int) => rec (s, x0, x2, x3, x4, x5, x6, x7)) a.1 a.2.1 a.2.2.1 a.2.2.2.1 a.2.2.2.2.1 a.2.2.2.2.2.1 a.2.2.2.2.2.2.1 a.2.2.2.2.2.2.2) n (s, x0, x2, x3, x4, x5, x6, x7)
theorem X13_seats_b95_0 (rk38 : St → Int → Int → Int → Int → Int → Rs) (s : St) (x0 x2 x3 x4 x5 x6 x7 : Int) : X13_seats_b95 rk38 0 s x0 x2 x3 x4 x5 x6 x7 = none := rfl
theorem X13_seats_b95_1 (rk38 : St → Int → Int → Int → Int → Int → Rs) (n : Nat) (s : St) (x0 x2 x3 x4 x5 x6 x7 : Int) : X13_seats_b95 rk38 (n + 1) s x0 x2 x3 x4 x5 x6 x7 = X13_seats_b95_body rk38 (X13_seats_b95 rk38 n) s x0 x2 x3 x4 x5 x6 x7 := rfl
set_option maxRecDepth 100000 in
set_option maxHeartbeats 4000000 in
theorem X13_seats_b95_body_s (G : Gx) (l : Launch) (rk38 : St → Int → Int → Int → Int → Int → Rs) (rk95 : St → Int → Int → Int → Int → Int → Int → Int → Rs) (hk38 : ∀ (s : St) (x0 x2 x3 x4 x5 : Int), V G l mX13_seats 38 [(0, (2, x0)), (2, (0, x2)), (3, (0, x3)), (4, (0, x4)), (5, (0, x5))] [] s (rk38 s x0 x2 x3 x4 x5)) (hk95 : ∀ (s : St) (x0 x2 x3 x4 x5 x6 x7 : Int), V G l mX13_seats 95 [(0, (2, x0)), (2, (0, x2)), (3, (0, x3)), (4, (0, x4)), (5, (0, x5)), (6, (0, x6)), (7, (0, x7))] [] s (rk95 s x0 x2 x3 x4 x5 x6 x7)) (s : St) (x0 x2 x3 x4 x5 x6 x7 : Int) : V G l mX13_seats 95 [(0, (2, x0)), (2, (0, x2)), (3, (0, x3)), (4, (0, x4)), (5, (0, x5)), (6, (0, x6)), (7, (0, x7))] [] s (X13_seats_b95_body rk38 rk95 s x0 x2 x3 x4 x5 x6 x7) := by
  unfold X13_seats_b95_body
  refine V_iload_n dec_X13_seats.2.1.1.2.2.2.1 2 rfl ?_
  refine V_iload dec_X13_seats.2.1.1.2.2.2.2 6 rfl ?_
  refine V_callS0 (As := [(0, x3), (0, x7)]) (st := []) (host := "") rfl (X13_bit_s G l s x3 x7) cal_X13_bit rfl (Or.inl ml_X13_314) rfl rfl dec_X13_seats.2.1.2.1.1.1 (k_tag (tag := 0) rfl fun r1 s2 => ?_)
  refine V_if_ne (tgt := 109) dec_X13_seats.2.1.2.1.1.2 (by decide) ?_ ?_
  · exact V_pick [0, 1, 2, 3, 4, 5, 6] rfl (X13_seats_b109_s G l rk38 rk95 hk38 hk95 s2 x0 x2 x3 x4 x5 x6 x7)
  · refine V_iload dec_X13_seats.2.1.2.1.2.1 5 rfl ?_
    refine V_if_le (tgt := 134) dec_X13_seats.2.1.2.1.2.2.1 (by decide) ?_ ?_
    · refine V_iload_n dec_X13_seats.2.2.1.2.1.1 2 rfl ?_
      refine V_iconst dec_X13_seats.2.2.1.2.1.2.1 rfl ?_
      refine V_iload dec_X13_seats.2.2.1.2.1.2.2 6 rfl ?_
      refine V_ishl dec_X13_seats.2.2.1.2.2.1 ?_
      refine V_ior dec_X13_seats.2.2.1.2.2.2.1 ?_
      refine V_istore_n (lv' := [(3, (0, (or32 x3 (shl32 1 x7)))), (0, (2, x0)), (2, (0, x2)), (4, (0, x4)), (5, (0, x5)), (6, (0, x6)), (7, (0, x7))]) dec_X13_seats.2.2.1.2.2.2.2 (by decide) rfl ?_
      refine V_aload_n dec_X13_seats.2.2.2.1.1.1 1 rfl ?_
      refine V_getR 13 16 nf_13_16 ft_13_16 fl_X13_21 dec_X13_seats.2.2.2.1.1.2 ?_
      refine V_iload dec_X13_seats.2.2.2.1.2.1 4 rfl ?_
      refine V_aload_n dec_X13_seats.2.2.2.1.2.2.1 1 rfl ?_
      refine V_getR 13 21 nf_13_21 ft_13_21 fl_X13_30 dec_X13_seats.2.2.2.1.2.2.2 ?_
      refine V_iload dec_X13_seats.2.2.2.2.1.1 6 rfl ?_
      refine V_iald dec_X13_seats.2.2.2.2.1.2.1 ?_
      refine V_iast dec_X13_seats.2.2.2.2.1.2.2 ?_
      refine V_lets fun s5 => ?_
      refine V_iinc (lv' := [(5, (0, (w32 (x5 + 1)))), (3, (0, (or32 x3 (shl32 1 x7)))), (0, (2, x0)), (2, (0, x2)), (4, (0, x4)), (6, (0, x6)), (7, (0, x7))]) dec_X13_seats.2.2.2.2.2.1 4 rfl (by decide) rfl ?_
      refine V_goto (tgt := 38) dec_X13_seats.2.2.2.2.2.2.1 (by decide) ?_
      exact V_pick [2, 3, 1, 4, 0] rfl (hk38 s5 x0 x2 (or32 x3 (shl32 1 x7)) x4 (w32 (x5 + 1)))
    · exact V_pick [0, 1, 2, 3, 4, 5, 6] rfl (X13_seats_b109_s G l rk38 rk95 hk38 hk95 s2 x0 x2 x3 x4 x5 x6 x7)
theorem X13_seats_b95_s (G : Gx) (l : Launch) (rk38 : St → Int → Int → Int → Int → Int → Rs) (hk38 : ∀ (s : St) (x0 x2 x3 x4 x5 : Int), V G l mX13_seats 38 [(0, (2, x0)), (2, (0, x2)), (3, (0, x3)), (4, (0, x4)), (5, (0, x5))] [] s (rk38 s x0 x2 x3 x4 x5)) (n : Nat) (s : St) (x0 x2 x3 x4 x5 x6 x7 : Int) : V G l mX13_seats 95 [(0, (2, x0)), (2, (0, x2)), (3, (0, x3)), (4, (0, x4)), (5, (0, x5)), (6, (0, x6)), (7, (0, x7))] [] s (X13_seats_b95 rk38 n s x0 x2 x3 x4 x5 x6 x7) :=
  V_iter (LV := fun a : St × Int × Int × Int × Int × Int × Int × Int => [(0, (2, a.2.1)), (2, (0, a.2.2.1)), (3, (0, a.2.2.2.1)), (4, (0, a.2.2.2.2.1)), (5, (0, a.2.2.2.2.2.1)), (6, (0, a.2.2.2.2.2.2.1)), (7, (0, a.2.2.2.2.2.2.2))]) (ST := fun a : St × Int × Int × Int × Int × Int × Int × Int => []) (SS := fun a : St × Int × Int × Int × Int × Int × Int × Int => a.1) (fun rec hrec a => X13_seats_b95_body_s G l rk38 (fun (s : St) (x0 x2 x3 x4 x5 x6 x7 : Int) => rec (s, x0, x2, x3, x4, x5, x6, x7)) hk38 (fun (s : St) (x0 x2 x3 x4 x5 x6 x7 : Int) => hrec (s, x0, x2, x3, x4, x5, x6, x7)) a.1 a.2.1 a.2.2.1 a.2.2.2.1 a.2.2.2.2.1 a.2.2.2.2.2.1 a.2.2.2.2.2.2.1 a.2.2.2.2.2.2.2) n (s, x0, x2, x3, x4, x5, x6, x7)
def X13_seats_b92 (rk38 : St → Int → Int → Int → Int → Int → Rs) (s : St) (x0 x2 x3 x4 x5 x6 : Int) : Rs :=
  X13_seats_b95 rk38 FU s x0 x2 x3 x4 x5 x6 0
set_option maxRecDepth 100000 in
set_option maxHeartbeats 4000000 in
theorem X13_seats_b92_s (G : Gx) (l : Launch) (rk38 : St → Int → Int → Int → Int → Int → Rs) (hk38 : ∀ (s : St) (x0 x2 x3 x4 x5 : Int), V G l mX13_seats 38 [(0, (2, x0)), (2, (0, x2)), (3, (0, x3)), (4, (0, x4)), (5, (0, x5))] [] s (rk38 s x0 x2 x3 x4 x5)) (s : St) (x0 x2 x3 x4 x5 x6 : Int) : V G l mX13_seats 92 [(0, (2, x0)), (2, (0, x2)), (3, (0, x3)), (4, (0, x4)), (5, (0, x5)), (6, (0, x6))] [] s (X13_seats_b92 rk38 s x0 x2 x3 x4 x5 x6) := by
  unfold X13_seats_b92
  refine V_iconst dec_X13_seats.2.1.1.2.1.2.2 rfl ?_
  refine V_istore (lv' := [(7, (0, 0)), (0, (2, x0)), (2, (0, x2)), (3, (0, x3)), (4, (0, x4)), (5, (0, x5)), (6, (0, x6))]) dec_X13_seats.2.1.1.2.2.1 (by decide) rfl ?_
  exact V_pick [1, 2, 3, 4, 5, 6, 0] rfl (X13_seats_b95_s G l rk38 hk38 FU s x0 x2 x3 x4 x5 x6 0)
def X13_seats_b38_body (rk38 : St → Int → Int → Int → Int → Int → Rs) (s : St) (x0 x2 x3 x4 x5 : Int) : Rs :=
  grd (isK s 23 x0) (grd (isK s 22 (gR s x0 3)) (if (gI s (gR s x0 3) 2) ≤ x5 then (some (0, s)) else (grd (x4 ≠ 0) (grd (x4 ≠ 0) (grd (isK s 23 x0) (grd (isK s 22 (gR s x0 3)) (if (gI s (gR s x0 3) 2) ≤ (w32 (x5 + 1)) then (X13_seats_b92 rk38 s x0 (Int.tmod x2 x4) x3 x4 x5 (w32 (Int.tdiv x2 x4))) else (grd (isK s 23 x0) (grd (isK s 22 (gR s x0 3)) (grd ((w32 ((w32 ((gI s (gR s x0 3) 2) - 1)) - x5)) ≠ 0) (letv (w32 (Int.tdiv x4 (w32 ((w32 ((gI s (gR s x0 3) 2) - 1)) - x5)))) (fun y6 => X13_seats_b92 rk38 s x0 (Int.tmod x2 x4) x3 y6 x5 (w32 (Int.tdiv x2 x4))))))))))))))
def X13_seats_b38 (n : Nat) (s : St) (x0 x2 x3 x4 x5 : Int) : Rs := iter (fun (rec : St × Int × Int × Int × Int × Int → Rs) (a : St × Int × Int × Int × Int × Int) => X13_seats_b38_body (fun (s : St) (x0 x2 x3 x4 x5 : Int) => rec (s, x0, x2, x3, x4, x5)) a.1 a.2.1 a.2.2.1 a.2.2.2.1 a.2.2.2.2.1 a.2.2.2.2.2) n (s, x0, x2, x3, x4, x5)
theorem X13_seats_b38_0 (s : St) (x0 x2 x3 x4 x5 : Int) : X13_seats_b38 0 s x0 x2 x3 x4 x5 = none := rfl
theorem X13_seats_b38_1 (n : Nat) (s : St) (x0 x2 x3 x4 x5 : Int) : X13_seats_b38 (n + 1) s x0 x2 x3 x4 x5 = X13_seats_b38_body (X13_seats_b38 n) s x0 x2 x3 x4 x5 := rfl
set_option maxRecDepth 100000 in
set_option maxHeartbeats 4000000 in
theorem X13_seats_b38_body_s (G : Gx) (l : Launch) (rk38 : St → Int → Int → Int → Int → Int → Rs) (hk38 : ∀ (s : St) (x0 x2 x3 x4 x5 : Int), V G l mX13_seats 38 [(0, (2, x0)), (2, (0, x2)), (3, (0, x3)), (4, (0, x4)), (5, (0, x5))] [] s (rk38 s x0 x2 x3 x4 x5)) (s : St) (x0 x2 x3 x4 x5 : Int) : V G l mX13_seats 38 [(0, (2, x0)), (2, (0, x2)), (3, (0, x3)), (4, (0, x4)), (5, (0, x5))] [] s (X13_seats_b38_body rk38 s x0 x2 x3 x4 x5) := by
  unfold X13_seats_b38_body
  refine V_iload dec_X13_seats.1.1.2.2.2.2.2 4 rfl ?_
  refine V_aload_n dec_X13_seats.1.2.1.1.1.1 0 rfl ?_
  refine V_getR 13 3 nf_13_3 ft_13_3 fl_X13_303 dec_X13_seats.1.2.1.1.1.2 ?_
  refine V_getIN RX13 12 2 nf_12_2 ft_12_2 fl_X13_193 dec_X13_seats.1.2.1.1.2.1 ?_
  refine V_icmp_ge (tgt := 161) dec_X13_seats.1.2.1.1.2.2.1 (by decide) ?_ ?_
  · exact V_vret rfl dec_X13_seats.2.2.2.2.2.2.2
  · refine V_iload_n dec_X13_seats.1.2.1.1.2.2.2 1 rfl ?_
    refine V_iload dec_X13_seats.1.2.1.2.1.1 3 rfl ?_
    refine V_idiv dec_X13_seats.1.2.1.2.1.2.1 ?_
    refine V_istore (lv' := [(6, (0, (w32 (Int.tdiv x2 x4)))), (0, (2, x0)), (2, (0, x2)), (3, (0, x3)), (4, (0, x4)), (5, (0, x5))]) dec_X13_seats.1.2.1.2.1.2.2 (by decide) rfl ?_
    refine V_iload_n dec_X13_seats.1.2.1.2.2.1 2 rfl ?_
    refine V_iload dec_X13_seats.1.2.1.2.2.2.1 4 rfl ?_
    refine V_irem dec_X13_seats.1.2.1.2.2.2.2 ?_
    refine V_istore_n (lv' := [(2, (0, (Int.tmod x2 x4))), (6, (0, (w32 (Int.tdiv x2 x4)))), (0, (2, x0)), (3, (0, x3)), (4, (0, x4)), (5, (0, x5))]) dec_X13_seats.1.2.2.1.1.1 (by decide) rfl ?_
    refine V_iload dec_X13_seats.1.2.2.1.1.2 5 rfl ?_
    refine V_iconst dec_X13_seats.1.2.2.1.2.1 rfl ?_
    refine V_iadd dec_X13_seats.1.2.2.1.2.2.1 ?_
    refine V_aload_n dec_X13_seats.1.2.2.1.2.2.2 2 rfl ?_
    refine V_getR 13 3 nf_13_3 ft_13_3 fl_X13_303 dec_X13_seats.1.2.2.2.1.1 ?_
    refine V_getIN RX13 12 2 nf_12_2 ft_12_2 fl_X13_193 dec_X13_seats.1.2.2.2.1.2.1 ?_
    refine V_icmp_ge (tgt := 92) dec_X13_seats.1.2.2.2.1.2.2 (by decide) ?_ ?_
    · exact V_pick [2, 0, 3, 4, 5, 1] rfl (X13_seats_b92_s G l rk38 hk38 s x0 (Int.tmod x2 x4) x3 x4 x5 (w32 (Int.tdiv x2 x4)))
    · refine V_iload dec_X13_seats.1.2.2.2.2.1 4 rfl ?_
      refine V_aload_n dec_X13_seats.1.2.2.2.2.2.1 2 rfl ?_
      refine V_getR 13 3 nf_13_3 ft_13_3 fl_X13_303 dec_X13_seats.1.2.2.2.2.2.2 ?_
      refine V_getIN RX13 12 2 nf_12_2 ft_12_2 fl_X13_193 dec_X13_seats.2.1.1.1.1.1 ?_
      refine V_iconst dec_X13_seats.2.1.1.1.1.2 rfl ?_
      refine V_isub dec_X13_seats.2.1.1.1.2.1 ?_
      refine V_iload dec_X13_seats.2.1.1.1.2.2.1 5 rfl ?_
      refine V_isub dec_X13_seats.2.1.1.1.2.2.2 ?_
      refine V_idiv dec_X13_seats.2.1.1.2.1.1 ?_
      refine V_letv fun y6 => ?_
      refine V_istore (lv' := [(4, (0, y6)), (2, (0, (Int.tmod x2 x4))), (6, (0, (w32 (Int.tdiv x2 x4)))), (0, (2, x0)), (3, (0, x3)), (5, (0, x5))]) dec_X13_seats.2.1.1.2.1.2.1 (by decide) rfl ?_
      exact V_pick [3, 1, 4, 0, 5, 2] rfl (X13_seats_b92_s G l rk38 hk38 s x0 (Int.tmod x2 x4) x3 y6 x5 (w32 (Int.tdiv x2 x4)))
theorem X13_seats_b38_s (G : Gx) (l : Launch) (n : Nat) (s : St) (x0 x2 x3 x4 x5 : Int) : V G l mX13_seats 38 [(0, (2, x0)), (2, (0, x2)), (3, (0, x3)), (4, (0, x4)), (5, (0, x5))] [] s (X13_seats_b38 n s x0 x2 x3 x4 x5) :=
  V_iter (LV := fun a : St × Int × Int × Int × Int × Int => [(0, (2, a.2.1)), (2, (0, a.2.2.1)), (3, (0, a.2.2.2.1)), (4, (0, a.2.2.2.2.1)), (5, (0, a.2.2.2.2.2))]) (ST := fun a : St × Int × Int × Int × Int × Int => []) (SS := fun a : St × Int × Int × Int × Int × Int => a.1) (fun rec hrec a => X13_seats_b38_body_s G l (fun (s : St) (x0 x2 x3 x4 x5 : Int) => rec (s, x0, x2, x3, x4, x5)) (fun (s : St) (x0 x2 x3 x4 x5 : Int) => hrec (s, x0, x2, x3, x4, x5)) a.1 a.2.1 a.2.2.1 a.2.2.2.1 a.2.2.2.2.1 a.2.2.2.2.2) n (s, x0, x2, x3, x4, x5)
def X13_seats_b10_body (rk10 : St → Int → Int → Int → Int → Int → Rs) (s : St) (x0 x2 x3 x4 x5 : Int) : Rs :=
  grd (isK s 23 x0) (grd (isK s 22 (gR s x0 3)) (if (gI s (gR s x0 3) 2) ≤ x5 then (X13_seats_b38 FU s x0 x2 x3 x4 0) else (rk10 s x0 x2 x3 (w32 (x4 * x5)) (w32 (x5 + 1)))))
def X13_seats_b10 (n : Nat) (s : St) (x0 x2 x3 x4 x5 : Int) : Rs := iter (fun (rec : St × Int × Int × Int × Int × Int → Rs) (a : St × Int × Int × Int × Int × Int) => X13_seats_b10_body (fun (s : St) (x0 x2 x3 x4 x5 : Int) => rec (s, x0, x2, x3, x4, x5)) a.1 a.2.1 a.2.2.1 a.2.2.2.1 a.2.2.2.2.1 a.2.2.2.2.2) n (s, x0, x2, x3, x4, x5)
theorem X13_seats_b10_0 (s : St) (x0 x2 x3 x4 x5 : Int) : X13_seats_b10 0 s x0 x2 x3 x4 x5 = none := rfl
theorem X13_seats_b10_1 (n : Nat) (s : St) (x0 x2 x3 x4 x5 : Int) : X13_seats_b10 (n + 1) s x0 x2 x3 x4 x5 = X13_seats_b10_body (X13_seats_b10 n) s x0 x2 x3 x4 x5 := rfl
set_option maxRecDepth 100000 in
set_option maxHeartbeats 4000000 in
theorem X13_seats_b10_body_s (G : Gx) (l : Launch) (rk10 : St → Int → Int → Int → Int → Int → Rs) (hk10 : ∀ (s : St) (x0 x2 x3 x4 x5 : Int), V G l mX13_seats 10 [(0, (2, x0)), (2, (0, x2)), (3, (0, x3)), (4, (0, x4)), (5, (0, x5))] [] s (rk10 s x0 x2 x3 x4 x5)) (s : St) (x0 x2 x3 x4 x5 : Int) : V G l mX13_seats 10 [(0, (2, x0)), (2, (0, x2)), (3, (0, x3)), (4, (0, x4)), (5, (0, x5))] [] s (X13_seats_b10_body rk10 s x0 x2 x3 x4 x5) := by
  unfold X13_seats_b10_body
  refine V_iload dec_X13_seats.1.1.1.2.2.1 4 rfl ?_
  refine V_aload_n dec_X13_seats.1.1.1.2.2.2.1 0 rfl ?_
  refine V_getR 13 3 nf_13_3 ft_13_3 fl_X13_303 dec_X13_seats.1.1.1.2.2.2.2 ?_
  refine V_getIN RX13 12 2 nf_12_2 ft_12_2 fl_X13_193 dec_X13_seats.1.1.2.1.1.1 ?_
  refine V_icmp_ge (tgt := 35) dec_X13_seats.1.1.2.1.1.2 (by decide) ?_ ?_
  · refine V_iconst dec_X13_seats.1.1.2.2.2.1 rfl ?_
    refine V_istore (lv' := [(5, (0, 0)), (0, (2, x0)), (2, (0, x2)), (3, (0, x3)), (4, (0, x4))]) dec_X13_seats.1.1.2.2.2.2.1 (by decide) rfl ?_
    exact V_pick [1, 2, 3, 4, 0] rfl (X13_seats_b38_s G l FU s x0 x2 x3 x4 0)
  · refine V_iload dec_X13_seats.1.1.2.1.2.1 3 rfl ?_
    refine V_iload dec_X13_seats.1.1.2.1.2.2.1 4 rfl ?_
    refine V_imul dec_X13_seats.1.1.2.1.2.2.2 ?_
    refine V_istore (lv' := [(4, (0, (w32 (x4 * x5)))), (0, (2, x0)), (2, (0, x2)), (3, (0, x3)), (5, (0, x5))]) dec_X13_seats.1.1.2.2.1.1 (by decide) rfl ?_
    refine V_iinc (lv' := [(5, (0, (w32 (x5 + 1)))), (4, (0, (w32 (x4 * x5)))), (0, (2, x0)), (2, (0, x2)), (3, (0, x3))]) dec_X13_seats.1.1.2.2.1.2.1 4 rfl (by decide) rfl ?_
    refine V_goto (tgt := 10) dec_X13_seats.1.1.2.2.1.2.2 (by decide) ?_
    exact V_pick [2, 3, 4, 1, 0] rfl (hk10 s x0 x2 x3 (w32 (x4 * x5)) (w32 (x5 + 1)))
theorem X13_seats_b10_s (G : Gx) (l : Launch) (n : Nat) (s : St) (x0 x2 x3 x4 x5 : Int) : V G l mX13_seats 10 [(0, (2, x0)), (2, (0, x2)), (3, (0, x3)), (4, (0, x4)), (5, (0, x5))] [] s (X13_seats_b10 n s x0 x2 x3 x4 x5) :=
  V_iter (LV := fun a : St × Int × Int × Int × Int × Int => [(0, (2, a.2.1)), (2, (0, a.2.2.1)), (3, (0, a.2.2.2.1)), (4, (0, a.2.2.2.2.1)), (5, (0, a.2.2.2.2.2))]) (ST := fun a : St × Int × Int × Int × Int × Int => []) (SS := fun a : St × Int × Int × Int × Int × Int => a.1) (fun rec hrec a => X13_seats_b10_body_s G l (fun (s : St) (x0 x2 x3 x4 x5 : Int) => rec (s, x0, x2, x3, x4, x5)) (fun (s : St) (x0 x2 x3 x4 x5 : Int) => hrec (s, x0, x2, x3, x4, x5)) a.1 a.2.1 a.2.2.1 a.2.2.2.1 a.2.2.2.2.1 a.2.2.2.2.2) n (s, x0, x2, x3, x4, x5)
def X13_seats (s : St) (a0 a1 : Int) : Rs :=
  X13_seats_b10 FU s a0 a1 0 1 2
set_option maxRecDepth 100000 in
set_option maxHeartbeats 4000000 in
theorem X13_seats_s (G : Gx) (l : Launch) (s : St) (a0 a1 : Int) : Snd G l mX13_seats [(2, a0), (0, a1)] s (X13_seats s a0 a1) := by
  refine Snd.of (by decide +kernel) rfl ?_
  show V G l mX13_seats 0 [(0, (2, a0)), (1, (0, a1))] [] s _
  unfold X13_seats
  refine V_iload_n dec_X13_seats.1.1.1.1.1.1 1 rfl ?_
  refine V_istore_n (lv' := [(2, (0, a1)), (0, (2, a0)), (1, (0, a1))]) dec_X13_seats.1.1.1.1.1.2 (by decide) rfl ?_
  refine V_iconst dec_X13_seats.1.1.1.1.2.1 rfl ?_
  refine V_istore_n (lv' := [(3, (0, 0)), (2, (0, a1)), (0, (2, a0)), (1, (0, a1))]) dec_X13_seats.1.1.1.1.2.2.1 (by decide) rfl ?_
  refine V_iconst dec_X13_seats.1.1.1.1.2.2.2 rfl ?_
  refine V_istore (lv' := [(4, (0, 1)), (3, (0, 0)), (2, (0, a1)), (0, (2, a0)), (1, (0, a1))]) dec_X13_seats.1.1.1.2.1.1 (by decide) rfl ?_
  refine V_iconst dec_X13_seats.1.1.1.2.1.2.1 rfl ?_
  refine V_istore (lv' := [(5, (0, 2)), (4, (0, 1)), (3, (0, 0)), (2, (0, a1)), (0, (2, a0)), (1, (0, a1))]) dec_X13_seats.1.1.1.2.1.2.2 (by decide) rfl ?_
  exact V_pick [4, 3, 2, 1, 0] rfl (X13_seats_b10_s G l FU s a0 a1 0 1 2)
theorem dec_X13_seating : (((((decode cX13_seating 0 = .ok (.aload_n 0, 1) ∧ (decode cX13_seating 1 = .ok (.invokevirtual 342, 3) ∧ decode cX13_seating 4 = .ok (.aload_n 0, 1))) ∧ ((decode cX13_seating 5 = .ok (.invokevirtual 367, 3) ∧ decode cX13_seating 8 = .ok (.iconst 1, 1)) ∧ (decode cX13_seating 9 = .ok (.istore_n 2, 1) ∧ decode cX13_seating 10 = .ok (.aload_n 0, 1)))) ∧ (((decode cX13_seating 11 = .ok (.iconst (-1), 1) ∧ decode cX13_seating 12 = .ok (.putfield 370, 3)) ∧ (decode cX13_seating 15 = .ok (.iconst 2, 1) ∧ decode cX13_seating 16 = .ok (.istore_n 3, 1))) ∧ ((decode cX13_seating 17 = .ok (.iload_n 3, 1) ∧ decode cX13_seating 18 = .ok (.aload_n 0, 1)) ∧ (decode cX13_seating 19 = .ok (.getfield 303, 3) ∧ decode cX13_seating 22 = .ok (.getfield 193, 3))))) ∧ ((((decode cX13_seating 25 = .ok (.if_icmp .gt 13, 3) ∧ decode cX13_seating 28 = .ok (.iload_n 2, 1)) ∧ (decode cX13_seating 29 = .ok (.iload_n 3, 1) ∧ decode cX13_seating 30 = .ok (.imul, 1))) ∧ ((decode cX13_seating 31 = .ok (.istore_n 2, 1) ∧ decode cX13_seating 32 = .ok (.iinc 3 1, 3)) ∧ (decode cX13_seating 35 = .ok (.goto (-18), 3) ∧ decode cX13_seating 38 = .ok (.iconst 0, 1)))) ∧ (((decode cX13_seating 39 = .ok (.istore_n 3, 1) ∧ decode cX13_seating 40 = .ok (.iload_n 3, 1)) ∧ (decode cX13_seating 41 = .ok (.iload_n 2, 1) ∧ decode cX13_seating 42 = .ok (.if_icmp .ge 77, 3))) ∧ ((decode cX13_seating 45 = .ok (.aload_n 0, 1) ∧ decode cX13_seating 46 = .ok (.iload_n 3, 1)) ∧ (decode cX13_seating 47 = .ok (.invokevirtual 373, 3) ∧ decode cX13_seating 50 = .ok (.aload_n 0, 1)))))) ∧ (((((decode cX13_seating 51 = .ok (.iload_n 1, 1) ∧ decode cX13_seating 52 = .ok (.invokevirtual 358, 3)) ∧ (decode cX13_seating 55 = .ok (.invokestatic 361, 3) ∧ decode cX13_seating 58 = .ok (.istore 4, 2))) ∧ ((decode cX13_seating 60 = .ok (.iload 4, 2) ∧ decode cX13_seating 62 = .ok (.aload_n 0, 1)) ∧ (decode cX13_seating 63 = .ok (.getfield 370, 3) ∧ decode cX13_seating 66 = .ok (.if_icmp .gt 6, 3)))) ∧ (((decode cX13_seating 69 = .ok (.goto 44, 3) ∧ decode cX13_seating 72 = .ok (.aload_n 0, 1)) ∧ (decode cX13_seating 73 = .ok (.iload 4, 2) ∧ decode cX13_seating 75 = .ok (.putfield 370, 3))) ∧ ((decode cX13_seating 78 = .ok (.iconst 0, 1) ∧ decode cX13_seating 79 = .ok (.istore 5, 2)) ∧ (decode cX13_seating 81 = .ok (.iload 5, 2) ∧ decode cX13_seating 83 = .ok (.aload_n 0, 1))))) ∧ ((((decode cX13_seating 84 = .ok (.getfield 303, 3) ∧ decode cX13_seating 87 = .ok (.getfield 193, 3)) ∧ (decode cX13_seating 90 = .ok (.if_icmp .ge 23, 3) ∧ decode cX13_seating 93 = .ok (.aload_n 0, 1))) ∧ ((decode cX13_seating 94 = .ok (.getfield 33, 3) ∧ decode cX13_seating 97 = .ok (.iload 5, 2)) ∧ (decode cX13_seating 99 = .ok (.aload_n 0, 1) ∧ decode cX13_seating 100 = .ok (.getfield 21, 3)))) ∧ (((decode cX13_seating 103 = .ok (.iload 5, 2) ∧ decode cX13_seating 105 = .ok (.iaload, 1)) ∧ (decode cX13_seating 106 = .ok (.iastore, 1) ∧ decode cX13_seating 107 = .ok (.iinc 5 1, 3))) ∧ ((decode cX13_seating 110 = .ok (.goto (-29), 3) ∧ decode cX13_seating 113 = .ok (.iinc 3 1, 3)) ∧ (decode cX13_seating 116 = .ok (.goto (-76), 3) ∧ decode cX13_seating 119 = .ok (.return_, 1))))))) := ⟨⟨⟨by decide +kernel, by decide +kernel⟩, ⟨by decide +kernel, by decide +kernel⟩⟩, ⟨⟨by decide +kernel, by decide +kernel⟩, ⟨by decide +kernel, by decide +kernel⟩⟩⟩
def X13_seating_b113 (rk40 : St → Int → Int → Int → Int → Rs) (s : St) (x0 x1 x2 x3 : Int) : Rs :=
  rk40 s x0 x1 x2 (w32 (x3 + 1))
set_option maxRecDepth 100000 in
set_option maxHeartbeats 4000000 in
theorem X13_seating_b113_s (G : Gx) (l : Launch) (rk40 : St → Int → Int → Int → Int → Rs) (hk40 : ∀ (s : St) (x0 x1 x2 x3 : Int), V G l mX13_seating 40 [(0, (2, x0)), (1, (0, x1)), (2, (0, x2)), (3, (0, x3))] [] s (rk40 s x0 x1 x2 x3)) (s : St) (x0 x1 x2 x3 : Int) : V G l mX13_seating 113 [(0, (2, x0)), (1, (0, x1)), (2, (0, x2)), (3, (0, x3))] [] s (X13_seating_b113 rk40 s x0 x1 x2 x3) := by
  unfold X13_seating_b113
  refine V_iinc (lv' := [(3, (0, (w32 (x3 + 1)))), (0, (2, x0)), (1, (0, x1)), (2, (0, x2))]) dec_X13_seating.2.2.2.2.1.2 3 rfl (by decide) rfl ?_
  refine V_goto (tgt := 40) dec_X13_seating.2.2.2.2.2.1 (by decide) ?_
  exact V_pick [1, 2, 3, 0] rfl (hk40 s x0 x1 x2 (w32 (x3 + 1)))
def X13_seating_b81_body (rk40 : St → Int → Int → Int → Int → Rs) (rk81 : St → Int → Int → Int → Int → Int → Rs) (s : St) (x0 x1 x2 x3 x5 : Int) : Rs :=
  grd (isK s 23 x0) (grd (isK s 22 (gR s x0 3)) (if (gI s (gR s x0 3) 2) ≤ x5 then (X13_seating_b113 rk40 s x0 x1 x2 x3) else (grd (isK s 23 x0) (grd (isK s 23 x0) (grd (isK s 1 (gR s x0 16) ∧ 0 ≤ x5 ∧ x5 < ln s (gR s x0 16)) (grd (isK s 1 (gR s x0 22) ∧ 0 ≤ x5 ∧ x5 < ln s (gR s x0 22)) (lets (pI s (gR s x0 22) x5.toNat (gI s (gR s x0 16) x5.toNat)) (fun s13 => rk81 s13 x0 x1 x2 x3 (w32 (x5 + 1))))))))))
def X13_seating_b81 (rk40 : St → Int → Int → Int → Int → Rs) (n : Nat) (s : St) (x0 x1 x2 x3 x5 : Int) : Rs := iter (fun (rec : St × Int × Int × Int × Int × Int → Rs) (a : St × Int × Int × Int × Int × Int) => X13_seating_b81_body rk40 (fun (s : St) (x0 x1 x2 x3 x5 : Int) => rec (s, x0, x1, x2, x3, x5)) a.1 a.2.1 a.2.2.1 a.2.2.2.1 a.2.2.2.2.1 a.2.2.2.2.2) n (s, x0, x1, x2, x3, x5)
theorem X13_seating_b81_0 (rk40 : St → Int → Int → Int → Int → Rs) (s : St) (x0 x1 x2 x3 x5 : Int) : X13_seating_b81 rk40 0 s x0 x1 x2 x3 x5 = none := rfl
theorem X13_seating_b81_1 (rk40 : St → Int → Int → Int → Int → Rs) (n : Nat) (s : St) (x0 x1 x2 x3 x5 : Int) : X13_seating_b81 rk40 (n + 1) s x0 x1 x2 x3 x5 = X13_seating_b81_body rk40 (X13_seating_b81 rk40 n) s x0 x1 x2 x3 x5 := rfl
set_option maxRecDepth 100000 in
set_option maxHeartbeats 4000000 in
theorem X13_seating_b81_body_s (G : Gx) (l : Launch) (rk40 : St → Int → Int → Int → Int → Rs) (rk81 : St → Int → Int → Int → Int → Int → Rs) (hk40 : ∀ (s : St) (x0 x1 x2 x3 : Int), V G l mX13_seating 40 [(0, (2, x0)), (1, (0, x1)), (2, (0, x2)), (3, (0, x3))] [] s (rk40 s x0 x1 x2 x3)) (hk81 : ∀ (s : St) (x0 x1 x2 x3 x5 : Int), V G l mX13_seating 81 [(0, (2, x0)), (1, (0, x1)), (2, (0, x2)), (3, (0, x3)), (5, (0, x5))] [] s (rk81 s x0 x1 x2 x3 x5)) (s : St) (x0 x1 x2 x3 x5 : Int) : V G l mX13_seating 81 [(0, (2, x0)), (1, (0, x1)), (2, (0, x2)), (3, (0, x3)), (5, (0, x5))] [] s (X13_seating_b81_body rk40 rk81 s x0 x1 x2 x3 x5) := by
  unfold X13_seating_b81_body
  refine V_iload dec_X13_seating.2.1.2.2.2.1 4 rfl ?_
  refine V_aload_n dec_X13_seating.2.1.2.2.2.2 0 rfl ?_
  refine V_getR 13 3 nf_13_3 ft_13_3 fl_X13_303 dec_X13_seating.2.2.1.1.1.1 ?_
  refine V_getIN RX13 12 2 nf_12_2 ft_12_2 fl_X13_193 dec_X13_seating.2.2.1.1.1.2 ?_
  refine V_icmp_ge (tgt := 113) dec_X13_seating.2.2.1.1.2.1 (by decide) ?_ ?_
  · exact V_pick [0, 1, 2, 3] rfl (X13_seating_b113_s G l rk40 hk40 s x0 x1 x2 x3)
  · refine V_aload_n dec_X13_seating.2.2.1.1.2.2 0 rfl ?_
    refine V_getR 13 22 nf_13_22 ft_13_22 fl_X13_33 dec_X13_seating.2.2.1.2.1.1 ?_
    refine V_iload dec_X13_seating.2.2.1.2.1.2 4 rfl ?_
    refine V_aload_n dec_X13_seating.2.2.1.2.2.1 0 rfl ?_
    refine V_getR 13 16 nf_13_16 ft_13_16 fl_X13_21 dec_X13_seating.2.2.1.2.2.2 ?_
    refine V_iload dec_X13_seating.2.2.2.1.1.1 4 rfl ?_
    refine V_iald dec_X13_seating.2.2.2.1.1.2 ?_
    refine V_iast dec_X13_seating.2.2.2.1.2.1 ?_
    refine V_lets fun s13 => ?_
    refine V_iinc (lv' := [(5, (0, (w32 (x5 + 1)))), (0, (2, x0)), (1, (0, x1)), (2, (0, x2)), (3, (0, x3))]) dec_X13_seating.2.2.2.1.2.2 4 rfl (by decide) rfl ?_
    refine V_goto (tgt := 81) dec_X13_seating.2.2.2.2.1.1 (by decide) ?_
    exact V_pick [1, 2, 3, 4, 0] rfl (hk81 s13 x0 x1 x2 x3 (w32 (x5 + 1)))
theorem X13_seating_b81_s (G : Gx) (l : Launch) (rk40 : St → Int → Int → Int → Int → Rs) (hk40 : ∀ (s : St) (x0 x1 x2 x3 : Int), V G l mX13_seating 40 [(0, (2, x0)), (1, (0, x1)), (2, (0, x2)), (3, (0, x3))] [] s (rk40 s x0 x1 x2 x3)) (n : Nat) (s : St) (x0 x1 x2 x3 x5 : Int) : V G l mX13_seating 81 [(0, (2, x0)), (1, (0, x1)), (2, (0, x2)), (3, (0, x3)), (5, (0, x5))] [] s (X13_seating_b81 rk40 n s x0 x1 x2 x3 x5) :=
  V_iter (LV := fun a : St × Int × Int × Int × Int × Int => [(0, (2, a.2.1)), (1, (0, a.2.2.1)), (2, (0, a.2.2.2.1)), (3, (0, a.2.2.2.2.1)), (5, (0, a.2.2.2.2.2))]) (ST := fun a : St × Int × Int × Int × Int × Int => []) (SS := fun a : St × Int × Int × Int × Int × Int => a.1) (fun rec hrec a => X13_seating_b81_body_s G l rk40 (fun (s : St) (x0 x1 x2 x3 x5 : Int) => rec (s, x0, x1, x2, x3, x5)) hk40 (fun (s : St) (x0 x1 x2 x3 x5 : Int) => hrec (s, x0, x1, x2, x3, x5)) a.1 a.2.1 a.2.2.1 a.2.2.2.1 a.2.2.2.2.1 a.2.2.2.2.2) n (s, x0, x1, x2, x3, x5)
def X13_seating_b40_body (rk40 : St → Int → Int → Int → Int → Rs) (s : St) (x0 x1 x2 x3 : Int) : Rs :=
  if x2 ≤ x3 then (some (0, s)) else (grd (isK s 23 x0) (bnd (X13_seats s x0 x3) (fun r6 s7 => grd (isK s7 23 x0) (bnd (X13_rightOn s7 x0 x1) (fun r8 s9 => bnd (X13_bits s9 r8) (fun r10 s11 => grd (isK s11 23 x0) (if (gI s11 x0 23) < r10 then (grd (isK s11 23 x0) (lets (pI s11 x0 23 r10) (fun s12 => X13_seating_b81 rk40 FU s12 x0 x1 x2 x3 0))) else (X13_seating_b113 rk40 s11 x0 x1 x2 x3))))))))
def X13_seating_b40 (n : Nat) (s : St) (x0 x1 x2 x3 : Int) : Rs := iter (fun (rec : St × Int × Int × Int × Int → Rs) (a : St × Int × Int × Int × Int) => X13_seating_b40_body (fun (s : St) (x0 x1 x2 x3 : Int) => rec (s, x0, x1, x2, x3)) a.1 a.2.1 a.2.2.1 a.2.2.2.1 a.2.2.2.2) n (s, x0, x1, x2, x3)
theorem X13_seating_b40_0 (s : St) (x0 x1 x2 x3 : Int) : X13_seating_b40 0 s x0 x1 x2 x3 = none := rfl
theorem X13_seating_b40_1 (n : Nat) (s : St) (x0 x1 x2 x3 : Int) : X13_seating_b40 (n + 1) s x0 x1 x2 x3 = X13_seating_b40_body (X13_seating_b40 n) s x0 x1 x2 x3 := rfl
set_option maxRecDepth 100000 in
set_option maxHeartbeats 4000000 in
theorem X13_seating_b40_body_s (G : Gx) (l : Launch) (rk40 : St → Int → Int → Int → Int → Rs) (hk40 : ∀ (s : St) (x0 x1 x2 x3 : Int), V G l mX13_seating 40 [(0, (2, x0)), (1, (0, x1)), (2, (0, x2)), (3, (0, x3))] [] s (rk40 s x0 x1 x2 x3)) (s : St) (x0 x1 x2 x3 : Int) : V G l mX13_seating 40 [(0, (2, x0)), (1, (0, x1)), (2, (0, x2)), (3, (0, x3))] [] s (X13_seating_b40_body rk40 s x0 x1 x2 x3) := by
  unfold X13_seating_b40_body
  refine V_iload_n dec_X13_seating.1.2.2.1.1.2 3 rfl ?_
  refine V_iload_n dec_X13_seating.1.2.2.1.2.1 2 rfl ?_
  refine V_icmp_ge (tgt := 119) dec_X13_seating.1.2.2.1.2.2 (by decide) ?_ ?_
  · exact V_vret rfl dec_X13_seating.2.2.2.2.2.2
  · refine V_aload_n dec_X13_seating.1.2.2.2.1.1 0 rfl ?_
    refine V_iload_n dec_X13_seating.1.2.2.2.1.2 3 rfl ?_
    refine V_callV0 (ci := 13) (a := x0) (As := [(0, x3)]) (st := []) rfl rfl (X13_seats_s G l s x0 x3) cal_X13_seats rfl ml_X13_373 rfl rfl dec_X13_seating.1.2.2.2.2.1 (k_void rfl fun r6 s7 => ?_)
    refine V_aload_n dec_X13_seating.1.2.2.2.2.2 0 rfl ?_
    refine V_iload_n dec_X13_seating.2.1.1.1.1.1 1 rfl ?_
    refine V_callV0 (ci := 13) (a := x0) (As := [(0, x1)]) (st := []) rfl rfl (X13_rightOn_s G l s7 x0 x1) cal_X13_rightOn rfl ml_X13_358 rfl rfl dec_X13_seating.2.1.1.1.1.2 (k_tag (tag := 0) rfl fun r8 s9 => ?_)
    refine V_callS0 (As := [(0, r8)]) (st := []) (host := "") rfl (X13_bits_s G l s9 r8) cal_X13_bits rfl (Or.inl ml_X13_361) rfl rfl dec_X13_seating.2.1.1.1.2.1 (k_tag (tag := 0) rfl fun r10 s11 => ?_)
    refine V_istore (lv' := [(4, (0, r10)), (0, (2, x0)), (1, (0, x1)), (2, (0, x2)), (3, (0, x3))]) dec_X13_seating.2.1.1.1.2.2 (by decide) rfl ?_
    refine V_iload dec_X13_seating.2.1.1.2.1.1 0 rfl ?_
    refine V_aload_n dec_X13_seating.2.1.1.2.1.2 1 rfl ?_
    refine V_getI 13 23 nf_13_23 ft_13_23 fl_X13_370 dec_X13_seating.2.1.1.2.2.1 ?_
    refine V_icmp_gt (tgt := 72) dec_X13_seating.2.1.1.2.2.2 (by decide) ?_ ?_
    · refine V_aload_n dec_X13_seating.2.1.2.1.1.2 1 rfl ?_
      refine V_iload dec_X13_seating.2.1.2.1.2.1 0 rfl ?_
      refine V_putI (host := "") 13 23 nf_13_23 ty_13_23 (Or.inl ⟨fl_X13_370, Or.inl rfl⟩) dec_X13_seating.2.1.2.1.2.2 ?_
      refine V_lets fun s12 => ?_
      refine V_iconst dec_X13_seating.2.1.2.2.1.1 rfl ?_
      refine V_istore (lv' := [(5, (0, 0)), (4, (0, r10)), (0, (2, x0)), (1, (0, x1)), (2, (0, x2)), (3, (0, x3))]) dec_X13_seating.2.1.2.2.1.2 (by decide) rfl ?_
      exact V_pick [2, 3, 4, 5, 0] rfl (X13_seating_b81_s G l rk40 hk40 FU s12 x0 x1 x2 x3 0)
    · refine V_goto (tgt := 113) dec_X13_seating.2.1.2.1.1.1 (by decide) ?_
      exact V_pick [1, 2, 3, 4] rfl (X13_seating_b113_s G l rk40 hk40 s11 x0 x1 x2 x3)
theorem X13_seating_b40_s (G : Gx) (l : Launch) (n : Nat) (s : St) (x0 x1 x2 x3 : Int) : V G l mX13_seating 40 [(0, (2, x0)), (1, (0, x1)), (2, (0, x2)), (3, (0, x3))] [] s (X13_seating_b40 n s x0 x1 x2 x3) :=
  V_iter (LV := fun a : St × Int × Int × Int × Int => [(0, (2, a.2.1)), (1, (0, a.2.2.1)), (2, (0, a.2.2.2.1)), (3, (0, a.2.2.2.2))]) (ST := fun a : St × Int × Int × Int × Int => []) (SS := fun a : St × Int × Int × Int × Int => a.1) (fun rec hrec a => X13_seating_b40_body_s G l (fun (s : St) (x0 x1 x2 x3 : Int) => rec (s, x0, x1, x2, x3)) (fun (s : St) (x0 x1 x2 x3 : Int) => hrec (s, x0, x1, x2, x3)) a.1 a.2.1 a.2.2.1 a.2.2.2.1 a.2.2.2.2) n (s, x0, x1, x2, x3)
def X13_seating_b17_body (rk17 : St → Int → Int → Int → Int → Rs) (s : St) (x0 x1 x2 x3 : Int) : Rs :=
  grd (isK s 23 x0) (grd (isK s 22 (gR s x0 3)) (if (gI s (gR s x0 3) 2) < x3 then (X13_seating_b40 FU s x0 x1 x2 0) else (rk17 s x0 x1 (w32 (x2 * x3)) (w32 (x3 + 1)))))
def X13_seating_b17 (n : Nat) (s : St) (x0 x1 x2 x3 : Int) : Rs := iter (fun (rec : St × Int × Int × Int × Int → Rs) (a : St × Int × Int × Int × Int) => X13_seating_b17_body (fun (s : St) (x0 x1 x2 x3 : Int) => rec (s, x0, x1, x2, x3)) a.1 a.2.1 a.2.2.1 a.2.2.2.1 a.2.2.2.2) n (s, x0, x1, x2, x3)
theorem X13_seating_b17_0 (s : St) (x0 x1 x2 x3 : Int) : X13_seating_b17 0 s x0 x1 x2 x3 = none := rfl
theorem X13_seating_b17_1 (n : Nat) (s : St) (x0 x1 x2 x3 : Int) : X13_seating_b17 (n + 1) s x0 x1 x2 x3 = X13_seating_b17_body (X13_seating_b17 n) s x0 x1 x2 x3 := rfl
set_option maxRecDepth 100000 in
set_option maxHeartbeats 4000000 in
theorem X13_seating_b17_body_s (G : Gx) (l : Launch) (rk17 : St → Int → Int → Int → Int → Rs) (hk17 : ∀ (s : St) (x0 x1 x2 x3 : Int), V G l mX13_seating 17 [(0, (2, x0)), (1, (0, x1)), (2, (0, x2)), (3, (0, x3))] [] s (rk17 s x0 x1 x2 x3)) (s : St) (x0 x1 x2 x3 : Int) : V G l mX13_seating 17 [(0, (2, x0)), (1, (0, x1)), (2, (0, x2)), (3, (0, x3))] [] s (X13_seating_b17_body rk17 s x0 x1 x2 x3) := by
  unfold X13_seating_b17_body
  refine V_iload_n dec_X13_seating.1.1.2.2.1.1 3 rfl ?_
  refine V_aload_n dec_X13_seating.1.1.2.2.1.2 0 rfl ?_
  refine V_getR 13 3 nf_13_3 ft_13_3 fl_X13_303 dec_X13_seating.1.1.2.2.2.1 ?_
  refine V_getIN RX13 12 2 nf_12_2 ft_12_2 fl_X13_193 dec_X13_seating.1.1.2.2.2.2 ?_
  refine V_icmp_gt (tgt := 38) dec_X13_seating.1.2.1.1.1.1 (by decide) ?_ ?_
  · refine V_iconst dec_X13_seating.1.2.1.2.2.2 rfl ?_
    refine V_istore_n (lv' := [(3, (0, 0)), (0, (2, x0)), (1, (0, x1)), (2, (0, x2))]) dec_X13_seating.1.2.2.1.1.1 (by decide) rfl ?_
    exact V_pick [1, 2, 3, 0] rfl (X13_seating_b40_s G l FU s x0 x1 x2 0)
  · refine V_iload_n dec_X13_seating.1.2.1.1.1.2 2 rfl ?_
    refine V_iload_n dec_X13_seating.1.2.1.1.2.1 3 rfl ?_
    refine V_imul dec_X13_seating.1.2.1.1.2.2 ?_
    refine V_istore_n (lv' := [(2, (0, (w32 (x2 * x3)))), (0, (2, x0)), (1, (0, x1)), (3, (0, x3))]) dec_X13_seating.1.2.1.2.1.1 (by decide) rfl ?_
    refine V_iinc (lv' := [(3, (0, (w32 (x3 + 1)))), (2, (0, (w32 (x2 * x3)))), (0, (2, x0)), (1, (0, x1))]) dec_X13_seating.1.2.1.2.1.2 3 rfl (by decide) rfl ?_
    refine V_goto (tgt := 17) dec_X13_seating.1.2.1.2.2.1 (by decide) ?_
    exact V_pick [2, 3, 1, 0] rfl (hk17 s x0 x1 (w32 (x2 * x3)) (w32 (x3 + 1)))
theorem X13_seating_b17_s (G : Gx) (l : Launch) (n : Nat) (s : St) (x0 x1 x2 x3 : Int) : V G l mX13_seating 17 [(0, (2, x0)), (1, (0, x1)), (2, (0, x2)), (3, (0, x3))] [] s (X13_seating_b17 n s x0 x1 x2 x3) :=
  V_iter (LV := fun a : St × Int × Int × Int × Int => [(0, (2, a.2.1)), (1, (0, a.2.2.1)), (2, (0, a.2.2.2.1)), (3, (0, a.2.2.2.2))]) (ST := fun a : St × Int × Int × Int × Int => []) (SS := fun a : St × Int × Int × Int × Int => a.1) (fun rec hrec a => X13_seating_b17_body_s G l (fun (s : St) (x0 x1 x2 x3 : Int) => rec (s, x0, x1, x2, x3)) (fun (s : St) (x0 x1 x2 x3 : Int) => hrec (s, x0, x1, x2, x3)) a.1 a.2.1 a.2.2.1 a.2.2.2.1 a.2.2.2.2) n (s, x0, x1, x2, x3)
def X13_seating (s : St) (a0 a1 : Int) : Rs :=
  grd (isK s 23 a0) (bnd (X13_works s a0) (fun r1 s2 => grd (isK s2 23 a0) (bnd (X13_frees s2 a0) (fun r3 s4 => grd (isK s4 23 a0) (lets (pI s4 a0 23 (-1)) (fun s5 => X13_seating_b17 FU s5 a0 a1 1 2))))))
set_option maxRecDepth 100000 in
set_option maxHeartbeats 4000000 in
theorem X13_seating_s (G : Gx) (l : Launch) (s : St) (a0 a1 : Int) : Snd G l mX13_seating [(2, a0), (0, a1)] s (X13_seating s a0 a1) := by
  refine Snd.of (by decide +kernel) rfl ?_
  show V G l mX13_seating 0 [(0, (2, a0)), (1, (0, a1))] [] s _
  unfold X13_seating
  refine V_aload_n dec_X13_seating.1.1.1.1.1 0 rfl ?_
  refine V_callV0 (ci := 13) (a := a0) (As := []) (st := []) rfl rfl (X13_works_s G l s a0) cal_X13_works rfl ml_X13_342 rfl rfl dec_X13_seating.1.1.1.1.2.1 (k_void rfl fun r1 s2 => ?_)
  refine V_aload_n dec_X13_seating.1.1.1.1.2.2 0 rfl ?_
  refine V_callV0 (ci := 13) (a := a0) (As := []) (st := []) rfl rfl (X13_frees_s G l s2 a0) cal_X13_frees rfl ml_X13_367 rfl rfl dec_X13_seating.1.1.1.2.1.1 (k_void rfl fun r3 s4 => ?_)
  refine V_iconst dec_X13_seating.1.1.1.2.1.2 rfl ?_
  refine V_istore_n (lv' := [(2, (0, 1)), (0, (2, a0)), (1, (0, a1))]) dec_X13_seating.1.1.1.2.2.1 (by decide) rfl ?_
  refine V_aload_n dec_X13_seating.1.1.1.2.2.2 1 rfl ?_
  refine V_iconst dec_X13_seating.1.1.2.1.1.1 rfl ?_
  refine V_putI (host := "") 13 23 nf_13_23 ty_13_23 (Or.inl ⟨fl_X13_370, Or.inl rfl⟩) dec_X13_seating.1.1.2.1.1.2 ?_
  refine V_lets fun s5 => ?_
  refine V_iconst dec_X13_seating.1.1.2.1.2.1 rfl ?_
  refine V_istore_n (lv' := [(3, (0, 2)), (2, (0, 1)), (0, (2, a0)), (1, (0, a1))]) dec_X13_seating.1.1.2.1.2.2 (by decide) rfl ?_
  exact V_pick [2, 3, 1, 0] rfl (X13_seating_b17_s G l FU s5 a0 a1 1 2)
theorem dec_X13_seat : ((((decode cX13_seat 0 = .ok (.aload_n 0, 1) ∧ (decode cX13_seat 1 = .ok (.iconst 0, 1) ∧ decode cX13_seat 2 = .ok (.putfield 49, 3))) ∧ (decode cX13_seat 5 = .ok (.aload_n 0, 1) ∧ (decode cX13_seat 6 = .ok (.aload_n 0, 1) ∧ decode cX13_seat 7 = .ok (.getfield 303, 3)))) ∧ ((decode cX13_seat 10 = .ok (.ifnull 7, 3) ∧ (decode cX13_seat 13 = .ok (.iconst 1, 1) ∧ decode cX13_seat 14 = .ok (.goto 4, 3))) ∧ ((decode cX13_seat 17 = .ok (.iconst 0, 1) ∧ decode cX13_seat 18 = .ok (.iload_n 1, 1)) ∧ (decode cX13_seat 19 = .ok (.invokevirtual 354, 3) ∧ decode cX13_seat 22 = .ok (.istore_n 2, 1))))) ∧ (((decode cX13_seat 23 = .ok (.iload_n 2, 1) ∧ (decode cX13_seat 24 = .ok (.ifCond .le 9, 3) ∧ decode cX13_seat 27 = .ok (.aload_n 0, 1))) ∧ ((decode cX13_seat 28 = .ok (.iload_n 2, 1) ∧ decode cX13_seat 29 = .ok (.invokevirtual 55, 3)) ∧ (decode cX13_seat 32 = .ok (.ireturn, 1) ∧ decode cX13_seat 33 = .ok (.aload_n 0, 1)))) ∧ ((decode cX13_seat 34 = .ok (.iload_n 1, 1) ∧ (decode cX13_seat 35 = .ok (.invokevirtual 376, 3) ∧ decode cX13_seat 38 = .ok (.aload_n 0, 1))) ∧ ((decode cX13_seat 39 = .ok (.aload_n 0, 1) ∧ decode cX13_seat 40 = .ok (.getfield 370, 3)) ∧ (decode cX13_seat 43 = .ok (.invokevirtual 59, 3) ∧ decode cX13_seat 46 = .ok (.ireturn, 1)))))) := ⟨⟨by decide +kernel, by decide +kernel⟩, ⟨by decide +kernel, by decide +kernel⟩⟩
def X13_seat_b18 (s : St) (x0 x1 k0 k1 : Int) : Rs :=
  grd (isK s 23 k1) (bnd (X13_refusesNight s k1 k0 x1) (fun r2 s3 => if r2 ≤ 0 then (grd (isK s3 23 x0) (bnd (X13_seating s3 x0 x1) (fun r4 s5 => grd (isK s5 23 x0) (grd (isK s5 23 x0) (bnd (X13_good s5 x0 (gI s5 x0 23)) (fun r6 s7 => some (r6, s7))))))) else (grd (isK s3 23 x0) (bnd (X13_refused s3 x0 r2) (fun r8 s9 => some (r8, s9))))))
set_option maxRecDepth 100000 in
set_option maxHeartbeats 4000000 in
theorem X13_seat_b18_s (G : Gx) (l : Launch) (s : St) (x0 x1 k0 k1 : Int) : V G l mX13_seat 18 [(0, (2, x0)), (1, (0, x1))] [(0, k0), (2, k1)] s (X13_seat_b18 s x0 x1 k0 k1) := by
  unfold X13_seat_b18
  refine V_iload_n dec_X13_seat.1.2.2.1.2 1 rfl ?_
  refine V_callV0 (ci := 13) (a := k1) (As := [(0, k0), (0, x1)]) (st := []) rfl rfl (X13_refusesNight_s G l s k1 k0 x1) cal_X13_refusesNight rfl ml_X13_354 rfl rfl dec_X13_seat.1.2.2.2.1 (k_tag (tag := 0) rfl fun r2 s3 => ?_)
  refine V_istore_n (lv' := [(2, (0, r2)), (0, (2, x0)), (1, (0, x1))]) dec_X13_seat.1.2.2.2.2 (by decide) rfl ?_
  refine V_iload_n dec_X13_seat.2.1.1.1 0 rfl ?_
  refine V_if_le (tgt := 33) dec_X13_seat.2.1.1.2.1 (by decide) ?_ ?_
  · refine V_aload_n dec_X13_seat.2.1.2.2.2 1 rfl ?_
    refine V_iload_n dec_X13_seat.2.2.1.1 2 rfl ?_
    refine V_callV0 (ci := 13) (a := x0) (As := [(0, x1)]) (st := []) rfl rfl (X13_seating_s G l s3 x0 x1) cal_X13_seating rfl ml_X13_376 rfl rfl dec_X13_seat.2.2.1.2.1 (k_void rfl fun r4 s5 => ?_)
    refine V_aload_n dec_X13_seat.2.2.1.2.2 1 rfl ?_
    refine V_aload_n dec_X13_seat.2.2.2.1.1 1 rfl ?_
    refine V_getI 13 23 nf_13_23 ft_13_23 fl_X13_370 dec_X13_seat.2.2.2.1.2 ?_
    refine V_callV0 (ci := 13) (a := x0) (As := [(0, (gI s5 x0 23))]) (st := []) rfl rfl (X13_good_s G l s5 x0 (gI s5 x0 23)) cal_X13_good rfl ml_X13_59 rfl rfl dec_X13_seat.2.2.2.2.1 (k_tag (tag := 0) rfl fun r6 s7 => ?_)
    exact V_iret rfl dec_X13_seat.2.2.2.2.2
  · refine V_aload_n dec_X13_seat.2.1.1.2.2 1 rfl ?_
    refine V_iload_n dec_X13_seat.2.1.2.1.1 0 rfl ?_
    refine V_callV0 (ci := 13) (a := x0) (As := [(0, r2)]) (st := []) rfl rfl (X13_refused_s G l s3 x0 r2) cal_X13_refused rfl ml_X13_55 rfl rfl dec_X13_seat.2.1.2.1.2 (k_tag (tag := 0) rfl fun r8 s9 => ?_)
    exact V_iret rfl dec_X13_seat.2.1.2.2.1
def X13_seat (s : St) (a0 a1 : Int) : Rs :=
  grd (isK s 23 a0) (lets (pI s a0 0 0) (fun s1 => grd (isK s1 23 a0) (if (gR s1 a0 3) < 0 then (X13_seat_b18 s1 a0 a1 0 a0) else (X13_seat_b18 s1 a0 a1 1 a0))))
set_option maxRecDepth 100000 in
set_option maxHeartbeats 4000000 in
theorem X13_seat_s (G : Gx) (l : Launch) (s : St) (a0 a1 : Int) : Snd G l mX13_seat [(2, a0), (0, a1)] s (X13_seat s a0 a1) := by
  refine Snd.of (by decide +kernel) rfl ?_
  show V G l mX13_seat 0 [(0, (2, a0)), (1, (0, a1))] [] s _
  unfold X13_seat
  refine V_aload_n dec_X13_seat.1.1.1.1 0 rfl ?_
  refine V_iconst dec_X13_seat.1.1.1.2.1 rfl ?_
  refine V_putI (host := "") 13 0 nf_13_0 ty_13_0 (Or.inl ⟨fl_X13_49, Or.inl rfl⟩) dec_X13_seat.1.1.1.2.2 ?_
  refine V_lets fun s1 => ?_
  refine V_aload_n dec_X13_seat.1.1.2.1 0 rfl ?_
  refine V_aload_n dec_X13_seat.1.1.2.2.1 0 rfl ?_
  refine V_getR 13 3 nf_13_3 ft_13_3 fl_X13_303 dec_X13_seat.1.1.2.2.2 ?_
  refine V_ifnull (tgt := 17) dec_X13_seat.1.2.1.1 (by decide) ?_ ?_
  · refine V_iconst dec_X13_seat.1.2.2.1.1 rfl ?_
    exact V_pick [0, 1] rfl (X13_seat_b18_s G l s1 a0 a1 0 a0)
  · refine V_iconst dec_X13_seat.1.2.1.2.1 rfl ?_
    refine V_goto (tgt := 18) dec_X13_seat.1.2.1.2.2 (by decide) ?_
    exact V_pick [0, 1] rfl (X13_seat_b18_s G l s1 a0 a1 1 a0)
theorem dec_X13_seatAt : ((((decode cX13_seatAt 0 = .ok (.aload_n 0, 1) ∧ (decode cX13_seatAt 1 = .ok (.iconst 0, 1) ∧ decode cX13_seatAt 2 = .ok (.putfield 49, 3))) ∧ (decode cX13_seatAt 5 = .ok (.aload_n 0, 1) ∧ (decode cX13_seatAt 6 = .ok (.aload_n 0, 1) ∧ decode cX13_seatAt 7 = .ok (.iload_n 1, 1)))) ∧ ((decode cX13_seatAt 8 = .ok (.invokevirtual 339, 3) ∧ (decode cX13_seatAt 11 = .ok (.iload_n 2, 1) ∧ decode cX13_seatAt 12 = .ok (.invokevirtual 354, 3))) ∧ ((decode cX13_seatAt 15 = .ok (.istore_n 3, 1) ∧ decode cX13_seatAt 16 = .ok (.iload_n 3, 1)) ∧ (decode cX13_seatAt 17 = .ok (.ifCond .le 9, 3) ∧ decode cX13_seatAt 20 = .ok (.aload_n 0, 1))))) ∧ (((decode cX13_seatAt 21 = .ok (.iload_n 3, 1) ∧ (decode cX13_seatAt 22 = .ok (.invokevirtual 55, 3) ∧ decode cX13_seatAt 25 = .ok (.ireturn, 1))) ∧ (decode cX13_seatAt 26 = .ok (.aload_n 0, 1) ∧ (decode cX13_seatAt 27 = .ok (.iload_n 2, 1) ∧ decode cX13_seatAt 28 = .ok (.invokevirtual 376, 3)))) ∧ ((decode cX13_seatAt 31 = .ok (.aload_n 0, 1) ∧ (decode cX13_seatAt 32 = .ok (.aload_n 0, 1) ∧ decode cX13_seatAt 33 = .ok (.getfield 33, 3))) ∧ ((decode cX13_seatAt 36 = .ok (.iload_n 1, 1) ∧ decode cX13_seatAt 37 = .ok (.iaload, 1)) ∧ (decode cX13_seatAt 38 = .ok (.invokevirtual 59, 3) ∧ decode cX13_seatAt 41 = .ok (.ireturn, 1)))))) := ⟨⟨by decide +kernel, by decide +kernel⟩, ⟨by decide +kernel, by decide +kernel⟩⟩
def X13_seatAt (s : St) (a0 a1 a2 : Int) : Rs :=
  grd (isK s 23 a0) (lets (pI s a0 0 0) (fun s1 => grd (isK s1 23 a0) (bnd (X13_isPerson s1 a0 a1) (fun r2 s3 => grd (isK s3 23 a0) (bnd (X13_refusesNight s3 a0 r2 a2) (fun r4 s5 => if r4 ≤ 0 then (grd (isK s5 23 a0) (bnd (X13_seating s5 a0 a2) (fun r6 s7 => grd (isK s7 23 a0) (grd (isK s7 1 (gR s7 a0 22) ∧ 0 ≤ a1 ∧ a1 < ln s7 (gR s7 a0 22)) (grd (isK s7 23 a0) (bnd (X13_good s7 a0 (gI s7 (gR s7 a0 22) a1.toNat)) (fun r8 s9 => some (r8, s9)))))))) else (grd (isK s5 23 a0) (bnd (X13_refused s5 a0 r4) (fun r10 s11 => some (r10, s11))))))))))
set_option maxRecDepth 100000 in
set_option maxHeartbeats 4000000 in
theorem X13_seatAt_s (G : Gx) (l : Launch) (s : St) (a0 a1 a2 : Int) : Snd G l mX13_seatAt [(2, a0), (0, a1), (0, a2)] s (X13_seatAt s a0 a1 a2) := by
  refine Snd.of (by decide +kernel) rfl ?_
  show V G l mX13_seatAt 0 [(0, (2, a0)), (1, (0, a1)), (2, (0, a2))] [] s _
  unfold X13_seatAt
  refine V_aload_n dec_X13_seatAt.1.1.1.1 0 rfl ?_
  refine V_iconst dec_X13_seatAt.1.1.1.2.1 rfl ?_
  refine V_putI (host := "") 13 0 nf_13_0 ty_13_0 (Or.inl ⟨fl_X13_49, Or.inl rfl⟩) dec_X13_seatAt.1.1.1.2.2 ?_
  refine V_lets fun s1 => ?_
  refine V_aload_n dec_X13_seatAt.1.1.2.1 0 rfl ?_
  refine V_aload_n dec_X13_seatAt.1.1.2.2.1 0 rfl ?_
  refine V_iload_n dec_X13_seatAt.1.1.2.2.2 1 rfl ?_
  refine V_callV0 (ci := 13) (a := a0) (As := [(0, a1)]) (st := [(2, a0)]) rfl rfl (X13_isPerson_s G l s1 a0 a1) cal_X13_isPerson rfl ml_X13_339 rfl rfl dec_X13_seatAt.1.2.1.1 (k_tag (tag := 0) rfl fun r2 s3 => ?_)
  refine V_iload_n dec_X13_seatAt.1.2.1.2.1 2 rfl ?_
  refine V_callV0 (ci := 13) (a := a0) (As := [(0, r2), (0, a2)]) (st := []) rfl rfl (X13_refusesNight_s G l s3 a0 r2 a2) cal_X13_refusesNight rfl ml_X13_354 rfl rfl dec_X13_seatAt.1.2.1.2.2 (k_tag (tag := 0) rfl fun r4 s5 => ?_)
  refine V_istore_n (lv' := [(3, (0, r4)), (0, (2, a0)), (1, (0, a1)), (2, (0, a2))]) dec_X13_seatAt.1.2.2.1.1 (by decide) rfl ?_
  refine V_iload_n dec_X13_seatAt.1.2.2.1.2 0 rfl ?_
  refine V_if_le (tgt := 26) dec_X13_seatAt.1.2.2.2.1 (by decide) ?_ ?_
  · refine V_aload_n dec_X13_seatAt.2.1.2.1 1 rfl ?_
    refine V_iload_n dec_X13_seatAt.2.1.2.2.1 3 rfl ?_
    refine V_callV0 (ci := 13) (a := a0) (As := [(0, a2)]) (st := []) rfl rfl (X13_seating_s G l s5 a0 a2) cal_X13_seating rfl ml_X13_376 rfl rfl dec_X13_seatAt.2.1.2.2.2 (k_void rfl fun r6 s7 => ?_)
    refine V_aload_n dec_X13_seatAt.2.2.1.1 1 rfl ?_
    refine V_aload_n dec_X13_seatAt.2.2.1.2.1 1 rfl ?_
    refine V_getR 13 22 nf_13_22 ft_13_22 fl_X13_33 dec_X13_seatAt.2.2.1.2.2 ?_
    refine V_iload_n dec_X13_seatAt.2.2.2.1.1 2 rfl ?_
    refine V_iald dec_X13_seatAt.2.2.2.1.2 ?_
    refine V_callV0 (ci := 13) (a := a0) (As := [(0, (gI s7 (gR s7 a0 22) a1.toNat))]) (st := []) rfl rfl (X13_good_s G l s7 a0 (gI s7 (gR s7 a0 22) a1.toNat)) cal_X13_good rfl ml_X13_59 rfl rfl dec_X13_seatAt.2.2.2.2.1 (k_tag (tag := 0) rfl fun r8 s9 => ?_)
    exact V_iret rfl dec_X13_seatAt.2.2.2.2.2
  · refine V_aload_n dec_X13_seatAt.1.2.2.2.2 1 rfl ?_
    refine V_iload_n dec_X13_seatAt.2.1.1.1 0 rfl ?_
    refine V_callV0 (ci := 13) (a := a0) (As := [(0, r4)]) (st := []) rfl rfl (X13_refused_s G l s5 a0 r4) cal_X13_refused rfl ml_X13_55 rfl rfl dec_X13_seatAt.2.1.1.2.1 (k_tag (tag := 0) rfl fun r10 s11 => ?_)
    exact V_iret rfl dec_X13_seatAt.2.1.1.2.2
theorem dec_X13_silent : (((((decode cX13_silent 0 = .ok (.aload_n 0, 1) ∧ (decode cX13_silent 1 = .ok (.iconst 0, 1) ∧ decode cX13_silent 2 = .ok (.putfield 49, 3))) ∧ (decode cX13_silent 5 = .ok (.aload_n 0, 1) ∧ (decode cX13_silent 6 = .ok (.aload_n 0, 1) ∧ decode cX13_silent 7 = .ok (.getfield 303, 3)))) ∧ ((decode cX13_silent 10 = .ok (.ifnull 7, 3) ∧ (decode cX13_silent 13 = .ok (.iconst 1, 1) ∧ decode cX13_silent 14 = .ok (.goto 4, 3))) ∧ (decode cX13_silent 17 = .ok (.iconst 0, 1) ∧ (decode cX13_silent 18 = .ok (.iload_n 1, 1) ∧ decode cX13_silent 19 = .ok (.invokevirtual 354, 3))))) ∧ (((decode cX13_silent 22 = .ok (.istore_n 2, 1) ∧ (decode cX13_silent 23 = .ok (.iload_n 2, 1) ∧ decode cX13_silent 24 = .ok (.ifCond .le 9, 3))) ∧ (decode cX13_silent 27 = .ok (.aload_n 0, 1) ∧ (decode cX13_silent 28 = .ok (.iload_n 2, 1) ∧ decode cX13_silent 29 = .ok (.invokevirtual 55, 3)))) ∧ ((decode cX13_silent 32 = .ok (.ireturn, 1) ∧ (decode cX13_silent 33 = .ok (.aload_n 0, 1) ∧ decode cX13_silent 34 = .ok (.invokevirtual 342, 3))) ∧ (decode cX13_silent 37 = .ok (.iconst 0, 1) ∧ (decode cX13_silent 38 = .ok (.istore_n 3, 1) ∧ decode cX13_silent 39 = .ok (.iconst 0, 1)))))) ∧ ((((decode cX13_silent 40 = .ok (.istore 4, 2) ∧ (decode cX13_silent 42 = .ok (.iload 4, 2) ∧ decode cX13_silent 44 = .ok (.aload_n 0, 1))) ∧ (decode cX13_silent 45 = .ok (.getfield 303, 3) ∧ (decode cX13_silent 48 = .ok (.getfield 193, 3) ∧ decode cX13_silent 51 = .ok (.if_icmp .ge 30, 3)))) ∧ ((decode cX13_silent 54 = .ok (.iload_n 3, 1) ∧ (decode cX13_silent 55 = .ok (.aload_n 0, 1) ∧ decode cX13_silent 56 = .ok (.iload 4, 2))) ∧ (decode cX13_silent 58 = .ok (.iload_n 1, 1) ∧ (decode cX13_silent 59 = .ok (.invokevirtual 345, 3) ∧ decode cX13_silent 62 = .ok (.ifCond .ne 10, 3))))) ∧ (((decode cX13_silent 65 = .ok (.iconst 1, 1) ∧ (decode cX13_silent 66 = .ok (.iload 4, 2) ∧ decode cX13_silent 68 = .ok (.ishl, 1))) ∧ (decode cX13_silent 69 = .ok (.goto 4, 3) ∧ (decode cX13_silent 72 = .ok (.iconst 0, 1) ∧ decode cX13_silent 73 = .ok (.ior, 1)))) ∧ ((decode cX13_silent 74 = .ok (.istore_n 3, 1) ∧ (decode cX13_silent 75 = .ok (.iinc 4 1, 3) ∧ decode cX13_silent 78 = .ok (.goto (-36), 3))) ∧ ((decode cX13_silent 81 = .ok (.aload_n 0, 1) ∧ decode cX13_silent 82 = .ok (.iload_n 3, 1)) ∧ (decode cX13_silent 83 = .ok (.invokevirtual 59, 3) ∧ decode cX13_silent 86 = .ok (.ireturn, 1))))))) := ⟨⟨by decide +kernel, by decide +kernel⟩, ⟨by decide +kernel, ⟨by decide +kernel, by decide +kernel⟩⟩⟩
def X13_silent_b73 (rk42 : St → Int → Int → Int → Int → Rs) (s : St) (x0 x1 x4 k0 k1 : Int) : Rs :=
  rk42 s x0 x1 (or32 k1 k0) (w32 (x4 + 1))
set_option maxRecDepth 100000 in
set_option maxHeartbeats 4000000 in
theorem X13_silent_b73_s (G : Gx) (l : Launch) (rk42 : St → Int → Int → Int → Int → Rs) (hk42 : ∀ (s : St) (x0 x1 x3 x4 : Int), V G l mX13_silent 42 [(0, (2, x0)), (1, (0, x1)), (3, (0, x3)), (4, (0, x4))] [] s (rk42 s x0 x1 x3 x4)) (s : St) (x0 x1 x4 k0 k1 : Int) : V G l mX13_silent 73 [(0, (2, x0)), (1, (0, x1)), (4, (0, x4))] [(0, k0), (0, k1)] s (X13_silent_b73 rk42 s x0 x1 x4 k0 k1) := by
  unfold X13_silent_b73
  refine V_ior dec_X13_silent.2.2.1.2.2.2 ?_
  refine V_istore_n (lv' := [(3, (0, (or32 k1 k0))), (0, (2, x0)), (1, (0, x1)), (4, (0, x4))]) dec_X13_silent.2.2.2.1.1 (by decide) rfl ?_
  refine V_iinc (lv' := [(4, (0, (w32 (x4 + 1)))), (3, (0, (or32 k1 k0))), (0, (2, x0)), (1, (0, x1))]) dec_X13_silent.2.2.2.1.2.1 3 rfl (by decide) rfl ?_
  refine V_goto (tgt := 42) dec_X13_silent.2.2.2.1.2.2 (by decide) ?_
  exact V_pick [2, 3, 1, 0] rfl (hk42 s x0 x1 (or32 k1 k0) (w32 (x4 + 1)))
def X13_silent_b42_body (rk42 : St → Int → Int → Int → Int → Rs) (s : St) (x0 x1 x3 x4 : Int) : Rs :=
  grd (isK s 23 x0) (grd (isK s 22 (gR s x0 3)) (if (gI s (gR s x0 3) 2) ≤ x4 then (grd (isK s 23 x0) (bnd (X13_good s x0 x3) (fun r6 s7 => some (r6, s7)))) else (grd (isK s 23 x0) (bnd (X13_heardOf s x0 x4 x1) (fun r8 s9 => if ¬ r8 = 0 then (X13_silent_b73 rk42 s9 x0 x1 x4 0 x3) else (X13_silent_b73 rk42 s9 x0 x1 x4 (shl32 1 x4) x3))))))
def X13_silent_b42 (n : Nat) (s : St) (x0 x1 x3 x4 : Int) : Rs := iter (fun (rec : St × Int × Int × Int × Int → Rs) (a : St × Int × Int × Int × Int) => X13_silent_b42_body (fun (s : St) (x0 x1 x3 x4 : Int) => rec (s, x0, x1, x3, x4)) a.1 a.2.1 a.2.2.1 a.2.2.2.1 a.2.2.2.2) n (s, x0, x1, x3, x4)
theorem X13_silent_b42_0 (s : St) (x0 x1 x3 x4 : Int) : X13_silent_b42 0 s x0 x1 x3 x4 = none := rfl
theorem X13_silent_b42_1 (n : Nat) (s : St) (x0 x1 x3 x4 : Int) : X13_silent_b42 (n + 1) s x0 x1 x3 x4 = X13_silent_b42_body (X13_silent_b42 n) s x0 x1 x3 x4 := rfl
set_option maxRecDepth 100000 in
set_option maxHeartbeats 4000000 in
theorem X13_silent_b42_body_s (G : Gx) (l : Launch) (rk42 : St → Int → Int → Int → Int → Rs) (hk42 : ∀ (s : St) (x0 x1 x3 x4 : Int), V G l mX13_silent 42 [(0, (2, x0)), (1, (0, x1)), (3, (0, x3)), (4, (0, x4))] [] s (rk42 s x0 x1 x3 x4)) (s : St) (x0 x1 x3 x4 : Int) : V G l mX13_silent 42 [(0, (2, x0)), (1, (0, x1)), (3, (0, x3)), (4, (0, x4))] [] s (X13_silent_b42_body rk42 s x0 x1 x3 x4) := by
  unfold X13_silent_b42_body
  refine V_iload dec_X13_silent.2.1.1.1.2.1 3 rfl ?_
  refine V_aload_n dec_X13_silent.2.1.1.1.2.2 0 rfl ?_
  refine V_getR 13 3 nf_13_3 ft_13_3 fl_X13_303 dec_X13_silent.2.1.1.2.1 ?_
  refine V_getIN RX13 12 2 nf_12_2 ft_12_2 fl_X13_193 dec_X13_silent.2.1.1.2.2.1 ?_
  refine V_icmp_ge (tgt := 81) dec_X13_silent.2.1.1.2.2.2 (by decide) ?_ ?_
  · refine V_aload_n dec_X13_silent.2.2.2.2.1.1 0 rfl ?_
    refine V_iload_n dec_X13_silent.2.2.2.2.1.2 2 rfl ?_
    refine V_callV0 (ci := 13) (a := x0) (As := [(0, x3)]) (st := []) rfl rfl (X13_good_s G l s x0 x3) cal_X13_good rfl ml_X13_59 rfl rfl dec_X13_silent.2.2.2.2.2.1 (k_tag (tag := 0) rfl fun r6 s7 => ?_)
    exact V_iret rfl dec_X13_silent.2.2.2.2.2.2
  · refine V_iload_n dec_X13_silent.2.1.2.1.1 2 rfl ?_
    refine V_aload_n dec_X13_silent.2.1.2.1.2.1 0 rfl ?_
    refine V_iload dec_X13_silent.2.1.2.1.2.2 3 rfl ?_
    refine V_iload_n dec_X13_silent.2.1.2.2.1 1 rfl ?_
    refine V_callV0 (ci := 13) (a := x0) (As := [(0, x4), (0, x1)]) (st := [(0, x3)]) rfl rfl (X13_heardOf_s G l s x0 x4 x1) cal_X13_heardOf rfl ml_X13_345 rfl rfl dec_X13_silent.2.1.2.2.2.1 (k_tag (tag := 0) rfl fun r8 s9 => ?_)
    refine V_if_ne (tgt := 72) dec_X13_silent.2.1.2.2.2.2 (by decide) ?_ ?_
    · refine V_iconst dec_X13_silent.2.2.1.2.2.1 rfl ?_
      exact V_pick [0, 1, 3] rfl (X13_silent_b73_s G l rk42 hk42 s9 x0 x1 x4 0 x3)
    · refine V_iconst dec_X13_silent.2.2.1.1.1 rfl ?_
      refine V_iload dec_X13_silent.2.2.1.1.2.1 3 rfl ?_
      refine V_ishl dec_X13_silent.2.2.1.1.2.2 ?_
      refine V_goto (tgt := 73) dec_X13_silent.2.2.1.2.1 (by decide) ?_
      exact V_pick [0, 1, 3] rfl (X13_silent_b73_s G l rk42 hk42 s9 x0 x1 x4 (shl32 1 x4) x3)
theorem X13_silent_b42_s (G : Gx) (l : Launch) (n : Nat) (s : St) (x0 x1 x3 x4 : Int) : V G l mX13_silent 42 [(0, (2, x0)), (1, (0, x1)), (3, (0, x3)), (4, (0, x4))] [] s (X13_silent_b42 n s x0 x1 x3 x4) :=
  V_iter (LV := fun a : St × Int × Int × Int × Int => [(0, (2, a.2.1)), (1, (0, a.2.2.1)), (3, (0, a.2.2.2.1)), (4, (0, a.2.2.2.2))]) (ST := fun a : St × Int × Int × Int × Int => []) (SS := fun a : St × Int × Int × Int × Int => a.1) (fun rec hrec a => X13_silent_b42_body_s G l (fun (s : St) (x0 x1 x3 x4 : Int) => rec (s, x0, x1, x3, x4)) (fun (s : St) (x0 x1 x3 x4 : Int) => hrec (s, x0, x1, x3, x4)) a.1 a.2.1 a.2.2.1 a.2.2.2.1 a.2.2.2.2) n (s, x0, x1, x3, x4)
def X13_silent_b18 (s : St) (x0 x1 k0 k1 : Int) : Rs :=
  grd (isK s 23 k1) (bnd (X13_refusesNight s k1 k0 x1) (fun r2 s3 => if r2 ≤ 0 then (grd (isK s3 23 x0) (bnd (X13_works s3 x0) (fun r4 s5 => X13_silent_b42 FU s5 x0 x1 0 0))) else (grd (isK s3 23 x0) (bnd (X13_refused s3 x0 r2) (fun r10 s11 => some (r10, s11))))))
set_option maxRecDepth 100000 in
set_option maxHeartbeats 4000000 in
theorem X13_silent_b18_s (G : Gx) (l : Launch) (s : St) (x0 x1 k0 k1 : Int) : V G l mX13_silent 18 [(0, (2, x0)), (1, (0, x1))] [(0, k0), (2, k1)] s (X13_silent_b18 s x0 x1 k0 k1) := by
  unfold X13_silent_b18
  refine V_iload_n dec_X13_silent.1.1.2.2.2.1 1 rfl ?_
  refine V_callV0 (ci := 13) (a := k1) (As := [(0, k0), (0, x1)]) (st := []) rfl rfl (X13_refusesNight_s G l s k1 k0 x1) cal_X13_refusesNight rfl ml_X13_354 rfl rfl dec_X13_silent.1.1.2.2.2.2 (k_tag (tag := 0) rfl fun r2 s3 => ?_)
  refine V_istore_n (lv' := [(2, (0, r2)), (0, (2, x0)), (1, (0, x1))]) dec_X13_silent.1.2.1.1.1 (by decide) rfl ?_
  refine V_iload_n dec_X13_silent.1.2.1.1.2.1 0 rfl ?_
  refine V_if_le (tgt := 33) dec_X13_silent.1.2.1.1.2.2 (by decide) ?_ ?_
  · refine V_aload_n dec_X13_silent.1.2.2.1.2.1 1 rfl ?_
    refine V_callV0 (ci := 13) (a := x0) (As := []) (st := []) rfl rfl (X13_works_s G l s3 x0) cal_X13_works rfl ml_X13_342 rfl rfl dec_X13_silent.1.2.2.1.2.2 (k_void rfl fun r4 s5 => ?_)
    refine V_iconst dec_X13_silent.1.2.2.2.1 rfl ?_
    refine V_istore_n (lv' := [(3, (0, 0)), (2, (0, r2)), (0, (2, x0)), (1, (0, x1))]) dec_X13_silent.1.2.2.2.2.1 (by decide) rfl ?_
    refine V_iconst dec_X13_silent.1.2.2.2.2.2 rfl ?_
    refine V_istore (lv' := [(4, (0, 0)), (3, (0, 0)), (2, (0, r2)), (0, (2, x0)), (1, (0, x1))]) dec_X13_silent.2.1.1.1.1 (by decide) rfl ?_
    exact V_pick [3, 4, 1, 0] rfl (X13_silent_b42_s G l FU s5 x0 x1 0 0)
  · refine V_aload_n dec_X13_silent.1.2.1.2.1 1 rfl ?_
    refine V_iload_n dec_X13_silent.1.2.1.2.2.1 0 rfl ?_
    refine V_callV0 (ci := 13) (a := x0) (As := [(0, r2)]) (st := []) rfl rfl (X13_refused_s G l s3 x0 r2) cal_X13_refused rfl ml_X13_55 rfl rfl dec_X13_silent.1.2.1.2.2.2 (k_tag (tag := 0) rfl fun r10 s11 => ?_)
    exact V_iret rfl dec_X13_silent.1.2.2.1.1
def X13_silent (s : St) (a0 a1 : Int) : Rs :=
  grd (isK s 23 a0) (lets (pI s a0 0 0) (fun s1 => grd (isK s1 23 a0) (if (gR s1 a0 3) < 0 then (X13_silent_b18 s1 a0 a1 0 a0) else (X13_silent_b18 s1 a0 a1 1 a0))))
set_option maxRecDepth 100000 in
set_option maxHeartbeats 4000000 in
theorem X13_silent_s (G : Gx) (l : Launch) (s : St) (a0 a1 : Int) : Snd G l mX13_silent [(2, a0), (0, a1)] s (X13_silent s a0 a1) := by
  refine Snd.of (by decide +kernel) rfl ?_
  show V G l mX13_silent 0 [(0, (2, a0)), (1, (0, a1))] [] s _
  unfold X13_silent
  refine V_aload_n dec_X13_silent.1.1.1.1.1 0 rfl ?_
  refine V_iconst dec_X13_silent.1.1.1.1.2.1 rfl ?_
  refine V_putI (host := "") 13 0 nf_13_0 ty_13_0 (Or.inl ⟨fl_X13_49, Or.inl rfl⟩) dec_X13_silent.1.1.1.1.2.2 ?_
  refine V_lets fun s1 => ?_
  refine V_aload_n dec_X13_silent.1.1.1.2.1 0 rfl ?_
  refine V_aload_n dec_X13_silent.1.1.1.2.2.1 0 rfl ?_
  refine V_getR 13 3 nf_13_3 ft_13_3 fl_X13_303 dec_X13_silent.1.1.1.2.2.2 ?_
  refine V_ifnull (tgt := 17) dec_X13_silent.1.1.2.1.1 (by decide) ?_ ?_
  · refine V_iconst dec_X13_silent.1.1.2.2.1 rfl ?_
    exact V_pick [0, 1] rfl (X13_silent_b18_s G l s1 a0 a1 0 a0)
  · refine V_iconst dec_X13_silent.1.1.2.1.2.1 rfl ?_
    refine V_goto (tgt := 18) dec_X13_silent.1.1.2.1.2.2 (by decide) ?_
    exact V_pick [0, 1] rfl (X13_silent_b18_s G l s1 a0 a1 1 a0)
theorem dec_X13_size : (((((decode cX13_size 0 = .ok (.aload_n 0, 1) ∧ (decode cX13_size 1 = .ok (.iconst 0, 1) ∧ decode cX13_size 2 = .ok (.putfield 49, 3))) ∧ ((decode cX13_size 5 = .ok (.iload_n 1, 1) ∧ decode cX13_size 6 = .ok (.bipush 10, 2)) ∧ (decode cX13_size 8 = .ok (.if_icmp .ne 8, 3) ∧ decode cX13_size 11 = .ok (.aload_n 0, 1)))) ∧ (((decode cX13_size 12 = .ok (.getfield 296, 3) ∧ decode cX13_size 15 = .ok (.ireturn, 1)) ∧ (decode cX13_size 16 = .ok (.iload_n 1, 1) ∧ decode cX13_size 17 = .ok (.iconst 0, 1))) ∧ ((decode cX13_size 18 = .ok (.bipush 9, 2) ∧ decode cX13_size 20 = .ok (.invokestatic 128, 3)) ∧ (decode cX13_size 23 = .ok (.ifCond .ne 5, 3) ∧ decode cX13_size 26 = .ok (.iconst (-1), 1))))) ∧ (((decode cX13_size 27 = .ok (.ireturn, 1) ∧ (decode cX13_size 28 = .ok (.aload_n 0, 1) ∧ decode cX13_size 29 = .ok (.getfield 303, 3))) ∧ ((decode cX13_size 32 = .ok (.ifnonnull 5, 3) ∧ decode cX13_size 35 = .ok (.iconst 0, 1)) ∧ (decode cX13_size 36 = .ok (.ireturn, 1) ∧ decode cX13_size 37 = .ok (.iload_n 1, 1)))) ∧ (((decode cX13_size 38 = .ok (.tableswitch 116 0 8 #[50, 58, 66, 74, 82, 87, 95, 103, 111], 50) ∧ decode cX13_size 88 = .ok (.aload_n 0, 1)) ∧ (decode cX13_size 89 = .ok (.getfield 303, 3) ∧ decode cX13_size 92 = .ok (.getfield 159, 3))) ∧ ((decode cX13_size 95 = .ok (.ireturn, 1) ∧ decode cX13_size 96 = .ok (.aload_n 0, 1)) ∧ (decode cX13_size 97 = .ok (.getfield 303, 3) ∧ decode cX13_size 100 = .ok (.getfield 221, 3)))))) ∧ ((((decode cX13_size 103 = .ok (.ireturn, 1) ∧ (decode cX13_size 104 = .ok (.aload_n 0, 1) ∧ decode cX13_size 105 = .ok (.getfield 303, 3))) ∧ ((decode cX13_size 108 = .ok (.getfield 193, 3) ∧ decode cX13_size 111 = .ok (.ireturn, 1)) ∧ (decode cX13_size 112 = .ok (.aload_n 0, 1) ∧ decode cX13_size 113 = .ok (.getfield 303, 3)))) ∧ (((decode cX13_size 116 = .ok (.getfield 241, 3) ∧ decode cX13_size 119 = .ok (.ireturn, 1)) ∧ (decode cX13_size 120 = .ok (.aload_n 0, 1) ∧ decode cX13_size 121 = .ok (.invokevirtual 481, 3))) ∧ ((decode cX13_size 124 = .ok (.ireturn, 1) ∧ decode cX13_size 125 = .ok (.aload_n 0, 1)) ∧ (decode cX13_size 126 = .ok (.getfield 303, 3) ∧ decode cX13_size 129 = .ok (.getfield 268, 3))))) ∧ ((((decode cX13_size 132 = .ok (.ireturn, 1) ∧ decode cX13_size 133 = .ok (.aload_n 0, 1)) ∧ (decode cX13_size 134 = .ok (.getfield 303, 3) ∧ decode cX13_size 137 = .ok (.getfield 279, 3))) ∧ ((decode cX13_size 140 = .ok (.ireturn, 1) ∧ decode cX13_size 141 = .ok (.aload_n 0, 1)) ∧ (decode cX13_size 142 = .ok (.getfield 17, 3) ∧ decode cX13_size 145 = .ok (.bipush 18, 2)))) ∧ (((decode cX13_size 147 = .ok (.iaload, 1) ∧ decode cX13_size 148 = .ok (.ireturn, 1)) ∧ (decode cX13_size 149 = .ok (.aload_n 0, 1) ∧ decode cX13_size 150 = .ok (.getfield 308, 3))) ∧ ((decode cX13_size 153 = .ok (.ireturn, 1) ∧ decode cX13_size 154 = .ok (.aload_n 0, 1)) ∧ (decode cX13_size 155 = .ok (.getfield 311, 3) ∧ decode cX13_size 158 = .ok (.ireturn, 1))))))) := ⟨⟨⟨by decide +kernel, by decide +kernel⟩, ⟨by decide +kernel, by decide +kernel⟩⟩, ⟨⟨by decide +kernel, by decide +kernel⟩, ⟨by decide +kernel, by decide +kernel⟩⟩⟩
def X13_size (s : St) (a0 a1 : Int) : Rs :=
  grd (isK s 23 a0) (lets (pI s a0 0 0) (fun s1 => if ¬ a1 = (10 : Int) then (bnd (X13_in s1 a1 0 9) (fun r2 s3 => if ¬ r2 = 0 then (grd (isK s3 23 a0) (if (gR s3 a0 3) < 0 then (some (0, s3)) else (swt a1 0 [grd (isK s3 23 a0) (grd (isK s3 22 (gR s3 a0 3)) (some ((gI s3 (gR s3 a0 3) 0), s3))), grd (isK s3 23 a0) (grd (isK s3 22 (gR s3 a0 3)) (some ((gI s3 (gR s3 a0 3) 1), s3))), grd (isK s3 23 a0) (grd (isK s3 22 (gR s3 a0 3)) (some ((gI s3 (gR s3 a0 3) 2), s3))), grd (isK s3 23 a0) (grd (isK s3 22 (gR s3 a0 3)) (some ((gI s3 (gR s3 a0 3) 3), s3))), grd (isK s3 23 a0) (bnd (X13_mirrorsNow s3 a0) (fun r4 s5 => some (r4, s5))), grd (isK s3 23 a0) (grd (isK s3 22 (gR s3 a0 3)) (some ((gI s3 (gR s3 a0 3) 5), s3))), grd (isK s3 23 a0) (grd (isK s3 22 (gR s3 a0 3)) (some ((gI s3 (gR s3 a0 3) 6), s3))), grd (isK s3 23 a0) (grd (isK s3 1 (gR s3 a0 15) ∧ 0 ≤ (18 : Int) ∧ (18 : Int) < ln s3 (gR s3 a0 15)) (some ((gI s3 (gR s3 a0 15) (18 : Int).toNat), s3))), grd (isK s3 23 a0) (some ((gI s3 a0 19), s3))] (grd (isK s3 23 a0) (some ((gI s3 a0 20), s3)))))) else (some ((-1), s3)))) else (grd (isK s1 23 a0) (some ((gI s1 a0 6), s1)))))
set_option maxRecDepth 100000 in
set_option maxHeartbeats 4000000 in
theorem X13_size_s (G : Gx) (l : Launch) (s : St) (a0 a1 : Int) : Snd G l mX13_size [(2, a0), (0, a1)] s (X13_size s a0 a1) := by
  refine Snd.of (by decide +kernel) rfl ?_
  show V G l mX13_size 0 [(0, (2, a0)), (1, (0, a1))] [] s _
  unfold X13_size
  refine V_aload_n dec_X13_size.1.1.1.1.1 0 rfl ?_
  refine V_iconst dec_X13_size.1.1.1.1.2.1 rfl ?_
  refine V_putI (host := "") 13 0 nf_13_0 ty_13_0 (Or.inl ⟨fl_X13_49, Or.inl rfl⟩) dec_X13_size.1.1.1.1.2.2 ?_
  refine V_lets fun s1 => ?_
  refine V_iload_n dec_X13_size.1.1.1.2.1.1 1 rfl ?_
  refine V_bipush dec_X13_size.1.1.1.2.1.2 rfl ?_
  refine V_icmp_ne (tgt := 16) dec_X13_size.1.1.1.2.2.1 (by decide) ?_ ?_
  · refine V_iload_n dec_X13_size.1.1.2.1.2.1 1 rfl ?_
    refine V_iconst dec_X13_size.1.1.2.1.2.2 rfl ?_
    refine V_bipush dec_X13_size.1.1.2.2.1.1 rfl ?_
    refine V_callS0 (As := [(0, a1), (0, 0), (0, 9)]) (st := []) (host := "") rfl (X13_in_s G l s1 a1 0 9) cal_X13_in rfl (Or.inl ml_X13_128) rfl rfl dec_X13_size.1.1.2.2.1.2 (k_tag (tag := 0) rfl fun r2 s3 => ?_)
    refine V_if_ne (tgt := 28) dec_X13_size.1.1.2.2.2.1 (by decide) ?_ ?_
    · refine V_aload_n dec_X13_size.1.2.1.1.2.1 0 rfl ?_
      refine V_getR 13 3 nf_13_3 ft_13_3 fl_X13_303 dec_X13_size.1.2.1.1.2.2 ?_
      refine V_ifnonnull (tgt := 37) dec_X13_size.1.2.1.2.1.1 (by decide) ?_ ?_
      · refine V_iconst dec_X13_size.1.2.1.2.1.2 rfl ?_
        exact V_iret rfl dec_X13_size.1.2.1.2.2.1
      · refine V_iload_n dec_X13_size.1.2.1.2.2.2 1 rfl ?_
        refine V_tsw (ts := [88, 96, 104, 112, 120, 125, 133, 141, 149]) (td := 154) dec_X13_size.1.2.2.1.1.1 (by decide) (by decide) (by decide) ⟨?_, ?_, ?_, ?_, ?_, ?_, ?_, ?_, ?_, trivial⟩ ?_
        · refine V_aload_n dec_X13_size.1.2.2.1.1.2 0 rfl ?_
          refine V_getR 13 3 nf_13_3 ft_13_3 fl_X13_303 dec_X13_size.1.2.2.1.2.1 ?_
          refine V_getIN RX13 12 0 nf_12_0 ft_12_0 fl_X13_159 dec_X13_size.1.2.2.1.2.2 ?_
          exact V_iret rfl dec_X13_size.1.2.2.2.1.1
        · refine V_aload_n dec_X13_size.1.2.2.2.1.2 0 rfl ?_
          refine V_getR 13 3 nf_13_3 ft_13_3 fl_X13_303 dec_X13_size.1.2.2.2.2.1 ?_
          refine V_getIN RX13 12 1 nf_12_1 ft_12_1 fl_X13_221 dec_X13_size.1.2.2.2.2.2 ?_
          exact V_iret rfl dec_X13_size.2.1.1.1.1
        · refine V_aload_n dec_X13_size.2.1.1.1.2.1 0 rfl ?_
          refine V_getR 13 3 nf_13_3 ft_13_3 fl_X13_303 dec_X13_size.2.1.1.1.2.2 ?_
          refine V_getIN RX13 12 2 nf_12_2 ft_12_2 fl_X13_193 dec_X13_size.2.1.1.2.1.1 ?_
          exact V_iret rfl dec_X13_size.2.1.1.2.1.2
        · refine V_aload_n dec_X13_size.2.1.1.2.2.1 0 rfl ?_
          refine V_getR 13 3 nf_13_3 ft_13_3 fl_X13_303 dec_X13_size.2.1.1.2.2.2 ?_
          refine V_getIN RX13 12 3 nf_12_3 ft_12_3 fl_X13_241 dec_X13_size.2.1.2.1.1.1 ?_
          exact V_iret rfl dec_X13_size.2.1.2.1.1.2
        · refine V_aload_n dec_X13_size.2.1.2.1.2.1 0 rfl ?_
          refine V_callV0 (ci := 13) (a := a0) (As := []) (st := []) rfl rfl (X13_mirrorsNow_s G l s3 a0) cal_X13_mirrorsNow rfl ml_X13_481 rfl rfl dec_X13_size.2.1.2.1.2.2 (k_tag (tag := 0) rfl fun r4 s5 => ?_)
          exact V_iret rfl dec_X13_size.2.1.2.2.1.1
        · refine V_aload_n dec_X13_size.2.1.2.2.1.2 0 rfl ?_
          refine V_getR 13 3 nf_13_3 ft_13_3 fl_X13_303 dec_X13_size.2.1.2.2.2.1 ?_
          refine V_getIN RX13 12 5 nf_12_5 ft_12_5 fl_X13_268 dec_X13_size.2.1.2.2.2.2 ?_
          exact V_iret rfl dec_X13_size.2.2.1.1.1.1
        · refine V_aload_n dec_X13_size.2.2.1.1.1.2 0 rfl ?_
          refine V_getR 13 3 nf_13_3 ft_13_3 fl_X13_303 dec_X13_size.2.2.1.1.2.1 ?_
          refine V_getIN RX13 12 6 nf_12_6 ft_12_6 fl_X13_279 dec_X13_size.2.2.1.1.2.2 ?_
          exact V_iret rfl dec_X13_size.2.2.1.2.1.1
        · refine V_aload_n dec_X13_size.2.2.1.2.1.2 0 rfl ?_
          refine V_getR 13 15 nf_13_15 ft_13_15 fl_X13_17 dec_X13_size.2.2.1.2.2.1 ?_
          refine V_bipush dec_X13_size.2.2.1.2.2.2 rfl ?_
          refine V_iald dec_X13_size.2.2.2.1.1.1 ?_
          exact V_iret rfl dec_X13_size.2.2.2.1.1.2
        · refine V_aload_n dec_X13_size.2.2.2.1.2.1 0 rfl ?_
          refine V_getI 13 19 nf_13_19 ft_13_19 fl_X13_308 dec_X13_size.2.2.2.1.2.2 ?_
          exact V_iret rfl dec_X13_size.2.2.2.2.1.1
        · refine V_aload_n dec_X13_size.2.2.2.2.1.2 0 rfl ?_
          refine V_getI 13 20 nf_13_20 ft_13_20 fl_X13_311 dec_X13_size.2.2.2.2.2.1 ?_
          exact V_iret rfl dec_X13_size.2.2.2.2.2.2
    · refine V_iconst dec_X13_size.1.1.2.2.2.2 rfl ?_
      exact V_iret rfl dec_X13_size.1.2.1.1.1
  · refine V_aload_n dec_X13_size.1.1.1.2.2.2 0 rfl ?_
    refine V_getI 13 6 nf_13_6 ft_13_6 fl_X13_296 dec_X13_size.1.1.2.1.1.1 ?_
    exact V_iret rfl dec_X13_size.1.1.2.1.1.2
theorem dec_X13_slipFor : (((((decode cX13_slipFor 0 = .ok (.aload_n 0, 1) ∧ decode cX13_slipFor 1 = .ok (.iconst 0, 1)) ∧ (decode cX13_slipFor 2 = .ok (.putfield 49, 3) ∧ (decode cX13_slipFor 5 = .ok (.aload_n 0, 1) ∧ decode cX13_slipFor 6 = .ok (.aload_n 0, 1)))) ∧ ((decode cX13_slipFor 7 = .ok (.iload_n 1, 1) ∧ (decode cX13_slipFor 8 = .ok (.invokevirtual 348, 3) ∧ decode cX13_slipFor 11 = .ok (.iload_n 2, 1))) ∧ (decode cX13_slipFor 12 = .ok (.invokevirtual 354, 3) ∧ (decode cX13_slipFor 15 = .ok (.istore_n 3, 1) ∧ decode cX13_slipFor 16 = .ok (.iload_n 3, 1))))) ∧ (((decode cX13_slipFor 17 = .ok (.ifCond .le 9, 3) ∧ decode cX13_slipFor 20 = .ok (.aload_n 0, 1)) ∧ (decode cX13_slipFor 21 = .ok (.iload_n 3, 1) ∧ (decode cX13_slipFor 22 = .ok (.invokevirtual 55, 3) ∧ decode cX13_slipFor 25 = .ok (.ireturn, 1)))) ∧ ((decode cX13_slipFor 26 = .ok (.aload_n 0, 1) ∧ (decode cX13_slipFor 27 = .ok (.invokevirtual 342, 3) ∧ decode cX13_slipFor 30 = .ok (.iconst 0, 1))) ∧ (decode cX13_slipFor 31 = .ok (.istore 4, 2) ∧ (decode cX13_slipFor 33 = .ok (.iload 4, 2) ∧ decode cX13_slipFor 35 = .ok (.bipush 39, 2)))))) ∧ ((((decode cX13_slipFor 37 = .ok (.if_icmp .gt 36, 3) ∧ decode cX13_slipFor 40 = .ok (.aload_n 0, 1)) ∧ (decode cX13_slipFor 41 = .ok (.getfield 21, 3) ∧ (decode cX13_slipFor 44 = .ok (.bipush 6, 2) ∧ decode cX13_slipFor 46 = .ok (.iload_n 1, 1)))) ∧ ((decode cX13_slipFor 47 = .ok (.iadd, 1) ∧ (decode cX13_slipFor 48 = .ok (.iload 4, 2) ∧ decode cX13_slipFor 50 = .ok (.iastore, 1))) ∧ (decode cX13_slipFor 51 = .ok (.aload_n 0, 1) ∧ (decode cX13_slipFor 52 = .ok (.iload_n 1, 1) ∧ decode cX13_slipFor 53 = .ok (.iload_n 2, 1))))) ∧ (((decode cX13_slipFor 54 = .ok (.invokevirtual 336, 3) ∧ (decode cX13_slipFor 57 = .ok (.ifCond .eq 10, 3) ∧ decode cX13_slipFor 60 = .ok (.aload_n 0, 1))) ∧ (decode cX13_slipFor 61 = .ok (.iload 4, 2) ∧ (decode cX13_slipFor 63 = .ok (.invokevirtual 59, 3) ∧ decode cX13_slipFor 66 = .ok (.ireturn, 1)))) ∧ ((decode cX13_slipFor 67 = .ok (.iinc 4 1, 3) ∧ (decode cX13_slipFor 70 = .ok (.goto (-37), 3) ∧ decode cX13_slipFor 73 = .ok (.aload_n 0, 1))) ∧ (decode cX13_slipFor 74 = .ok (.bipush (-2), 2) ∧ (decode cX13_slipFor 76 = .ok (.invokevirtual 59, 3) ∧ decode cX13_slipFor 79 = .ok (.ireturn, 1))))))) := ⟨⟨by decide +kernel, by decide +kernel⟩, ⟨by decide +kernel, by decide +kernel⟩⟩
def X13_slipFor_b33_body (rk33 : St → Int → Int → Int → Int → Rs) (s : St) (x0 x1 x2 x4 : Int) : Rs :=
  if (39 : Int) < x4 then (grd (isK s 23 x0) (bnd (X13_good s x0 (-2)) (fun r8 s9 => some (r8, s9)))) else (grd (isK s 23 x0) (grd (isK s 1 (gR s x0 16) ∧ 0 ≤ (w32 (6 + x1)) ∧ (w32 (6 + x1)) < ln s (gR s x0 16)) (lets (pI s (gR s x0 16) (w32 (6 + x1)).toNat x4) (fun s10 => grd (isK s10 23 x0) (bnd (X13_isRight s10 x0 x1 x2) (fun r11 s12 => if r11 = 0 then (rk33 s12 x0 x1 x2 (w32 (x4 + 1))) else (grd (isK s12 23 x0) (bnd (X13_good s12 x0 x4) (fun r13 s14 => some (r13, s14))))))))))
def X13_slipFor_b33 (n : Nat) (s : St) (x0 x1 x2 x4 : Int) : Rs := iter (fun (rec : St × Int × Int × Int × Int → Rs) (a : St × Int × Int × Int × Int) => X13_slipFor_b33_body (fun (s : St) (x0 x1 x2 x4 : Int) => rec (s, x0, x1, x2, x4)) a.1 a.2.1 a.2.2.1 a.2.2.2.1 a.2.2.2.2) n (s, x0, x1, x2, x4)
theorem X13_slipFor_b33_0 (s : St) (x0 x1 x2 x4 : Int) : X13_slipFor_b33 0 s x0 x1 x2 x4 = none := rfl
theorem X13_slipFor_b33_1 (n : Nat) (s : St) (x0 x1 x2 x4 : Int) : X13_slipFor_b33 (n + 1) s x0 x1 x2 x4 = X13_slipFor_b33_body (X13_slipFor_b33 n) s x0 x1 x2 x4 := rfl
set_option maxRecDepth 100000 in
set_option maxHeartbeats 4000000 in
theorem X13_slipFor_b33_body_s (G : Gx) (l : Launch) (rk33 : St → Int → Int → Int → Int → Rs) (hk33 : ∀ (s : St) (x0 x1 x2 x4 : Int), V G l mX13_slipFor 33 [(0, (2, x0)), (1, (0, x1)), (2, (0, x2)), (4, (0, x4))] [] s (rk33 s x0 x1 x2 x4)) (s : St) (x0 x1 x2 x4 : Int) : V G l mX13_slipFor 33 [(0, (2, x0)), (1, (0, x1)), (2, (0, x2)), (4, (0, x4))] [] s (X13_slipFor_b33_body rk33 s x0 x1 x2 x4) := by
  unfold X13_slipFor_b33_body
  refine V_iload dec_X13_slipFor.1.2.2.2.2.1 3 rfl ?_
  refine V_bipush dec_X13_slipFor.1.2.2.2.2.2 rfl ?_
  refine V_icmp_gt (tgt := 73) dec_X13_slipFor.2.1.1.1.1 (by decide) ?_ ?_
  · refine V_aload_n dec_X13_slipFor.2.2.2.1.2.2 0 rfl ?_
    refine V_bipush dec_X13_slipFor.2.2.2.2.1 rfl ?_
    refine V_callV0 (ci := 13) (a := x0) (As := [(0, (-2))]) (st := []) rfl rfl (X13_good_s G l s x0 (-2)) cal_X13_good rfl ml_X13_59 rfl rfl dec_X13_slipFor.2.2.2.2.2.1 (k_tag (tag := 0) rfl fun r8 s9 => ?_)
    exact V_iret rfl dec_X13_slipFor.2.2.2.2.2.2
  · refine V_aload_n dec_X13_slipFor.2.1.1.1.2 0 rfl ?_
    refine V_getR 13 16 nf_13_16 ft_13_16 fl_X13_21 dec_X13_slipFor.2.1.1.2.1 ?_
    refine V_bipush dec_X13_slipFor.2.1.1.2.2.1 rfl ?_
    refine V_iload_n dec_X13_slipFor.2.1.1.2.2.2 1 rfl ?_
    refine V_iadd dec_X13_slipFor.2.1.2.1.1 ?_
    refine V_iload dec_X13_slipFor.2.1.2.1.2.1 3 rfl ?_
    refine V_iast dec_X13_slipFor.2.1.2.1.2.2 ?_
    refine V_lets fun s10 => ?_
    refine V_aload_n dec_X13_slipFor.2.1.2.2.1 0 rfl ?_
    refine V_iload_n dec_X13_slipFor.2.1.2.2.2.1 1 rfl ?_
    refine V_iload_n dec_X13_slipFor.2.1.2.2.2.2 2 rfl ?_
    refine V_callV0 (ci := 13) (a := x0) (As := [(0, x1), (0, x2)]) (st := []) rfl rfl (X13_isRight_s G l s10 x0 x1 x2) cal_X13_isRight rfl ml_X13_336 rfl rfl dec_X13_slipFor.2.2.1.1.1 (k_tag (tag := 0) rfl fun r11 s12 => ?_)
    refine V_if_eq (tgt := 67) dec_X13_slipFor.2.2.1.1.2.1 (by decide) ?_ ?_
    · refine V_iinc (lv' := [(4, (0, (w32 (x4 + 1)))), (0, (2, x0)), (1, (0, x1)), (2, (0, x2))]) dec_X13_slipFor.2.2.2.1.1 3 rfl (by decide) rfl ?_
      refine V_goto (tgt := 33) dec_X13_slipFor.2.2.2.1.2.1 (by decide) ?_
      exact V_pick [1, 2, 3, 0] rfl (hk33 s12 x0 x1 x2 (w32 (x4 + 1)))
    · refine V_aload_n dec_X13_slipFor.2.2.1.1.2.2 0 rfl ?_
      refine V_iload dec_X13_slipFor.2.2.1.2.1 3 rfl ?_
      refine V_callV0 (ci := 13) (a := x0) (As := [(0, x4)]) (st := []) rfl rfl (X13_good_s G l s12 x0 x4) cal_X13_good rfl ml_X13_59 rfl rfl dec_X13_slipFor.2.2.1.2.2.1 (k_tag (tag := 0) rfl fun r13 s14 => ?_)
      exact V_iret rfl dec_X13_slipFor.2.2.1.2.2.2
theorem X13_slipFor_b33_s (G : Gx) (l : Launch) (n : Nat) (s : St) (x0 x1 x2 x4 : Int) : V G l mX13_slipFor 33 [(0, (2, x0)), (1, (0, x1)), (2, (0, x2)), (4, (0, x4))] [] s (X13_slipFor_b33 n s x0 x1 x2 x4) :=
  V_iter (LV := fun a : St × Int × Int × Int × Int => [(0, (2, a.2.1)), (1, (0, a.2.2.1)), (2, (0, a.2.2.2.1)), (4, (0, a.2.2.2.2))]) (ST := fun a : St × Int × Int × Int × Int => []) (SS := fun a : St × Int × Int × Int × Int => a.1) (fun rec hrec a => X13_slipFor_b33_body_s G l (fun (s : St) (x0 x1 x2 x4 : Int) => rec (s, x0, x1, x2, x4)) (fun (s : St) (x0 x1 x2 x4 : Int) => hrec (s, x0, x1, x2, x4)) a.1 a.2.1 a.2.2.1 a.2.2.2.1 a.2.2.2.2) n (s, x0, x1, x2, x4)
def X13_slipFor (s : St) (a0 a1 a2 : Int) : Rs :=
  grd (isK s 23 a0) (lets (pI s a0 0 0) (fun s1 => grd (isK s1 23 a0) (bnd (X13_isDead s1 a0 a1) (fun r2 s3 => grd (isK s3 23 a0) (bnd (X13_refusesNight s3 a0 r2 a2) (fun r4 s5 => if r4 ≤ 0 then (grd (isK s5 23 a0) (bnd (X13_works s5 a0) (fun r6 s7 => X13_slipFor_b33 FU s7 a0 a1 a2 0))) else (grd (isK s5 23 a0) (bnd (X13_refused s5 a0 r4) (fun r15 s16 => some (r15, s16))))))))))
set_option maxRecDepth 100000 in
set_option maxHeartbeats 4000000 in
theorem X13_slipFor_s (G : Gx) (l : Launch) (s : St) (a0 a1 a2 : Int) : Snd G l mX13_slipFor [(2, a0), (0, a1), (0, a2)] s (X13_slipFor s a0 a1 a2) := by
  refine Snd.of (by decide +kernel) rfl ?_
  show V G l mX13_slipFor 0 [(0, (2, a0)), (1, (0, a1)), (2, (0, a2))] [] s _
  unfold X13_slipFor
  refine V_aload_n dec_X13_slipFor.1.1.1.1.1 0 rfl ?_
  refine V_iconst dec_X13_slipFor.1.1.1.1.2 rfl ?_
  refine V_putI (host := "") 13 0 nf_13_0 ty_13_0 (Or.inl ⟨fl_X13_49, Or.inl rfl⟩) dec_X13_slipFor.1.1.1.2.1 ?_
  refine V_lets fun s1 => ?_
  refine V_aload_n dec_X13_slipFor.1.1.1.2.2.1 0 rfl ?_
  refine V_aload_n dec_X13_slipFor.1.1.1.2.2.2 0 rfl ?_
  refine V_iload_n dec_X13_slipFor.1.1.2.1.1 1 rfl ?_
  refine V_callV0 (ci := 13) (a := a0) (As := [(0, a1)]) (st := [(2, a0)]) rfl rfl (X13_isDead_s G l s1 a0 a1) cal_X13_isDead rfl ml_X13_348 rfl rfl dec_X13_slipFor.1.1.2.1.2.1 (k_tag (tag := 0) rfl fun r2 s3 => ?_)
  refine V_iload_n dec_X13_slipFor.1.1.2.1.2.2 2 rfl ?_
  refine V_callV0 (ci := 13) (a := a0) (As := [(0, r2), (0, a2)]) (st := []) rfl rfl (X13_refusesNight_s G l s3 a0 r2 a2) cal_X13_refusesNight rfl ml_X13_354 rfl rfl dec_X13_slipFor.1.1.2.2.1 (k_tag (tag := 0) rfl fun r4 s5 => ?_)
  refine V_istore_n (lv' := [(3, (0, r4)), (0, (2, a0)), (1, (0, a1)), (2, (0, a2))]) dec_X13_slipFor.1.1.2.2.2.1 (by decide) rfl ?_
  refine V_iload_n dec_X13_slipFor.1.1.2.2.2.2 0 rfl ?_
  refine V_if_le (tgt := 26) dec_X13_slipFor.1.2.1.1.1 (by decide) ?_ ?_
  · refine V_aload_n dec_X13_slipFor.1.2.2.1.1 1 rfl ?_
    refine V_callV0 (ci := 13) (a := a0) (As := []) (st := []) rfl rfl (X13_works_s G l s5 a0) cal_X13_works rfl ml_X13_342 rfl rfl dec_X13_slipFor.1.2.2.1.2.1 (k_void rfl fun r6 s7 => ?_)
    refine V_iconst dec_X13_slipFor.1.2.2.1.2.2 rfl ?_
    refine V_istore (lv' := [(4, (0, 0)), (3, (0, r4)), (0, (2, a0)), (1, (0, a1)), (2, (0, a2))]) dec_X13_slipFor.1.2.2.2.1 (by decide) rfl ?_
    exact V_pick [2, 3, 4, 0] rfl (X13_slipFor_b33_s G l FU s7 a0 a1 a2 0)
  · refine V_aload_n dec_X13_slipFor.1.2.1.1.2 1 rfl ?_
    refine V_iload_n dec_X13_slipFor.1.2.1.2.1 0 rfl ?_
    refine V_callV0 (ci := 13) (a := a0) (As := [(0, r4)]) (st := []) rfl rfl (X13_refused_s G l s5 a0 r4) cal_X13_refused rfl ml_X13_55 rfl rfl dec_X13_slipFor.1.2.1.2.2.1 (k_tag (tag := 0) rfl fun r15 s16 => ?_)
    exact V_iret rfl dec_X13_slipFor.1.2.1.2.2.2
theorem dec_X13_steps : ((((decode cX13_steps 0 = .ok (.aload_n 0, 1) ∧ decode cX13_steps 1 = .ok (.iconst 0, 1)) ∧ (decode cX13_steps 2 = .ok (.putfield 49, 3) ∧ (decode cX13_steps 5 = .ok (.aload_n 0, 1) ∧ decode cX13_steps 6 = .ok (.iload_n 1, 1)))) ∧ ((decode cX13_steps 7 = .ok (.invokevirtual 351, 3) ∧ (decode cX13_steps 10 = .ok (.ifCond .eq 24, 3) ∧ decode cX13_steps 13 = .ok (.aload_n 0, 1))) ∧ (decode cX13_steps 14 = .ok (.iload_n 2, 1) ∧ (decode cX13_steps 15 = .ok (.invokevirtual 351, 3) ∧ decode cX13_steps 18 = .ok (.ifCond .eq 16, 3))))) ∧ (((decode cX13_steps 21 = .ok (.aload_n 0, 1) ∧ decode cX13_steps 22 = .ok (.aload_n 0, 1)) ∧ (decode cX13_steps 23 = .ok (.iload_n 1, 1) ∧ (decode cX13_steps 24 = .ok (.iload_n 2, 1) ∧ decode cX13_steps 25 = .ok (.invokevirtual 395, 3)))) ∧ ((decode cX13_steps 28 = .ok (.invokevirtual 59, 3) ∧ (decode cX13_steps 31 = .ok (.goto 8, 3) ∧ decode cX13_steps 34 = .ok (.aload_n 0, 1))) ∧ (decode cX13_steps 35 = .ok (.iconst 1, 1) ∧ (decode cX13_steps 36 = .ok (.invokevirtual 55, 3) ∧ decode cX13_steps 39 = .ok (.ireturn, 1)))))) := ⟨by decide +kernel, by decide +kernel⟩
def X13_steps_b39 (s : St) (k0 : Int) : Rs :=
  some (k0, s)
set_option maxRecDepth 100000 in
set_option maxHeartbeats 4000000 in
theorem X13_steps_b39_s (G : Gx) (l : Launch) (s : St) (k0 : Int) : V G l mX13_steps 39 [] [(0, k0)] s (X13_steps_b39 s k0) := by
  unfold X13_steps_b39
  exact V_iret rfl dec_X13_steps.2.2.2.2.2
def X13_steps_b34 (s : St) (x0 : Int) : Rs :=
  grd (isK s 23 x0) (bnd (X13_refused s x0 1) (fun r4 s5 => X13_steps_b39 s5 r4))
set_option maxRecDepth 100000 in
set_option maxHeartbeats 4000000 in
theorem X13_steps_b34_s (G : Gx) (l : Launch) (s : St) (x0 : Int) : V G l mX13_steps 34 [(0, (2, x0))] [] s (X13_steps_b34 s x0) := by
  unfold X13_steps_b34
  refine V_aload_n dec_X13_steps.2.2.1.2.2 0 rfl ?_
  refine V_iconst dec_X13_steps.2.2.2.1 rfl ?_
  refine V_callV0 (ci := 13) (a := x0) (As := [(0, 1)]) (st := []) rfl rfl (X13_refused_s G l s x0 1) cal_X13_refused rfl ml_X13_55 rfl rfl dec_X13_steps.2.2.2.2.1 (k_tag (tag := 0) rfl fun r4 s5 => ?_)
  exact V_pick [] rfl (X13_steps_b39_s G l s5 r4)
def X13_steps (s : St) (a0 a1 a2 : Int) : Rs :=
  grd (isK s 23 a0) (lets (pI s a0 0 0) (fun s1 => grd (isK s1 23 a0) (bnd (X13_isHouse s1 a0 a1) (fun r2 s3 => if r2 = 0 then (X13_steps_b34 s3 a0) else (grd (isK s3 23 a0) (bnd (X13_isHouse s3 a0 a2) (fun r6 s7 => if r6 = 0 then (X13_steps_b34 s7 a0) else (grd (isK s7 23 a0) (bnd (X13_apart s7 a0 a1 a2) (fun r8 s9 => grd (isK s9 23 a0) (bnd (X13_good s9 a0 r8) (fun r10 s11 => X13_steps_b39 s11 r10))))))))))))
set_option maxRecDepth 100000 in
set_option maxHeartbeats 4000000 in
theorem X13_steps_s (G : Gx) (l : Launch) (s : St) (a0 a1 a2 : Int) : Snd G l mX13_steps [(2, a0), (0, a1), (0, a2)] s (X13_steps s a0 a1 a2) := by
  refine Snd.of (by decide +kernel) rfl ?_
  show V G l mX13_steps 0 [(0, (2, a0)), (1, (0, a1)), (2, (0, a2))] [] s _
  unfold X13_steps
  refine V_aload_n dec_X13_steps.1.1.1.1 0 rfl ?_
  refine V_iconst dec_X13_steps.1.1.1.2 rfl ?_
  refine V_putI (host := "") 13 0 nf_13_0 ty_13_0 (Or.inl ⟨fl_X13_49, Or.inl rfl⟩) dec_X13_steps.1.1.2.1 ?_
  refine V_lets fun s1 => ?_
  refine V_aload_n dec_X13_steps.1.1.2.2.1 0 rfl ?_
  refine V_iload_n dec_X13_steps.1.1.2.2.2 1 rfl ?_
  refine V_callV0 (ci := 13) (a := a0) (As := [(0, a1)]) (st := []) rfl rfl (X13_isHouse_s G l s1 a0 a1) cal_X13_isHouse rfl ml_X13_351 rfl rfl dec_X13_steps.1.2.1.1 (k_tag (tag := 0) rfl fun r2 s3 => ?_)
  refine V_if_eq (tgt := 34) dec_X13_steps.1.2.1.2.1 (by decide) ?_ ?_
  · exact V_pick [0] rfl (X13_steps_b34_s G l s3 a0)
  · refine V_aload_n dec_X13_steps.1.2.1.2.2 0 rfl ?_
    refine V_iload_n dec_X13_steps.1.2.2.1 2 rfl ?_
    refine V_callV0 (ci := 13) (a := a0) (As := [(0, a2)]) (st := []) rfl rfl (X13_isHouse_s G l s3 a0 a2) cal_X13_isHouse rfl ml_X13_351 rfl rfl dec_X13_steps.1.2.2.2.1 (k_tag (tag := 0) rfl fun r6 s7 => ?_)
    refine V_if_eq (tgt := 34) dec_X13_steps.1.2.2.2.2 (by decide) ?_ ?_
    · exact V_pick [0] rfl (X13_steps_b34_s G l s7 a0)
    · refine V_aload_n dec_X13_steps.2.1.1.1 0 rfl ?_
      refine V_aload_n dec_X13_steps.2.1.1.2 0 rfl ?_
      refine V_iload_n dec_X13_steps.2.1.2.1 1 rfl ?_
      refine V_iload_n dec_X13_steps.2.1.2.2.1 2 rfl ?_
      refine V_callV0 (ci := 13) (a := a0) (As := [(0, a1), (0, a2)]) (st := [(2, a0)]) rfl rfl (X13_apart_s G l s7 a0 a1 a2) cal_X13_apart rfl ml_X13_395 rfl rfl dec_X13_steps.2.1.2.2.2 (k_tag (tag := 0) rfl fun r8 s9 => ?_)
      refine V_callV0 (ci := 13) (a := a0) (As := [(0, r8)]) (st := []) rfl rfl (X13_good_s G l s9 a0 r8) cal_X13_good rfl ml_X13_59 rfl rfl dec_X13_steps.2.2.1.1 (k_tag (tag := 0) rfl fun r10 s11 => ?_)
      refine V_goto (tgt := 39) dec_X13_steps.2.2.1.2.1 (by decide) ?_
      exact V_pick [] rfl (X13_steps_b39_s G l s11 r10)
theorem dec_X13_surely : ((((decode cX13_surely 0 = .ok (.aload_n 0, 1) ∧ decode cX13_surely 1 = .ok (.iconst 0, 1)) ∧ (decode cX13_surely 2 = .ok (.putfield 49, 3) ∧ decode cX13_surely 5 = .ok (.aload_n 0, 1))) ∧ ((decode cX13_surely 6 = .ok (.getfield 303, 3) ∧ decode cX13_surely 9 = .ok (.ifnonnull 9, 3)) ∧ (decode cX13_surely 12 = .ok (.aload_n 0, 1) ∧ (decode cX13_surely 13 = .ok (.iconst 1, 1) ∧ decode cX13_surely 14 = .ok (.invokevirtual 55, 3))))) ∧ (((decode cX13_surely 17 = .ok (.ireturn, 1) ∧ decode cX13_surely 18 = .ok (.aload_n 0, 1)) ∧ (decode cX13_surely 19 = .ok (.iconst (-1), 1) ∧ (decode cX13_surely 20 = .ok (.invokevirtual 422, 3) ∧ decode cX13_surely 23 = .ok (.pop, 1)))) ∧ ((decode cX13_surely 24 = .ok (.aload_n 0, 1) ∧ decode cX13_surely 25 = .ok (.aload_n 0, 1)) ∧ (decode cX13_surely 26 = .ok (.getfield 416, 3) ∧ (decode cX13_surely 29 = .ok (.invokevirtual 59, 3) ∧ decode cX13_surely 32 = .ok (.ireturn, 1)))))) := ⟨by decide +kernel, by decide +kernel⟩
def X13_surely (s : St) (a0 : Int) : Rs :=
  grd (isK s 23 a0) (lets (pI s a0 0 0) (fun s1 => grd (isK s1 23 a0) (if (gR s1 a0 3) < 0 then (grd (isK s1 23 a0) (bnd (X13_refused s1 a0 1) (fun r6 s7 => some (r6, s7)))) else (grd (isK s1 23 a0) (bnd (X13_fitting s1 a0 (-1)) (fun r2 s3 => grd (isK s3 23 a0) (grd (isK s3 23 a0) (bnd (X13_good s3 a0 (gI s3 a0 28)) (fun r4 s5 => some (r4, s5))))))))))
set_option maxRecDepth 100000 in
set_option maxHeartbeats 4000000 in
theorem X13_surely_s (G : Gx) (l : Launch) (s : St) (a0 : Int) : Snd G l mX13_surely [(2, a0)] s (X13_surely s a0) := by
  refine Snd.of (by decide +kernel) rfl ?_
  show V G l mX13_surely 0 [(0, (2, a0))] [] s _
  unfold X13_surely
  refine V_aload_n dec_X13_surely.1.1.1.1 0 rfl ?_
  refine V_iconst dec_X13_surely.1.1.1.2 rfl ?_
  refine V_putI (host := "") 13 0 nf_13_0 ty_13_0 (Or.inl ⟨fl_X13_49, Or.inl rfl⟩) dec_X13_surely.1.1.2.1 ?_
  refine V_lets fun s1 => ?_
  refine V_aload_n dec_X13_surely.1.1.2.2 0 rfl ?_
  refine V_getR 13 3 nf_13_3 ft_13_3 fl_X13_303 dec_X13_surely.1.2.1.1 ?_
  refine V_ifnonnull (tgt := 18) dec_X13_surely.1.2.1.2 (by decide) ?_ ?_
  · refine V_aload_n dec_X13_surely.1.2.2.1 0 rfl ?_
    refine V_iconst dec_X13_surely.1.2.2.2.1 rfl ?_
    refine V_callV0 (ci := 13) (a := a0) (As := [(0, 1)]) (st := []) rfl rfl (X13_refused_s G l s1 a0 1) cal_X13_refused rfl ml_X13_55 rfl rfl dec_X13_surely.1.2.2.2.2 (k_tag (tag := 0) rfl fun r6 s7 => ?_)
    exact V_iret rfl dec_X13_surely.2.1.1.1
  · refine V_aload_n dec_X13_surely.2.1.1.2 0 rfl ?_
    refine V_iconst dec_X13_surely.2.1.2.1 rfl ?_
    refine V_callV0 (ci := 13) (a := a0) (As := [(0, (-1))]) (st := []) rfl rfl (X13_fitting_s G l s1 a0 (-1)) cal_X13_fitting rfl ml_X13_422 rfl rfl dec_X13_surely.2.1.2.2.1 (k_tag (tag := 0) rfl fun r2 s3 => ?_)
    refine V_pop (nl0 _) dec_X13_surely.2.1.2.2.2 ?_
    refine V_aload_n dec_X13_surely.2.2.1.1 0 rfl ?_
    refine V_aload_n dec_X13_surely.2.2.1.2 0 rfl ?_
    refine V_getI 13 28 nf_13_28 ft_13_28 fl_X13_416 dec_X13_surely.2.2.2.1 ?_
    refine V_callV0 (ci := 13) (a := a0) (As := [(0, (gI s3 a0 28))]) (st := []) rfl rfl (X13_good_s G l s3 a0 (gI s3 a0 28)) cal_X13_good rfl ml_X13_59 rfl rfl dec_X13_surely.2.2.2.2.1 (k_tag (tag := 0) rfl fun r4 s5 => ?_)
    exact V_iret rfl dec_X13_surely.2.2.2.2.2
theorem dec_X13_take : ((((decode cX13_take 0 = .ok (.aload_n 0, 1) ∧ decode cX13_take 1 = .ok (.iconst 0, 1)) ∧ (decode cX13_take 2 = .ok (.putfield 49, 3) ∧ decode cX13_take 5 = .ok (.aload_n 0, 1))) ∧ ((decode cX13_take 6 = .ok (.iload_n 1, 1) ∧ decode cX13_take 7 = .ok (.invokevirtual 348, 3)) ∧ (decode cX13_take 10 = .ok (.ifCond .eq 13, 3) ∧ decode cX13_take 13 = .ok (.aload_n 0, 1)))) ∧ (((decode cX13_take 14 = .ok (.iload_n 1, 1) ∧ decode cX13_take 15 = .ok (.bipush (-2), 2)) ∧ (decode cX13_take 17 = .ok (.invokevirtual 478, 3) ∧ decode cX13_take 20 = .ok (.goto 8, 3))) ∧ ((decode cX13_take 23 = .ok (.aload_n 0, 1) ∧ decode cX13_take 24 = .ok (.iconst 1, 1)) ∧ (decode cX13_take 25 = .ok (.invokevirtual 472, 3) ∧ decode cX13_take 28 = .ok (.ireturn, 1))))) := ⟨by decide +kernel, by decide +kernel⟩
def X13_take_b28 (s : St) (k0 : Int) : Rs :=
  grd (k0 = 0 ∨ k0 = 1) (some (k0, s))
set_option maxRecDepth 100000 in
set_option maxHeartbeats 4000000 in
theorem X13_take_b28_s (G : Gx) (l : Launch) (s : St) (k0 : Int) : V G l mX13_take 28 [] [(0, k0)] s (X13_take_b28 s k0) := by
  unfold X13_take_b28
  exact V_zret rfl dec_X13_take.2.2.2.2
def X13_take (s : St) (a0 a1 : Int) : Rs :=
  grd (isK s 23 a0) (lets (pI s a0 0 0) (fun s1 => grd (isK s1 23 a0) (bnd (X13_isDead s1 a0 a1) (fun r2 s3 => if r2 = 0 then (grd (isK s3 23 a0) (bnd (X13_denied s3 a0 1) (fun r4 s5 => X13_take_b28 s5 r4))) else (grd (isK s3 23 a0) (bnd (X13_hangs s3 a0 a1 (-2)) (fun r6 s7 => X13_take_b28 s7 r6)))))))
set_option maxRecDepth 100000 in
set_option maxHeartbeats 4000000 in
theorem X13_take_s (G : Gx) (l : Launch) (s : St) (a0 a1 : Int) : Snd G l mX13_take [(2, a0), (0, a1)] s (X13_take s a0 a1) := by
  refine Snd.of (by decide +kernel) rfl ?_
  show V G l mX13_take 0 [(0, (2, a0)), (1, (0, a1))] [] s _
  unfold X13_take
  refine V_aload_n dec_X13_take.1.1.1.1 0 rfl ?_
  refine V_iconst dec_X13_take.1.1.1.2 rfl ?_
  refine V_putI (host := "") 13 0 nf_13_0 ty_13_0 (Or.inl ⟨fl_X13_49, Or.inl rfl⟩) dec_X13_take.1.1.2.1 ?_
  refine V_lets fun s1 => ?_
  refine V_aload_n dec_X13_take.1.1.2.2 0 rfl ?_
  refine V_iload_n dec_X13_take.1.2.1.1 1 rfl ?_
  refine V_callV0 (ci := 13) (a := a0) (As := [(0, a1)]) (st := []) rfl rfl (X13_isDead_s G l s1 a0 a1) cal_X13_isDead rfl ml_X13_348 rfl rfl dec_X13_take.1.2.1.2 (k_tag (tag := 0) rfl fun r2 s3 => ?_)
  refine V_if_eq (tgt := 23) dec_X13_take.1.2.2.1 (by decide) ?_ ?_
  · refine V_aload_n dec_X13_take.2.2.1.1 0 rfl ?_
    refine V_iconst dec_X13_take.2.2.1.2 rfl ?_
    refine V_callV0 (ci := 13) (a := a0) (As := [(0, 1)]) (st := []) rfl rfl (X13_denied_s G l s3 a0 1) cal_X13_denied rfl ml_X13_472 rfl rfl dec_X13_take.2.2.2.1 (k_tag (tag := 0) rfl fun r4 s5 => ?_)
    exact V_pick [] rfl (X13_take_b28_s G l s5 r4)
  · refine V_aload_n dec_X13_take.1.2.2.2 0 rfl ?_
    refine V_iload_n dec_X13_take.2.1.1.1 1 rfl ?_
    refine V_bipush dec_X13_take.2.1.1.2 rfl ?_
    refine V_callV0 (ci := 13) (a := a0) (As := [(0, a1), (0, (-2))]) (st := []) rfl rfl (X13_hangs_s G l s3 a0 a1 (-2)) cal_X13_hangs rfl ml_X13_478 rfl rfl dec_X13_take.2.1.2.1 (k_tag (tag := 0) rfl fun r6 s7 => ?_)
    refine V_goto (tgt := 28) dec_X13_take.2.1.2.2 (by decide) ?_
    exact V_pick [] rfl (X13_take_b28_s G l s7 r6)
theorem dec_X13_teach : (((((decode cX13_teach 0 = .ok (.aload_n 0, 1) ∧ decode cX13_teach 1 = .ok (.iconst 0, 1)) ∧ (decode cX13_teach 2 = .ok (.putfield 49, 3) ∧ (decode cX13_teach 5 = .ok (.aload_n 0, 1) ∧ decode cX13_teach 6 = .ok (.iload_n 1, 1)))) ∧ ((decode cX13_teach 7 = .ok (.invokevirtual 348, 3) ∧ (decode cX13_teach 10 = .ok (.ifCond .ne 9, 3) ∧ decode cX13_teach 13 = .ok (.aload_n 0, 1))) ∧ (decode cX13_teach 14 = .ok (.iconst 1, 1) ∧ (decode cX13_teach 15 = .ok (.invokevirtual 472, 3) ∧ decode cX13_teach 18 = .ok (.ireturn, 1))))) ∧ (((decode cX13_teach 19 = .ok (.iload_n 2, 1) ∧ decode cX13_teach 20 = .ok (.iconst 0, 1)) ∧ (decode cX13_teach 21 = .ok (.bipush 39, 2) ∧ (decode cX13_teach 23 = .ok (.invokestatic 128, 3) ∧ decode cX13_teach 26 = .ok (.ifCond .ne 9, 3)))) ∧ ((decode cX13_teach 29 = .ok (.aload_n 0, 1) ∧ (decode cX13_teach 30 = .ok (.iconst 2, 1) ∧ decode cX13_teach 31 = .ok (.invokevirtual 472, 3))) ∧ (decode cX13_teach 34 = .ok (.ireturn, 1) ∧ (decode cX13_teach 35 = .ok (.aload_n 0, 1) ∧ decode cX13_teach 36 = .ok (.getfield 17, 3)))))) ∧ ((((decode cX13_teach 39 = .ok (.bipush 6, 2) ∧ decode cX13_teach 41 = .ok (.iload_n 1, 1)) ∧ (decode cX13_teach 42 = .ok (.iadd, 1) ∧ (decode cX13_teach 43 = .ok (.iaload, 1) ∧ decode cX13_teach 44 = .ok (.iload_n 2, 1)))) ∧ ((decode cX13_teach 45 = .ok (.if_icmp .ne 9, 3) ∧ (decode cX13_teach 48 = .ok (.aload_n 0, 1) ∧ decode cX13_teach 49 = .ok (.iconst 5, 1))) ∧ (decode cX13_teach 50 = .ok (.invokevirtual 472, 3) ∧ (decode cX13_teach 53 = .ok (.ireturn, 1) ∧ decode cX13_teach 54 = .ok (.aload_n 0, 1))))) ∧ (((decode cX13_teach 55 = .ok (.invokevirtual 469, 3) ∧ decode cX13_teach 58 = .ok (.aload_n 0, 1)) ∧ (decode cX13_teach 59 = .ok (.getfield 17, 3) ∧ (decode cX13_teach 62 = .ok (.bipush 6, 2) ∧ decode cX13_teach 64 = .ok (.iload_n 1, 1)))) ∧ ((decode cX13_teach 65 = .ok (.iadd, 1) ∧ (decode cX13_teach 66 = .ok (.iload_n 2, 1) ∧ decode cX13_teach 67 = .ok (.iastore, 1))) ∧ (decode cX13_teach 68 = .ok (.aload_n 0, 1) ∧ (decode cX13_teach 69 = .ok (.invokevirtual 475, 3) ∧ decode cX13_teach 72 = .ok (.ireturn, 1))))))) := ⟨⟨by decide +kernel, by decide +kernel⟩, ⟨by decide +kernel, by decide +kernel⟩⟩
def X13_teach (s : St) (a0 a1 a2 : Int) : Rs :=
  grd (isK s 23 a0) (lets (pI s a0 0 0) (fun s1 => grd (isK s1 23 a0) (bnd (X13_isDead s1 a0 a1) (fun r2 s3 => if ¬ r2 = 0 then (bnd (X13_in s3 a2 0 39) (fun r4 s5 => if ¬ r4 = 0 then (grd (isK s5 23 a0) (grd (isK s5 1 (gR s5 a0 15) ∧ 0 ≤ (w32 (6 + a1)) ∧ (w32 (6 + a1)) < ln s5 (gR s5 a0 15)) (if ¬ (gI s5 (gR s5 a0 15) (w32 (6 + a1)).toNat) = a2 then (grd (isK s5 23 a0) (bnd (X13_remembers s5 a0) (fun r6 s7 => grd (isK s7 23 a0) (grd (isK s7 1 (gR s7 a0 15) ∧ 0 ≤ (w32 (6 + a1)) ∧ (w32 (6 + a1)) < ln s7 (gR s7 a0 15)) (lets (pI s7 (gR s7 a0 15) (w32 (6 + a1)).toNat a2) (fun s8 => grd (isK s8 23 a0) (bnd (X13_granted s8 a0) (fun r9 s10 => grd (r9 = 0 ∨ r9 = 1) (some (r9, s10)))))))))) else (grd (isK s5 23 a0) (bnd (X13_denied s5 a0 5) (fun r11 s12 => grd (r11 = 0 ∨ r11 = 1) (some (r11, s12)))))))) else (grd (isK s5 23 a0) (bnd (X13_denied s5 a0 2) (fun r13 s14 => grd (r13 = 0 ∨ r13 = 1) (some (r13, s14))))))) else (grd (isK s3 23 a0) (bnd (X13_denied s3 a0 1) (fun r15 s16 => grd (r15 = 0 ∨ r15 = 1) (some (r15, s16)))))))))
set_option maxRecDepth 100000 in
set_option maxHeartbeats 4000000 in
theorem X13_teach_s (G : Gx) (l : Launch) (s : St) (a0 a1 a2 : Int) : Snd G l mX13_teach [(2, a0), (0, a1), (0, a2)] s (X13_teach s a0 a1 a2) := by
  refine Snd.of (by decide +kernel) rfl ?_
  show V G l mX13_teach 0 [(0, (2, a0)), (1, (0, a1)), (2, (0, a2))] [] s _
  unfold X13_teach
  refine V_aload_n dec_X13_teach.1.1.1.1.1 0 rfl ?_
  refine V_iconst dec_X13_teach.1.1.1.1.2 rfl ?_
  refine V_putI (host := "") 13 0 nf_13_0 ty_13_0 (Or.inl ⟨fl_X13_49, Or.inl rfl⟩) dec_X13_teach.1.1.1.2.1 ?_
  refine V_lets fun s1 => ?_
  refine V_aload_n dec_X13_teach.1.1.1.2.2.1 0 rfl ?_
  refine V_iload_n dec_X13_teach.1.1.1.2.2.2 1 rfl ?_
  refine V_callV0 (ci := 13) (a := a0) (As := [(0, a1)]) (st := []) rfl rfl (X13_isDead_s G l s1 a0 a1) cal_X13_isDead rfl ml_X13_348 rfl rfl dec_X13_teach.1.1.2.1.1 (k_tag (tag := 0) rfl fun r2 s3 => ?_)
  refine V_if_ne (tgt := 19) dec_X13_teach.1.1.2.1.2.1 (by decide) ?_ ?_
  · refine V_iload_n dec_X13_teach.1.2.1.1.1 2 rfl ?_
    refine V_iconst dec_X13_teach.1.2.1.1.2 rfl ?_
    refine V_bipush dec_X13_teach.1.2.1.2.1 rfl ?_
    refine V_callS0 (As := [(0, a2), (0, 0), (0, 39)]) (st := []) (host := "") rfl (X13_in_s G l s3 a2 0 39) cal_X13_in rfl (Or.inl ml_X13_128) rfl rfl dec_X13_teach.1.2.1.2.2.1 (k_tag (tag := 0) rfl fun r4 s5 => ?_)
    refine V_if_ne (tgt := 35) dec_X13_teach.1.2.1.2.2.2 (by decide) ?_ ?_
    · refine V_aload_n dec_X13_teach.1.2.2.2.2.1 0 rfl ?_
      refine V_getR 13 15 nf_13_15 ft_13_15 fl_X13_17 dec_X13_teach.1.2.2.2.2.2 ?_
      refine V_bipush dec_X13_teach.2.1.1.1.1 rfl ?_
      refine V_iload_n dec_X13_teach.2.1.1.1.2 1 rfl ?_
      refine V_iadd dec_X13_teach.2.1.1.2.1 ?_
      refine V_iald dec_X13_teach.2.1.1.2.2.1 ?_
      refine V_iload_n dec_X13_teach.2.1.1.2.2.2 2 rfl ?_
      refine V_icmp_ne (tgt := 54) dec_X13_teach.2.1.2.1.1 (by decide) ?_ ?_
      · refine V_aload_n dec_X13_teach.2.1.2.2.2.2 0 rfl ?_
        refine V_callV0 (ci := 13) (a := a0) (As := []) (st := []) rfl rfl (X13_remembers_s G l s5 a0) cal_X13_remembers rfl ml_X13_469 rfl rfl dec_X13_teach.2.2.1.1.1 (k_void rfl fun r6 s7 => ?_)
        refine V_aload_n dec_X13_teach.2.2.1.1.2 0 rfl ?_
        refine V_getR 13 15 nf_13_15 ft_13_15 fl_X13_17 dec_X13_teach.2.2.1.2.1 ?_
        refine V_bipush dec_X13_teach.2.2.1.2.2.1 rfl ?_
        refine V_iload_n dec_X13_teach.2.2.1.2.2.2 1 rfl ?_
        refine V_iadd dec_X13_teach.2.2.2.1.1 ?_
        refine V_iload_n dec_X13_teach.2.2.2.1.2.1 2 rfl ?_
        refine V_iast dec_X13_teach.2.2.2.1.2.2 ?_
        refine V_lets fun s8 => ?_
        refine V_aload_n dec_X13_teach.2.2.2.2.1 0 rfl ?_
        refine V_callV0 (ci := 13) (a := a0) (As := []) (st := []) rfl rfl (X13_granted_s G l s8 a0) cal_X13_granted rfl ml_X13_475 rfl rfl dec_X13_teach.2.2.2.2.2.1 (k_tag (tag := 0) rfl fun r9 s10 => ?_)
        exact V_zret rfl dec_X13_teach.2.2.2.2.2.2
      · refine V_aload_n dec_X13_teach.2.1.2.1.2.1 0 rfl ?_
        refine V_iconst dec_X13_teach.2.1.2.1.2.2 rfl ?_
        refine V_callV0 (ci := 13) (a := a0) (As := [(0, 5)]) (st := []) rfl rfl (X13_denied_s G l s5 a0 5) cal_X13_denied rfl ml_X13_472 rfl rfl dec_X13_teach.2.1.2.2.1 (k_tag (tag := 0) rfl fun r11 s12 => ?_)
        exact V_zret rfl dec_X13_teach.2.1.2.2.2.1
    · refine V_aload_n dec_X13_teach.1.2.2.1.1 0 rfl ?_
      refine V_iconst dec_X13_teach.1.2.2.1.2.1 rfl ?_
      refine V_callV0 (ci := 13) (a := a0) (As := [(0, 2)]) (st := []) rfl rfl (X13_denied_s G l s5 a0 2) cal_X13_denied rfl ml_X13_472 rfl rfl dec_X13_teach.1.2.2.1.2.2 (k_tag (tag := 0) rfl fun r13 s14 => ?_)
      exact V_zret rfl dec_X13_teach.1.2.2.2.1
  · refine V_aload_n dec_X13_teach.1.1.2.1.2.2 0 rfl ?_
    refine V_iconst dec_X13_teach.1.1.2.2.1 rfl ?_
    refine V_callV0 (ci := 13) (a := a0) (As := [(0, 1)]) (st := []) rfl rfl (X13_denied_s G l s3 a0 1) cal_X13_denied rfl ml_X13_472 rfl rfl dec_X13_teach.1.1.2.2.2.1 (k_tag (tag := 0) rfl fun r15 s16 => ?_)
    exact V_zret rfl dec_X13_teach.1.1.2.2.2.2
theorem dec_X13_thrown : (decode cX13_thrown 0 = .ok (.aload_n 0, 1) ∧ (decode cX13_thrown 1 = .ok (.getfield 49, 3) ∧ decode cX13_thrown 4 = .ok (.ireturn, 1))) := by decide +kernel
def X13_thrown (s : St) (a0 : Int) : Rs :=
  grd (isK s 23 a0) (some ((gI s a0 0), s))
set_option maxRecDepth 100000 in
set_option maxHeartbeats 4000000 in
theorem X13_thrown_s (G : Gx) (l : Launch) (s : St) (a0 : Int) : Snd G l mX13_thrown [(2, a0)] s (X13_thrown s a0) := by
  refine Snd.of (by decide +kernel) rfl ?_
  show V G l mX13_thrown 0 [(0, (2, a0))] [] s _
  unfold X13_thrown
  refine V_aload_n dec_X13_thrown.1 0 rfl ?_
  refine V_getI 13 0 nf_13_0 ft_13_0 fl_X13_49 dec_X13_thrown.2.1 ?_
  exact V_iret rfl dec_X13_thrown.2.2
theorem dec_X13_together : (((((decode cX13_together 0 = .ok (.aload_n 0, 1) ∧ decode cX13_together 1 = .ok (.iconst 0, 1)) ∧ (decode cX13_together 2 = .ok (.putfield 49, 3) ∧ (decode cX13_together 5 = .ok (.aload_n 0, 1) ∧ decode cX13_together 6 = .ok (.iload_n 1, 1)))) ∧ ((decode cX13_together 7 = .ok (.invokevirtual 348, 3) ∧ (decode cX13_together 10 = .ok (.ifCond .eq 16, 3) ∧ decode cX13_together 13 = .ok (.aload_n 0, 1))) ∧ (decode cX13_together 14 = .ok (.iload_n 2, 1) ∧ (decode cX13_together 15 = .ok (.invokevirtual 348, 3) ∧ decode cX13_together 18 = .ok (.ifCond .eq 8, 3))))) ∧ (((decode cX13_together 21 = .ok (.iload_n 1, 1) ∧ decode cX13_together 22 = .ok (.iload_n 2, 1)) ∧ (decode cX13_together 23 = .ok (.if_icmp .ne 9, 3) ∧ (decode cX13_together 26 = .ok (.aload_n 0, 1) ∧ decode cX13_together 27 = .ok (.iconst 1, 1)))) ∧ ((decode cX13_together 28 = .ok (.invokevirtual 55, 3) ∧ (decode cX13_together 31 = .ok (.ireturn, 1) ∧ decode cX13_together 32 = .ok (.aload_n 0, 1))) ∧ (decode cX13_together 33 = .ok (.invokevirtual 342, 3) ∧ (decode cX13_together 36 = .ok (.iconst 0, 1) ∧ decode cX13_together 37 = .ok (.istore_n 3, 1)))))) ∧ ((((decode cX13_together 38 = .ok (.iload_n 3, 1) ∧ decode cX13_together 39 = .ok (.bipush 100, 2)) ∧ (decode cX13_together 41 = .ok (.if_icmp .ge 30, 3) ∧ (decode cX13_together 44 = .ok (.aload_n 0, 1) ∧ decode cX13_together 45 = .ok (.iload_n 1, 1)))) ∧ ((decode cX13_together 46 = .ok (.iload_n 3, 1) ∧ (decode cX13_together 47 = .ok (.invokevirtual 333, 3) ∧ decode cX13_together 50 = .ok (.aload_n 0, 1))) ∧ (decode cX13_together 51 = .ok (.iload_n 2, 1) ∧ (decode cX13_together 52 = .ok (.iload_n 3, 1) ∧ decode cX13_together 53 = .ok (.invokevirtual 333, 3))))) ∧ (((decode cX13_together 56 = .ok (.if_icmp .ne 9, 3) ∧ decode cX13_together 59 = .ok (.aload_n 0, 1)) ∧ (decode cX13_together 60 = .ok (.iload_n 3, 1) ∧ (decode cX13_together 61 = .ok (.invokevirtual 59, 3) ∧ decode cX13_together 64 = .ok (.ireturn, 1)))) ∧ ((decode cX13_together 65 = .ok (.iinc 3 1, 3) ∧ (decode cX13_together 68 = .ok (.goto (-30), 3) ∧ decode cX13_together 71 = .ok (.aload_n 0, 1))) ∧ (decode cX13_together 72 = .ok (.bipush (-2), 2) ∧ (decode cX13_together 74 = .ok (.invokevirtual 59, 3) ∧ decode cX13_together 77 = .ok (.ireturn, 1))))))) := ⟨⟨by decide +kernel, by decide +kernel⟩, ⟨by decide +kernel, by decide +kernel⟩⟩
def X13_together_b26 (s : St) (x0 : Int) : Rs :=
  grd (isK s 23 x0) (bnd (X13_refused s x0 1) (fun r4 s5 => some (r4, s5)))
set_option maxRecDepth 100000 in
set_option maxHeartbeats 4000000 in
theorem X13_together_b26_s (G : Gx) (l : Launch) (s : St) (x0 : Int) : V G l mX13_together 26 [(0, (2, x0))] [] s (X13_together_b26 s x0) := by
  unfold X13_together_b26
  refine V_aload_n dec_X13_together.1.2.1.2.2.1 0 rfl ?_
  refine V_iconst dec_X13_together.1.2.1.2.2.2 rfl ?_
  refine V_callV0 (ci := 13) (a := x0) (As := [(0, 1)]) (st := []) rfl rfl (X13_refused_s G l s x0 1) cal_X13_refused rfl ml_X13_55 rfl rfl dec_X13_together.1.2.2.1.1 (k_tag (tag := 0) rfl fun r4 s5 => ?_)
  exact V_iret rfl dec_X13_together.1.2.2.1.2.1
def X13_together_b38_body (rk38 : St → Int → Int → Int → Int → Rs) (s : St) (x0 x1 x2 x3 : Int) : Rs :=
  if (100 : Int) ≤ x3 then (grd (isK s 23 x0) (bnd (X13_good s x0 (-2)) (fun r10 s11 => some (r10, s11)))) else (grd (isK s 23 x0) (bnd (X13_whoHears s x0 x1 x3) (fun r12 s13 => grd (isK s13 23 x0) (bnd (X13_whoHears s13 x0 x2 x3) (fun r14 s15 => if ¬ r12 = r14 then (rk38 s15 x0 x1 x2 (w32 (x3 + 1))) else (grd (isK s15 23 x0) (bnd (X13_good s15 x0 x3) (fun r16 s17 => some (r16, s17)))))))))
def X13_together_b38 (n : Nat) (s : St) (x0 x1 x2 x3 : Int) : Rs := iter (fun (rec : St × Int × Int × Int × Int → Rs) (a : St × Int × Int × Int × Int) => X13_together_b38_body (fun (s : St) (x0 x1 x2 x3 : Int) => rec (s, x0, x1, x2, x3)) a.1 a.2.1 a.2.2.1 a.2.2.2.1 a.2.2.2.2) n (s, x0, x1, x2, x3)
theorem X13_together_b38_0 (s : St) (x0 x1 x2 x3 : Int) : X13_together_b38 0 s x0 x1 x2 x3 = none := rfl
theorem X13_together_b38_1 (n : Nat) (s : St) (x0 x1 x2 x3 : Int) : X13_together_b38 (n + 1) s x0 x1 x2 x3 = X13_together_b38_body (X13_together_b38 n) s x0 x1 x2 x3 := rfl
set_option maxRecDepth 100000 in
set_option maxHeartbeats 4000000 in
theorem X13_together_b38_body_s (G : Gx) (l : Launch) (rk38 : St → Int → Int → Int → Int → Rs) (hk38 : ∀ (s : St) (x0 x1 x2 x3 : Int), V G l mX13_together 38 [(0, (2, x0)), (1, (0, x1)), (2, (0, x2)), (3, (0, x3))] [] s (rk38 s x0 x1 x2 x3)) (s : St) (x0 x1 x2 x3 : Int) : V G l mX13_together 38 [(0, (2, x0)), (1, (0, x1)), (2, (0, x2)), (3, (0, x3))] [] s (X13_together_b38_body rk38 s x0 x1 x2 x3) := by
  unfold X13_together_b38_body
  refine V_iload_n dec_X13_together.2.1.1.1.1 3 rfl ?_
  refine V_bipush dec_X13_together.2.1.1.1.2 rfl ?_
  refine V_icmp_ge (tgt := 71) dec_X13_together.2.1.1.2.1 (by decide) ?_ ?_
  · refine V_aload_n dec_X13_together.2.2.2.1.2.2 0 rfl ?_
    refine V_bipush dec_X13_together.2.2.2.2.1 rfl ?_
    refine V_callV0 (ci := 13) (a := x0) (As := [(0, (-2))]) (st := []) rfl rfl (X13_good_s G l s x0 (-2)) cal_X13_good rfl ml_X13_59 rfl rfl dec_X13_together.2.2.2.2.2.1 (k_tag (tag := 0) rfl fun r10 s11 => ?_)
    exact V_iret rfl dec_X13_together.2.2.2.2.2.2
  · refine V_aload_n dec_X13_together.2.1.1.2.2.1 0 rfl ?_
    refine V_iload_n dec_X13_together.2.1.1.2.2.2 1 rfl ?_
    refine V_iload_n dec_X13_together.2.1.2.1.1 3 rfl ?_
    refine V_callV0 (ci := 13) (a := x0) (As := [(0, x1), (0, x3)]) (st := []) rfl rfl (X13_whoHears_s G l s x0 x1 x3) cal_X13_whoHears rfl ml_X13_333 rfl rfl dec_X13_together.2.1.2.1.2.1 (k_tag (tag := 0) rfl fun r12 s13 => ?_)
    refine V_aload_n dec_X13_together.2.1.2.1.2.2 0 rfl ?_
    refine V_iload_n dec_X13_together.2.1.2.2.1 2 rfl ?_
    refine V_iload_n dec_X13_together.2.1.2.2.2.1 3 rfl ?_
    refine V_callV0 (ci := 13) (a := x0) (As := [(0, x2), (0, x3)]) (st := [(0, r12)]) rfl rfl (X13_whoHears_s G l s13 x0 x2 x3) cal_X13_whoHears rfl ml_X13_333 rfl rfl dec_X13_together.2.1.2.2.2.2 (k_tag (tag := 0) rfl fun r14 s15 => ?_)
    refine V_icmp_ne (tgt := 65) dec_X13_together.2.2.1.1.1 (by decide) ?_ ?_
    · refine V_iinc (lv' := [(3, (0, (w32 (x3 + 1)))), (0, (2, x0)), (1, (0, x1)), (2, (0, x2))]) dec_X13_together.2.2.2.1.1 3 rfl (by decide) rfl ?_
      refine V_goto (tgt := 38) dec_X13_together.2.2.2.1.2.1 (by decide) ?_
      exact V_pick [1, 2, 3, 0] rfl (hk38 s15 x0 x1 x2 (w32 (x3 + 1)))
    · refine V_aload_n dec_X13_together.2.2.1.1.2 0 rfl ?_
      refine V_iload_n dec_X13_together.2.2.1.2.1 3 rfl ?_
      refine V_callV0 (ci := 13) (a := x0) (As := [(0, x3)]) (st := []) rfl rfl (X13_good_s G l s15 x0 x3) cal_X13_good rfl ml_X13_59 rfl rfl dec_X13_together.2.2.1.2.2.1 (k_tag (tag := 0) rfl fun r16 s17 => ?_)
      exact V_iret rfl dec_X13_together.2.2.1.2.2.2
theorem X13_together_b38_s (G : Gx) (l : Launch) (n : Nat) (s : St) (x0 x1 x2 x3 : Int) : V G l mX13_together 38 [(0, (2, x0)), (1, (0, x1)), (2, (0, x2)), (3, (0, x3))] [] s (X13_together_b38 n s x0 x1 x2 x3) :=
  V_iter (LV := fun a : St × Int × Int × Int × Int => [(0, (2, a.2.1)), (1, (0, a.2.2.1)), (2, (0, a.2.2.2.1)), (3, (0, a.2.2.2.2))]) (ST := fun a : St × Int × Int × Int × Int => []) (SS := fun a : St × Int × Int × Int × Int => a.1) (fun rec hrec a => X13_together_b38_body_s G l (fun (s : St) (x0 x1 x2 x3 : Int) => rec (s, x0, x1, x2, x3)) (fun (s : St) (x0 x1 x2 x3 : Int) => hrec (s, x0, x1, x2, x3)) a.1 a.2.1 a.2.2.1 a.2.2.2.1 a.2.2.2.2) n (s, x0, x1, x2, x3)
def X13_together (s : St) (a0 a1 a2 : Int) : Rs :=
  grd (isK s 23 a0) (lets (pI s a0 0 0) (fun s1 => grd (isK s1 23 a0) (bnd (X13_isDead s1 a0 a1) (fun r2 s3 => if r2 = 0 then (X13_together_b26 s3 a0) else (grd (isK s3 23 a0) (bnd (X13_isDead s3 a0 a2) (fun r6 s7 => if r6 = 0 then (X13_together_b26 s7 a0) else (if ¬ a1 = a2 then (grd (isK s7 23 a0) (bnd (X13_works s7 a0) (fun r8 s9 => X13_together_b38 FU s9 a0 a1 a2 0))) else (X13_together_b26 s7 a0)))))))))
set_option maxRecDepth 100000 in
set_option maxHeartbeats 4000000 in
theorem X13_together_s (G : Gx) (l : Launch) (s : St) (a0 a1 a2 : Int) : Snd G l mX13_together [(2, a0), (0, a1), (0, a2)] s (X13_together s a0 a1 a2) := by
  refine Snd.of (by decide +kernel) rfl ?_
  show V G l mX13_together 0 [(0, (2, a0)), (1, (0, a1)), (2, (0, a2))] [] s _
  unfold X13_together
  refine V_aload_n dec_X13_together.1.1.1.1.1 0 rfl ?_
  refine V_iconst dec_X13_together.1.1.1.1.2 rfl ?_
  refine V_putI (host := "") 13 0 nf_13_0 ty_13_0 (Or.inl ⟨fl_X13_49, Or.inl rfl⟩) dec_X13_together.1.1.1.2.1 ?_
  refine V_lets fun s1 => ?_
  refine V_aload_n dec_X13_together.1.1.1.2.2.1 0 rfl ?_
  refine V_iload_n dec_X13_together.1.1.1.2.2.2 1 rfl ?_
  refine V_callV0 (ci := 13) (a := a0) (As := [(0, a1)]) (st := []) rfl rfl (X13_isDead_s G l s1 a0 a1) cal_X13_isDead rfl ml_X13_348 rfl rfl dec_X13_together.1.1.2.1.1 (k_tag (tag := 0) rfl fun r2 s3 => ?_)
  refine V_if_eq (tgt := 26) dec_X13_together.1.1.2.1.2.1 (by decide) ?_ ?_
  · exact V_pick [0] rfl (X13_together_b26_s G l s3 a0)
  · refine V_aload_n dec_X13_together.1.1.2.1.2.2 0 rfl ?_
    refine V_iload_n dec_X13_together.1.1.2.2.1 2 rfl ?_
    refine V_callV0 (ci := 13) (a := a0) (As := [(0, a2)]) (st := []) rfl rfl (X13_isDead_s G l s3 a0 a2) cal_X13_isDead rfl ml_X13_348 rfl rfl dec_X13_together.1.1.2.2.2.1 (k_tag (tag := 0) rfl fun r6 s7 => ?_)
    refine V_if_eq (tgt := 26) dec_X13_together.1.1.2.2.2.2 (by decide) ?_ ?_
    · exact V_pick [0] rfl (X13_together_b26_s G l s7 a0)
    · refine V_iload_n dec_X13_together.1.2.1.1.1 1 rfl ?_
      refine V_iload_n dec_X13_together.1.2.1.1.2 2 rfl ?_
      refine V_icmp_ne (tgt := 32) dec_X13_together.1.2.1.2.1 (by decide) ?_ ?_
      · refine V_aload_n dec_X13_together.1.2.2.1.2.2 0 rfl ?_
        refine V_callV0 (ci := 13) (a := a0) (As := []) (st := []) rfl rfl (X13_works_s G l s7 a0) cal_X13_works rfl ml_X13_342 rfl rfl dec_X13_together.1.2.2.2.1 (k_void rfl fun r8 s9 => ?_)
        refine V_iconst dec_X13_together.1.2.2.2.2.1 rfl ?_
        refine V_istore_n (lv' := [(3, (0, 0)), (0, (2, a0)), (1, (0, a1)), (2, (0, a2))]) dec_X13_together.1.2.2.2.2.2 (by decide) rfl ?_
        exact V_pick [1, 2, 3, 0] rfl (X13_together_b38_s G l FU s9 a0 a1 a2 0)
      · exact V_pick [0] rfl (X13_together_b26_s G l s7 a0)
theorem dec_X13_town : ((((((decode cX13_town 0 = .ok (.aload_n 0, 1) ∧ decode cX13_town 1 = .ok (.iconst 0, 1)) ∧ (decode cX13_town 2 = .ok (.putfield 49, 3) ∧ (decode cX13_town 5 = .ok (.iload_n 1, 1) ∧ decode cX13_town 6 = .ok (.ifCond .lt 11, 3)))) ∧ ((decode cX13_town 9 = .ok (.iload_n 1, 1) ∧ decode cX13_town 10 = .ok (.aload_n 0, 1)) ∧ (decode cX13_town 11 = .ok (.getfield 296, 3) ∧ (decode cX13_town 14 = .ok (.if_icmp .le 9, 3) ∧ decode cX13_town 17 = .ok (.aload_n 0, 1))))) ∧ (((decode cX13_town 18 = .ok (.iconst 2, 1) ∧ decode cX13_town 19 = .ok (.invokevirtual 55, 3)) ∧ (decode cX13_town 22 = .ok (.ireturn, 1) ∧ (decode cX13_town 23 = .ok (.aload_n 0, 1) ∧ decode cX13_town 24 = .ok (.iload_n 1, 1)))) ∧ ((decode cX13_town 25 = .ok (.putfield 66, 3) ∧ decode cX13_town 28 = .ok (.aload_n 0, 1)) ∧ (decode cX13_town 29 = .ok (.iconst 0, 1) ∧ (decode cX13_town 30 = .ok (.putfield 296, 3) ∧ decode cX13_town 33 = .ok (.aload_n 0, 1)))))) ∧ ((((decode cX13_town 34 = .ok (.iconst 0, 1) ∧ decode cX13_town 35 = .ok (.putfield 84, 3)) ∧ (decode cX13_town 38 = .ok (.aload_n 0, 1) ∧ (decode cX13_town 39 = .ok (.iconst 0, 1) ∧ decode cX13_town 40 = .ok (.putfield 107, 3)))) ∧ ((decode cX13_town 43 = .ok (.aload_n 0, 1) ∧ decode cX13_town 44 = .ok (.new 160, 3)) ∧ (decode cX13_town 47 = .ok (.dup, 1) ∧ (decode cX13_town 48 = .ok (.invokespecial 299, 3) ∧ decode cX13_town 51 = .ok (.putfield 155, 3))))) ∧ (((decode cX13_town 54 = .ok (.aload_n 0, 1) ∧ decode cX13_town 55 = .ok (.iconst 0, 1)) ∧ (decode cX13_town 56 = .ok (.putfield 81, 3) ∧ (decode cX13_town 59 = .ok (.aload_n 0, 1) ∧ decode cX13_town 60 = .ok (.invokevirtual 117, 3)))) ∧ ((decode cX13_town 63 = .ok (.aload_n 0, 1) ∧ (decode cX13_town 64 = .ok (.invokevirtual 300, 3) ∧ decode cX13_town 67 = .ok (.aload_n 0, 1))) ∧ (decode cX13_town 68 = .ok (.getfield 107, 3) ∧ (decode cX13_town 71 = .ok (.ifCond .le 18, 3) ∧ decode cX13_town 74 = .ok (.aload_n 0, 1))))))) ∧ (((((decode cX13_town 75 = .ok (.iconst 4, 1) ∧ decode cX13_town 76 = .ok (.putfield 52, 3)) ∧ (decode cX13_town 79 = .ok (.aload_n 0, 1) ∧ (decode cX13_town 80 = .ok (.aload_n 0, 1) ∧ decode cX13_town 81 = .ok (.getfield 110, 3)))) ∧ ((decode cX13_town 84 = .ok (.putfield 9, 3) ∧ decode cX13_town 87 = .ok (.iconst (-1), 1)) ∧ (decode cX13_town 88 = .ok (.ireturn, 1) ∧ (decode cX13_town 89 = .ok (.aload_n 0, 1) ∧ decode cX13_town 90 = .ok (.aload_n 0, 1))))) ∧ (((decode cX13_town 91 = .ok (.getfield 155, 3) ∧ decode cX13_town 94 = .ok (.putfield 303, 3)) ∧ (decode cX13_town 97 = .ok (.aload_n 0, 1) ∧ (decode cX13_town 98 = .ok (.iconst 0, 1) ∧ decode cX13_town 99 = .ok (.invokevirtual 305, 3)))) ∧ ((decode cX13_town 102 = .ok (.iconst 0, 1) ∧ (decode cX13_town 103 = .ok (.istore_n 2, 1) ∧ decode cX13_town 104 = .ok (.iload_n 2, 1))) ∧ (decode cX13_town 105 = .ok (.bipush 19, 2) ∧ (decode cX13_town 107 = .ok (.if_icmp .ge 21, 3) ∧ decode cX13_town 110 = .ok (.aload_n 0, 1)))))) ∧ ((((decode cX13_town 111 = .ok (.getfield 17, 3) ∧ decode cX13_town 114 = .ok (.iload_n 2, 1)) ∧ (decode cX13_town 115 = .ok (.aload_n 0, 1) ∧ (decode cX13_town 116 = .ok (.getfield 21, 3) ∧ decode cX13_town 119 = .ok (.iload_n 2, 1)))) ∧ ((decode cX13_town 120 = .ok (.iaload, 1) ∧ decode cX13_town 121 = .ok (.iastore, 1)) ∧ (decode cX13_town 122 = .ok (.iinc 2 1, 3) ∧ (decode cX13_town 125 = .ok (.goto (-21), 3) ∧ decode cX13_town 128 = .ok (.aload_n 0, 1))))) ∧ (((decode cX13_town 129 = .ok (.iconst 0, 1) ∧ decode cX13_town 130 = .ok (.putfield 308, 3)) ∧ (decode cX13_town 133 = .ok (.aload_n 0, 1) ∧ (decode cX13_town 134 = .ok (.iconst 0, 1) ∧ decode cX13_town 135 = .ok (.putfield 311, 3)))) ∧ ((decode cX13_town 138 = .ok (.aload_n 0, 1) ∧ (decode cX13_town 139 = .ok (.aload_n 0, 1) ∧ decode cX13_town 140 = .ok (.getfield 303, 3))) ∧ (decode cX13_town 143 = .ok (.getfield 193, 3) ∧ (decode cX13_town 146 = .ok (.invokevirtual 59, 3) ∧ decode cX13_town 149 = .ok (.ireturn, 1)))))))) := ⟨⟨⟨by decide +kernel, by decide +kernel⟩, ⟨by decide +kernel, by decide +kernel⟩⟩, ⟨⟨by decide +kernel, by decide +kernel⟩, ⟨by decide +kernel, by decide +kernel⟩⟩⟩
def X13_town_b17 (s : St) (x0 : Int) : Rs :=
  grd (isK s 23 x0) (bnd (X13_refused s x0 2) (fun r2 s3 => some (r2, s3)))
set_option maxRecDepth 100000 in
set_option maxHeartbeats 4000000 in
theorem X13_town_b17_s (G : Gx) (l : Launch) (s : St) (x0 : Int) : V G l mX13_town 17 [(0, (2, x0))] [] s (X13_town_b17 s x0) := by
  unfold X13_town_b17
  refine V_aload_n dec_X13_town.1.1.1.2.2.2.2 0 rfl ?_
  refine V_iconst dec_X13_town.1.1.2.1.1.1 rfl ?_
  refine V_callV0 (ci := 13) (a := x0) (As := [(0, 2)]) (st := []) rfl rfl (X13_refused_s G l s x0 2) cal_X13_refused rfl ml_X13_55 rfl rfl dec_X13_town.1.1.2.1.1.2 (k_tag (tag := 0) rfl fun r2 s3 => ?_)
  exact V_iret rfl dec_X13_town.1.1.2.1.2.1
def X13_town_b104_body (rk104 : St → Int → Int → Rs) (s : St) (x0 x2 : Int) : Rs :=
  if (19 : Int) ≤ x2 then (grd (isK s 23 x0) (lets (pI s x0 19 0) (fun s20 => grd (isK s20 23 x0) (lets (pI s20 x0 20 0) (fun s21 => grd (isK s21 23 x0) (grd (isK s21 22 (gR s21 x0 3)) (grd (isK s21 23 x0) (bnd (X13_good s21 x0 (gI s21 (gR s21 x0 3) 2)) (fun r22 s23 => some (r22, s23)))))))))) else (grd (isK s 23 x0) (grd (isK s 23 x0) (grd (isK s 1 (gR s x0 16) ∧ 0 ≤ x2 ∧ x2 < ln s (gR s x0 16)) (grd (isK s 1 (gR s x0 15) ∧ 0 ≤ x2 ∧ x2 < ln s (gR s x0 15)) (lets (pI s (gR s x0 15) x2.toNat (gI s (gR s x0 16) x2.toNat)) (fun s24 => rk104 s24 x0 (w32 (x2 + 1))))))))
def X13_town_b104 (n : Nat) (s : St) (x0 x2 : Int) : Rs := iter (fun (rec : St × Int × Int → Rs) (a : St × Int × Int) => X13_town_b104_body (fun (s : St) (x0 x2 : Int) => rec (s, x0, x2)) a.1 a.2.1 a.2.2) n (s, x0, x2)
theorem X13_town_b104_0 (s : St) (x0 x2 : Int) : X13_town_b104 0 s x0 x2 = none := rfl
theorem X13_town_b104_1 (n : Nat) (s : St) (x0 x2 : Int) : X13_town_b104 (n + 1) s x0 x2 = X13_town_b104_body (X13_town_b104 n) s x0 x2 := rfl
set_option maxRecDepth 100000 in
set_option maxHeartbeats 4000000 in
theorem X13_town_b104_body_s (G : Gx) (l : Launch) (rk104 : St → Int → Int → Rs) (hk104 : ∀ (s : St) (x0 x2 : Int), V G l mX13_town 104 [(0, (2, x0)), (2, (0, x2))] [] s (rk104 s x0 x2)) (s : St) (x0 x2 : Int) : V G l mX13_town 104 [(0, (2, x0)), (2, (0, x2))] [] s (X13_town_b104_body rk104 s x0 x2) := by
  unfold X13_town_b104_body
  refine V_iload_n dec_X13_town.2.1.2.2.1.2.2 1 rfl ?_
  refine V_bipush dec_X13_town.2.1.2.2.2.1 rfl ?_
  refine V_icmp_ge (tgt := 128) dec_X13_town.2.1.2.2.2.2.1 (by decide) ?_ ?_
  · refine V_aload_n dec_X13_town.2.2.1.2.2.2.2 0 rfl ?_
    refine V_iconst dec_X13_town.2.2.2.1.1.1 rfl ?_
    refine V_putI (host := "") 13 19 nf_13_19 ty_13_19 (Or.inl ⟨fl_X13_308, Or.inl rfl⟩) dec_X13_town.2.2.2.1.1.2 ?_
    refine V_lets fun s20 => ?_
    refine V_aload_n dec_X13_town.2.2.2.1.2.1 0 rfl ?_
    refine V_iconst dec_X13_town.2.2.2.1.2.2.1 rfl ?_
    refine V_putI (host := "") 13 20 nf_13_20 ty_13_20 (Or.inl ⟨fl_X13_311, Or.inl rfl⟩) dec_X13_town.2.2.2.1.2.2.2 ?_
    refine V_lets fun s21 => ?_
    refine V_aload_n dec_X13_town.2.2.2.2.1.1 0 rfl ?_
    refine V_aload_n dec_X13_town.2.2.2.2.1.2.1 0 rfl ?_
    refine V_getR 13 3 nf_13_3 ft_13_3 fl_X13_303 dec_X13_town.2.2.2.2.1.2.2 ?_
    refine V_getIN RX13 12 2 nf_12_2 ft_12_2 fl_X13_193 dec_X13_town.2.2.2.2.2.1 ?_
    refine V_callV0 (ci := 13) (a := x0) (As := [(0, (gI s21 (gR s21 x0 3) 2))]) (st := []) rfl rfl (X13_good_s G l s21 x0 (gI s21 (gR s21 x0 3) 2)) cal_X13_good rfl ml_X13_59 rfl rfl dec_X13_town.2.2.2.2.2.2.1 (k_tag (tag := 0) rfl fun r22 s23 => ?_)
    exact V_iret rfl dec_X13_town.2.2.2.2.2.2.2
  · refine V_aload_n dec_X13_town.2.1.2.2.2.2.2 0 rfl ?_
    refine V_getR 13 15 nf_13_15 ft_13_15 fl_X13_17 dec_X13_town.2.2.1.1.1.1 ?_
    refine V_iload_n dec_X13_town.2.2.1.1.1.2 1 rfl ?_
    refine V_aload_n dec_X13_town.2.2.1.1.2.1 0 rfl ?_
    refine V_getR 13 16 nf_13_16 ft_13_16 fl_X13_21 dec_X13_town.2.2.1.1.2.2.1 ?_
    refine V_iload_n dec_X13_town.2.2.1.1.2.2.2 1 rfl ?_
    refine V_iald dec_X13_town.2.2.1.2.1.1 ?_
    refine V_iast dec_X13_town.2.2.1.2.1.2 ?_
    refine V_lets fun s24 => ?_
    refine V_iinc (lv' := [(2, (0, (w32 (x2 + 1)))), (0, (2, x0))]) dec_X13_town.2.2.1.2.2.1 1 rfl (by decide) rfl ?_
    refine V_goto (tgt := 104) dec_X13_town.2.2.1.2.2.2.1 (by decide) ?_
    exact V_pick [1, 0] rfl (hk104 s24 x0 (w32 (x2 + 1)))
theorem X13_town_b104_s (G : Gx) (l : Launch) (n : Nat) (s : St) (x0 x2 : Int) : V G l mX13_town 104 [(0, (2, x0)), (2, (0, x2))] [] s (X13_town_b104 n s x0 x2) :=
  V_iter (LV := fun a : St × Int × Int => [(0, (2, a.2.1)), (2, (0, a.2.2))]) (ST := fun a : St × Int × Int => []) (SS := fun a : St × Int × Int => a.1) (fun rec hrec a => X13_town_b104_body_s G l (fun (s : St) (x0 x2 : Int) => rec (s, x0, x2)) (fun (s : St) (x0 x2 : Int) => hrec (s, x0, x2)) a.1 a.2.1 a.2.2) n (s, x0, x2)
def X13_town (s : St) (a0 a1 : Int) : Rs :=
  grd (isK s 23 a0) (lets (pI s a0 0 0) (fun s1 => if a1 < 0 then (X13_town_b17 s1 a0) else (grd (isK s1 23 a0) (if a1 ≤ (gI s1 a0 6) then (grd (isK s1 23 a0) (lets (pI s1 a0 7 a1) (fun s4 => grd (isK s4 23 a0) (lets (pI s4 a0 6 0) (fun s5 => grd (isK s5 23 a0) (lets (pI s5 a0 8 0) (fun s6 => grd (isK s6 23 a0) (lets (pI s6 a0 12 0) (fun s7 => grd (s7.1.1 < 1000000) (lets (nw s7 22 21) (fun s8 => grd (isK s8 22 (s7.1.1 : Int)) (bnd (X12_init s8 (s7.1.1 : Int)) (fun r9 s10 => grd (isK s10 23 a0) (lets (pR s10 a0 4 (s7.1.1 : Int)) (fun s11 => grd (isK s11 23 a0) (lets (pI s11 a0 9 0) (fun s12 => grd (isK s12 23 a0) (bnd (X13_goesOn s12 a0) (fun r13 s14 => grd (isK s14 23 a0) (bnd (X13_readAll s14 a0) (fun r15 s16 => grd (isK s16 23 a0) (if (gI s16 a0 12) ≤ 0 then (grd (isK s16 23 a0) (grd (isK s16 23 a0) (lets (pR s16 a0 3 (gR s16 a0 4)) (fun s17 => grd (isK s17 23 a0) (bnd (X13_asTold s17 a0 0) (fun r18 s19 => X13_town_b104 FU s19 a0 0)))))) else (grd (isK s16 23 a0) (lets (pI s16 a0 1 4) (fun s25 => grd (isK s25 23 a0) (grd (isK s25 23 a0) (lets (pI s25 a0 2 (gI s25 a0 13)) (fun s26 => some ((-1), s26))))))))))))))))))))))))))))) else (X13_town_b17 s1 a0)))))
set_option maxRecDepth 100000 in
set_option maxHeartbeats 4000000 in
theorem X13_town_s (G : Gx) (l : Launch) (s : St) (a0 a1 : Int) : Snd G l mX13_town [(2, a0), (0, a1)] s (X13_town s a0 a1) := by
  refine Snd.of (by decide +kernel) rfl ?_
  show V G l mX13_town 0 [(0, (2, a0)), (1, (0, a1))] [] s _
  unfold X13_town
  refine V_aload_n dec_X13_town.1.1.1.1.1.1 0 rfl ?_
  refine V_iconst dec_X13_town.1.1.1.1.1.2 rfl ?_
  refine V_putI (host := "") 13 0 nf_13_0 ty_13_0 (Or.inl ⟨fl_X13_49, Or.inl rfl⟩) dec_X13_town.1.1.1.1.2.1 ?_
  refine V_lets fun s1 => ?_
  refine V_iload_n dec_X13_town.1.1.1.1.2.2.1 1 rfl ?_
  refine V_if_lt (tgt := 17) dec_X13_town.1.1.1.1.2.2.2 (by decide) ?_ ?_
  · exact V_pick [0] rfl (X13_town_b17_s G l s1 a0)
  · refine V_iload_n dec_X13_town.1.1.1.2.1.1 1 rfl ?_
    refine V_aload_n dec_X13_town.1.1.1.2.1.2 0 rfl ?_
    refine V_getI 13 6 nf_13_6 ft_13_6 fl_X13_296 dec_X13_town.1.1.1.2.2.1 ?_
    refine V_icmp_le (tgt := 23) dec_X13_town.1.1.1.2.2.2.1 (by decide) ?_ ?_
    · refine V_aload_n dec_X13_town.1.1.2.1.2.2.1 0 rfl ?_
      refine V_iload_n dec_X13_town.1.1.2.1.2.2.2 1 rfl ?_
      refine V_putI (host := "") 13 7 nf_13_7 ty_13_7 (Or.inl ⟨fl_X13_66, Or.inl rfl⟩) dec_X13_town.1.1.2.2.1.1 ?_
      refine V_lets fun s4 => ?_
      refine V_aload_n dec_X13_town.1.1.2.2.1.2 0 rfl ?_
      refine V_iconst dec_X13_town.1.1.2.2.2.1 rfl ?_
      refine V_putI (host := "") 13 6 nf_13_6 ty_13_6 (Or.inl ⟨fl_X13_296, Or.inl rfl⟩) dec_X13_town.1.1.2.2.2.2.1 ?_
      refine V_lets fun s5 => ?_
      refine V_aload_n dec_X13_town.1.1.2.2.2.2.2 0 rfl ?_
      refine V_iconst dec_X13_town.1.2.1.1.1.1 rfl ?_
      refine V_putI (host := "") 13 8 nf_13_8 ty_13_8 (Or.inl ⟨fl_X13_84, Or.inl rfl⟩) dec_X13_town.1.2.1.1.1.2 ?_
      refine V_lets fun s6 => ?_
      refine V_aload_n dec_X13_town.1.2.1.1.2.1 0 rfl ?_
      refine V_iconst dec_X13_town.1.2.1.1.2.2.1 rfl ?_
      refine V_putI (host := "") 13 12 nf_13_12 ty_13_12 (Or.inl ⟨fl_X13_107, Or.inl rfl⟩) dec_X13_town.1.2.1.1.2.2.2 ?_
      refine V_lets fun s7 => ?_
      refine V_aload_n dec_X13_town.1.2.1.2.1.1 0 rfl ?_
      refine V_new 12 (RX12, TX12, 21) rfl cl_X13_160 in_X12 iz_X12 dec_X13_town.1.2.1.2.1.2 ?_
      refine V_lets fun s8 => ?_
      refine V_dup (nl2 _) dec_X13_town.1.2.1.2.2.1 ?_
      refine V_callI0 (ci := 12) (a := (s7.1.1 : Int)) (As := []) (st := [(2, (s7.1.1 : Int)), (2, a0)]) (host := RX13) rfl rfl (X12_init_s G l s8 (s7.1.1 : Int)) cal_X12_init rfl (Or.inr ml_X13_299) rfl rfl dec_X13_town.1.2.1.2.2.2.1 (fun r9 s10 => ?_)
      refine V_putR (host := "") 13 4 nf_13_4 ty_13_4 (Or.inl ⟨fl_X13_155, Or.inl rfl⟩) dec_X13_town.1.2.1.2.2.2.2 ?_
      refine V_lets fun s11 => ?_
      refine V_aload_n dec_X13_town.1.2.2.1.1.1 0 rfl ?_
      refine V_iconst dec_X13_town.1.2.2.1.1.2 rfl ?_
      refine V_putI (host := "") 13 9 nf_13_9 ty_13_9 (Or.inl ⟨fl_X13_81, Or.inl rfl⟩) dec_X13_town.1.2.2.1.2.1 ?_
      refine V_lets fun s12 => ?_
      refine V_aload_n dec_X13_town.1.2.2.1.2.2.1 0 rfl ?_
      refine V_callV0 (ci := 13) (a := a0) (As := []) (st := []) rfl rfl (X13_goesOn_s G l s12 a0) cal_X13_goesOn rfl ml_X13_117 rfl rfl dec_X13_town.1.2.2.1.2.2.2 (k_void rfl fun r13 s14 => ?_)
      refine V_aload_n dec_X13_town.1.2.2.2.1.1 0 rfl ?_
      refine V_callV0 (ci := 13) (a := a0) (As := []) (st := []) rfl rfl (X13_readAll_s G l s14 a0) cal_X13_readAll rfl ml_X13_300 rfl rfl dec_X13_town.1.2.2.2.1.2.1 (k_void rfl fun r15 s16 => ?_)
      refine V_aload_n dec_X13_town.1.2.2.2.1.2.2 0 rfl ?_
      refine V_getI 13 12 nf_13_12 ft_13_12 fl_X13_107 dec_X13_town.1.2.2.2.2.1 ?_
      refine V_if_le (tgt := 89) dec_X13_town.1.2.2.2.2.2.1 (by decide) ?_ ?_
      · refine V_aload_n dec_X13_town.2.1.1.2.2.2.1 0 rfl ?_
        refine V_aload_n dec_X13_town.2.1.1.2.2.2.2 0 rfl ?_
        refine V_getR 13 4 nf_13_4 ft_13_4 fl_X13_155 dec_X13_town.2.1.2.1.1.1 ?_
        refine V_putR (host := "") 13 3 nf_13_3 ty_13_3 (Or.inl ⟨fl_X13_303, Or.inl rfl⟩) dec_X13_town.2.1.2.1.1.2 ?_
        refine V_lets fun s17 => ?_
        refine V_aload_n dec_X13_town.2.1.2.1.2.1 0 rfl ?_
        refine V_iconst dec_X13_town.2.1.2.1.2.2.1 rfl ?_
        refine V_callV0 (ci := 13) (a := a0) (As := [(0, 0)]) (st := []) rfl rfl (X13_asTold_s G l s17 a0 0) cal_X13_asTold rfl ml_X13_305 rfl rfl dec_X13_town.2.1.2.1.2.2.2 (k_void rfl fun r18 s19 => ?_)
        refine V_iconst dec_X13_town.2.1.2.2.1.1 rfl ?_
        refine V_istore_n (lv' := [(2, (0, 0)), (0, (2, a0)), (1, (0, a1))]) dec_X13_town.2.1.2.2.1.2.1 (by decide) rfl ?_
        exact V_pick [1, 0] rfl (X13_town_b104_s G l FU s19 a0 0)
      · refine V_aload_n dec_X13_town.1.2.2.2.2.2.2 0 rfl ?_
        refine V_iconst dec_X13_town.2.1.1.1.1.1 rfl ?_
        refine V_putI (host := "") 13 1 nf_13_1 ty_13_1 (Or.inl ⟨fl_X13_52, Or.inl rfl⟩) dec_X13_town.2.1.1.1.1.2 ?_
        refine V_lets fun s25 => ?_
        refine V_aload_n dec_X13_town.2.1.1.1.2.1 0 rfl ?_
        refine V_aload_n dec_X13_town.2.1.1.1.2.2.1 0 rfl ?_
        refine V_getI 13 13 nf_13_13 ft_13_13 fl_X13_110 dec_X13_town.2.1.1.1.2.2.2 ?_
        refine V_putI (host := "") 13 2 nf_13_2 ty_13_2 (Or.inl ⟨fl_X13_9, Or.inl rfl⟩) dec_X13_town.2.1.1.2.1.1 ?_
        refine V_lets fun s26 => ?_
        refine V_iconst dec_X13_town.2.1.1.2.1.2 rfl ?_
        exact V_iret rfl dec_X13_town.2.1.1.2.2.1
    · exact V_pick [0] rfl (X13_town_b17_s G l s1 a0)
theorem dec_X13_trouble : ((decode cX13_trouble 0 = .ok (.aload_n 0, 1) ∧ (decode cX13_trouble 1 = .ok (.iconst 0, 1) ∧ decode cX13_trouble 2 = .ok (.putfield 49, 3))) ∧ (decode cX13_trouble 5 = .ok (.aload_n 0, 1) ∧ (decode cX13_trouble 6 = .ok (.getfield 52, 3) ∧ decode cX13_trouble 9 = .ok (.ireturn, 1)))) := by decide +kernel
def X13_trouble (s : St) (a0 : Int) : Rs :=
  grd (isK s 23 a0) (lets (pI s a0 0 0) (fun s1 => grd (isK s1 23 a0) (some ((gI s1 a0 1), s1))))
set_option maxRecDepth 100000 in
set_option maxHeartbeats 4000000 in
theorem X13_trouble_s (G : Gx) (l : Launch) (s : St) (a0 : Int) : Snd G l mX13_trouble [(2, a0)] s (X13_trouble s a0) := by
  refine Snd.of (by decide +kernel) rfl ?_
  show V G l mX13_trouble 0 [(0, (2, a0))] [] s _
  unfold X13_trouble
  refine V_aload_n dec_X13_trouble.1.1 0 rfl ?_
  refine V_iconst dec_X13_trouble.1.2.1 rfl ?_
  refine V_putI (host := "") 13 0 nf_13_0 ty_13_0 (Or.inl ⟨fl_X13_49, Or.inl rfl⟩) dec_X13_trouble.1.2.2 ?_
  refine V_lets fun s1 => ?_
  refine V_aload_n dec_X13_trouble.2.1 0 rfl ?_
  refine V_getI 13 1 nf_13_1 ft_13_1 fl_X13_52 dec_X13_trouble.2.2.1 ?_
  exact V_iret rfl dec_X13_trouble.2.2.2
theorem dec_X13_undo : (((((decode cX13_undo 0 = .ok (.aload_n 0, 1) ∧ decode cX13_undo 1 = .ok (.iconst 0, 1)) ∧ (decode cX13_undo 2 = .ok (.putfield 49, 3) ∧ (decode cX13_undo 5 = .ok (.aload_n 0, 1) ∧ decode cX13_undo 6 = .ok (.getfield 303, 3)))) ∧ ((decode cX13_undo 9 = .ok (.ifnull 10, 3) ∧ decode cX13_undo 12 = .ok (.aload_n 0, 1)) ∧ (decode cX13_undo 13 = .ok (.getfield 308, 3) ∧ (decode cX13_undo 16 = .ok (.ifCond .ne 10, 3) ∧ decode cX13_undo 19 = .ok (.aload_n 0, 1))))) ∧ (((decode cX13_undo 20 = .ok (.bipush 6, 2) ∧ decode cX13_undo 22 = .ok (.invokevirtual 472, 3)) ∧ (decode cX13_undo 25 = .ok (.ireturn, 1) ∧ (decode cX13_undo 26 = .ok (.aload_n 0, 1) ∧ decode cX13_undo 27 = .ok (.dup, 1)))) ∧ ((decode cX13_undo 28 = .ok (.getfield 308, 3) ∧ (decode cX13_undo 31 = .ok (.iconst 1, 1) ∧ decode cX13_undo 32 = .ok (.isub, 1))) ∧ (decode cX13_undo 33 = .ok (.putfield 308, 3) ∧ (decode cX13_undo 36 = .ok (.iconst 0, 1) ∧ decode cX13_undo 37 = .ok (.istore_n 1, 1)))))) ∧ ((((decode cX13_undo 38 = .ok (.iload_n 1, 1) ∧ decode cX13_undo 39 = .ok (.bipush 19, 2)) ∧ (decode cX13_undo 41 = .ok (.if_icmp .ge 29, 3) ∧ (decode cX13_undo 44 = .ok (.aload_n 0, 1) ∧ decode cX13_undo 45 = .ok (.getfield 17, 3)))) ∧ ((decode cX13_undo 48 = .ok (.iload_n 1, 1) ∧ decode cX13_undo 49 = .ok (.aload_n 0, 1)) ∧ (decode cX13_undo 50 = .ok (.getfield 24, 3) ∧ (decode cX13_undo 53 = .ok (.bipush 19, 2) ∧ decode cX13_undo 55 = .ok (.aload_n 0, 1))))) ∧ (((decode cX13_undo 56 = .ok (.getfield 308, 3) ∧ decode cX13_undo 59 = .ok (.imul, 1)) ∧ (decode cX13_undo 60 = .ok (.iload_n 1, 1) ∧ (decode cX13_undo 61 = .ok (.iadd, 1) ∧ decode cX13_undo 62 = .ok (.iaload, 1)))) ∧ ((decode cX13_undo 63 = .ok (.iastore, 1) ∧ (decode cX13_undo 64 = .ok (.iinc 1 1, 3) ∧ decode cX13_undo 67 = .ok (.goto (-29), 3))) ∧ (decode cX13_undo 70 = .ok (.aload_n 0, 1) ∧ (decode cX13_undo 71 = .ok (.invokevirtual 475, 3) ∧ decode cX13_undo 74 = .ok (.ireturn, 1))))))) := ⟨⟨by decide +kernel, by decide +kernel⟩, ⟨by decide +kernel, by decide +kernel⟩⟩
def X13_undo_b19 (s : St) (x0 : Int) : Rs :=
  grd (isK s 23 x0) (bnd (X13_denied s x0 6) (fun r2 s3 => grd (r2 = 0 ∨ r2 = 1) (some (r2, s3))))
set_option maxRecDepth 100000 in
set_option maxHeartbeats 4000000 in
theorem X13_undo_b19_s (G : Gx) (l : Launch) (s : St) (x0 : Int) : V G l mX13_undo 19 [(0, (2, x0))] [] s (X13_undo_b19 s x0) := by
  unfold X13_undo_b19
  refine V_aload_n dec_X13_undo.1.1.2.2.2.2 0 rfl ?_
  refine V_bipush dec_X13_undo.1.2.1.1.1 rfl ?_
  refine V_callV0 (ci := 13) (a := x0) (As := [(0, 6)]) (st := []) rfl rfl (X13_denied_s G l s x0 6) cal_X13_denied rfl ml_X13_472 rfl rfl dec_X13_undo.1.2.1.1.2 (k_tag (tag := 0) rfl fun r2 s3 => ?_)
  exact V_zret rfl dec_X13_undo.1.2.1.2.1
def X13_undo_b38_body (rk38 : St → Int → Int → Rs) (s : St) (x0 x1 : Int) : Rs :=
  if (19 : Int) ≤ x1 then (grd (isK s 23 x0) (bnd (X13_granted s x0) (fun r5 s6 => grd (r5 = 0 ∨ r5 = 1) (some (r5, s6))))) else (grd (isK s 23 x0) (grd (isK s 23 x0) (grd (isK s 23 x0) (grd (isK s 1 (gR s x0 17) ∧ 0 ≤ (w32 ((w32 (19 * (gI s x0 19))) + x1)) ∧ (w32 ((w32 (19 * (gI s x0 19))) + x1)) < ln s (gR s x0 17)) (grd (isK s 1 (gR s x0 15) ∧ 0 ≤ x1 ∧ x1 < ln s (gR s x0 15)) (lets (pI s (gR s x0 15) x1.toNat (gI s (gR s x0 17) (w32 ((w32 (19 * (gI s x0 19))) + x1)).toNat)) (fun s7 => rk38 s7 x0 (w32 (x1 + 1)))))))))
def X13_undo_b38 (n : Nat) (s : St) (x0 x1 : Int) : Rs := iter (fun (rec : St × Int × Int → Rs) (a : St × Int × Int) => X13_undo_b38_body (fun (s : St) (x0 x1 : Int) => rec (s, x0, x1)) a.1 a.2.1 a.2.2) n (s, x0, x1)
theorem X13_undo_b38_0 (s : St) (x0 x1 : Int) : X13_undo_b38 0 s x0 x1 = none := rfl
theorem X13_undo_b38_1 (n : Nat) (s : St) (x0 x1 : Int) : X13_undo_b38 (n + 1) s x0 x1 = X13_undo_b38_body (X13_undo_b38 n) s x0 x1 := rfl
set_option maxRecDepth 100000 in
set_option maxHeartbeats 4000000 in
theorem X13_undo_b38_body_s (G : Gx) (l : Launch) (rk38 : St → Int → Int → Rs) (hk38 : ∀ (s : St) (x0 x1 : Int), V G l mX13_undo 38 [(0, (2, x0)), (1, (0, x1))] [] s (rk38 s x0 x1)) (s : St) (x0 x1 : Int) : V G l mX13_undo 38 [(0, (2, x0)), (1, (0, x1))] [] s (X13_undo_b38_body rk38 s x0 x1) := by
  unfold X13_undo_b38_body
  refine V_iload_n dec_X13_undo.2.1.1.1.1 1 rfl ?_
  refine V_bipush dec_X13_undo.2.1.1.1.2 rfl ?_
  refine V_icmp_ge (tgt := 70) dec_X13_undo.2.1.1.2.1 (by decide) ?_ ?_
  · refine V_aload_n dec_X13_undo.2.2.2.2.1 0 rfl ?_
    refine V_callV0 (ci := 13) (a := x0) (As := []) (st := []) rfl rfl (X13_granted_s G l s x0) cal_X13_granted rfl ml_X13_475 rfl rfl dec_X13_undo.2.2.2.2.2.1 (k_tag (tag := 0) rfl fun r5 s6 => ?_)
    exact V_zret rfl dec_X13_undo.2.2.2.2.2.2
  · refine V_aload_n dec_X13_undo.2.1.1.2.2.1 0 rfl ?_
    refine V_getR 13 15 nf_13_15 ft_13_15 fl_X13_17 dec_X13_undo.2.1.1.2.2.2 ?_
    refine V_iload_n dec_X13_undo.2.1.2.1.1 1 rfl ?_
    refine V_aload_n dec_X13_undo.2.1.2.1.2 0 rfl ?_
    refine V_getR 13 17 nf_13_17 ft_13_17 fl_X13_24 dec_X13_undo.2.1.2.2.1 ?_
    refine V_bipush dec_X13_undo.2.1.2.2.2.1 rfl ?_
    refine V_aload_n dec_X13_undo.2.1.2.2.2.2 0 rfl ?_
    refine V_getI 13 19 nf_13_19 ft_13_19 fl_X13_308 dec_X13_undo.2.2.1.1.1 ?_
    refine V_imul dec_X13_undo.2.2.1.1.2 ?_
    refine V_iload_n dec_X13_undo.2.2.1.2.1 1 rfl ?_
    refine V_iadd dec_X13_undo.2.2.1.2.2.1 ?_
    refine V_iald dec_X13_undo.2.2.1.2.2.2 ?_
    refine V_iast dec_X13_undo.2.2.2.1.1 ?_
    refine V_lets fun s7 => ?_
    refine V_iinc (lv' := [(1, (0, (w32 (x1 + 1)))), (0, (2, x0))]) dec_X13_undo.2.2.2.1.2.1 1 rfl (by decide) rfl ?_
    refine V_goto (tgt := 38) dec_X13_undo.2.2.2.1.2.2 (by decide) ?_
    exact V_pick [1, 0] rfl (hk38 s7 x0 (w32 (x1 + 1)))
theorem X13_undo_b38_s (G : Gx) (l : Launch) (n : Nat) (s : St) (x0 x1 : Int) : V G l mX13_undo 38 [(0, (2, x0)), (1, (0, x1))] [] s (X13_undo_b38 n s x0 x1) :=
  V_iter (LV := fun a : St × Int × Int => [(0, (2, a.2.1)), (1, (0, a.2.2))]) (ST := fun a : St × Int × Int => []) (SS := fun a : St × Int × Int => a.1) (fun rec hrec a => X13_undo_b38_body_s G l (fun (s : St) (x0 x1 : Int) => rec (s, x0, x1)) (fun (s : St) (x0 x1 : Int) => hrec (s, x0, x1)) a.1 a.2.1 a.2.2) n (s, x0, x1)
def X13_undo (s : St) (a0 : Int) : Rs :=
  grd (isK s 23 a0) (lets (pI s a0 0 0) (fun s1 => grd (isK s1 23 a0) (if (gR s1 a0 3) < 0 then (X13_undo_b19 s1 a0) else (grd (isK s1 23 a0) (if ¬ (gI s1 a0 19) = 0 then (grd (isK s1 23 a0) (grd (isK s1 23 a0) (lets (pI s1 a0 19 (w32 ((gI s1 a0 19) - 1))) (fun s4 => X13_undo_b38 FU s4 a0 0)))) else (X13_undo_b19 s1 a0))))))
set_option maxRecDepth 100000 in
set_option maxHeartbeats 4000000 in
theorem X13_undo_s (G : Gx) (l : Launch) (s : St) (a0 : Int) : Snd G l mX13_undo [(2, a0)] s (X13_undo s a0) := by
  refine Snd.of (by decide +kernel) rfl ?_
  show V G l mX13_undo 0 [(0, (2, a0))] [] s _
  unfold X13_undo
  refine V_aload_n dec_X13_undo.1.1.1.1.1 0 rfl ?_
  refine V_iconst dec_X13_undo.1.1.1.1.2 rfl ?_
  refine V_putI (host := "") 13 0 nf_13_0 ty_13_0 (Or.inl ⟨fl_X13_49, Or.inl rfl⟩) dec_X13_undo.1.1.1.2.1 ?_
  refine V_lets fun s1 => ?_
  refine V_aload_n dec_X13_undo.1.1.1.2.2.1 0 rfl ?_
  refine V_getR 13 3 nf_13_3 ft_13_3 fl_X13_303 dec_X13_undo.1.1.1.2.2.2 ?_
  refine V_ifnull (tgt := 19) dec_X13_undo.1.1.2.1.1 (by decide) ?_ ?_
  · exact V_pick [0] rfl (X13_undo_b19_s G l s1 a0)
  · refine V_aload_n dec_X13_undo.1.1.2.1.2 0 rfl ?_
    refine V_getI 13 19 nf_13_19 ft_13_19 fl_X13_308 dec_X13_undo.1.1.2.2.1 ?_
    refine V_if_ne (tgt := 26) dec_X13_undo.1.1.2.2.2.1 (by decide) ?_ ?_
    · refine V_aload_n dec_X13_undo.1.2.1.2.2.1 0 rfl ?_
      refine V_dup (nl2 _) dec_X13_undo.1.2.1.2.2.2 ?_
      refine V_getI 13 19 nf_13_19 ft_13_19 fl_X13_308 dec_X13_undo.1.2.2.1.1 ?_
      refine V_iconst dec_X13_undo.1.2.2.1.2.1 rfl ?_
      refine V_isub dec_X13_undo.1.2.2.1.2.2 ?_
      refine V_putI (host := "") 13 19 nf_13_19 ty_13_19 (Or.inl ⟨fl_X13_308, Or.inl rfl⟩) dec_X13_undo.1.2.2.2.1 ?_
      refine V_lets fun s4 => ?_
      refine V_iconst dec_X13_undo.1.2.2.2.2.1 rfl ?_
      refine V_istore_n (lv' := [(1, (0, 0)), (0, (2, a0))]) dec_X13_undo.1.2.2.2.2.2 (by decide) rfl ?_
      exact V_pick [1, 0] rfl (X13_undo_b38_s G l FU s4 a0 0)
    · exact V_pick [0] rfl (X13_undo_b19_s G l s1 a0)
theorem dec_X13_where : ((decode cX13_where 0 = .ok (.aload_n 0, 1) ∧ (decode cX13_where 1 = .ok (.iconst 0, 1) ∧ decode cX13_where 2 = .ok (.putfield 49, 3))) ∧ (decode cX13_where 5 = .ok (.aload_n 0, 1) ∧ (decode cX13_where 6 = .ok (.getfield 9, 3) ∧ decode cX13_where 9 = .ok (.ireturn, 1)))) := by decide +kernel
def X13_where (s : St) (a0 : Int) : Rs :=
  grd (isK s 23 a0) (lets (pI s a0 0 0) (fun s1 => grd (isK s1 23 a0) (some ((gI s1 a0 2), s1))))
set_option maxRecDepth 100000 in
set_option maxHeartbeats 4000000 in
theorem X13_where_s (G : Gx) (l : Launch) (s : St) (a0 : Int) : Snd G l mX13_where [(2, a0)] s (X13_where s a0) := by
  refine Snd.of (by decide +kernel) rfl ?_
  show V G l mX13_where 0 [(0, (2, a0))] [] s _
  unfold X13_where
  refine V_aload_n dec_X13_where.1.1 0 rfl ?_
  refine V_iconst dec_X13_where.1.2.1 rfl ?_
  refine V_putI (host := "") 13 0 nf_13_0 ty_13_0 (Or.inl ⟨fl_X13_49, Or.inl rfl⟩) dec_X13_where.1.2.2 ?_
  refine V_lets fun s1 => ?_
  refine V_aload_n dec_X13_where.2.1 0 rfl ?_
  refine V_getI 13 2 nf_13_2 ft_13_2 fl_X13_9 dec_X13_where.2.2.1 ?_
  exact V_iret rfl dec_X13_where.2.2.2
