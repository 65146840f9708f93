def X11_led_b46 (rk4 : St → Int → Int → Int → Int → Rs) (s : St) (x0 x1 x2 x3 : Int) : Rs :=
  rk4 s x0 x1 x2 (w32 (x3 + 1))
set_option maxRecDepth 100000 in
set_option maxHeartbeats 4000000 in
theorem X11_led_b46_s (G : Gx) (l : Launch) (hl : l.stackTraces = false) (rk4 : St → Int → Int → Int → Int → Rs) (hk4 : ∀ (s : St) (x0 x1 x2 x3 : Int), VQ (QX G) G l mX11_led 4 [(0, (2, x0)), (1, (0, x1)), (2, (0, x2)), (3, (0, x3))] [] s (rk4 s x0 x1 x2 x3)) (s : St) (x0 x1 x2 x3 : Int) : VQ (QX G) G l mX11_led 46 [(0, (2, x0)), (1, (0, x1)), (2, (0, x2)), (3, (0, x3))] [] s (X11_led_b46 rk4 s x0 x1 x2 x3) := by
  unfold X11_led_b46
  refine V_iinc (lv' := [(3, (0, (w32 (x3 + 1)))), (0, (2, x0)), (1, (0, x1)), (2, (0, x2))]) dec_X11_led.2.2.2.1.2 3 rfl (by decide) rfl ?_
  refine V_goto (tgt := 4) dec_X11_led.2.2.2.2.1 (by decide) ?_
  exact V_pick [1, 2, 3, 0] rfl (hk4 s x0 x1 x2 (w32 (x3 + 1)))
def X11_led_b4_body (rk4 : St → Int → Int → Int → Int → Rs) (s : St) (x0 x1 x2 x3 : Int) : Rs :=
  grd (isK s 21 x0) (grd (isK s 19 (gR s x0 6)) (if (gI s (gR s x0 6) 3) ≤ x3 then (grd (s.1.1 < 1000000) (some (-5, thr s))) else (grd (isK s 21 x0) (grd (isK s 21 x0) (grd (isK s 20 (gR s x0 7)) (grd (isK s 16 (gR s (gR s x0 7) 1)) (grd (isK s 20 (gR s x0 7)) (bnd (X10_isRight s (gR s x0 7) x3 (gI s (gR s (gR s x0 7) 1) 0)) (fun r1 s2 => if ¬ r1 = 0 then (X11_led_b46 rk4 s2 x0 x1 x2 x3) else (if ¬ x2 = x1 then (X11_led_b46 rk4 s2 x0 x1 (w32 (x2 + 1)) x3) else (grd (x3 ≠ -5) (some (x3, s2)))))))))))))
def X11_led_b4 (n : Nat) (s : St) (x0 x1 x2 x3 : Int) : Rs := iter (fun (rec : St × Int × Int × Int × Int → Rs) (a : St × Int × Int × Int × Int) => X11_led_b4_body (fun (s : St) (x0 x1 x2 x3 : Int) => rec (s, x0, x1, x2, x3)) a.1 a.2.1 a.2.2.1 a.2.2.2.1 a.2.2.2.2) n (s, x0, x1, x2, x3)
theorem X11_led_b4_0 (s : St) (x0 x1 x2 x3 : Int) : X11_led_b4 0 s x0 x1 x2 x3 = none := rfl
theorem X11_led_b4_1 (n : Nat) (s : St) (x0 x1 x2 x3 : Int) : X11_led_b4 (n + 1) s x0 x1 x2 x3 = X11_led_b4_body (X11_led_b4 n) s x0 x1 x2 x3 := rfl
set_option maxRecDepth 100000 in
set_option maxHeartbeats 4000000 in
theorem X11_led_b4_body_s (G : Gx) (l : Launch) (hl : l.stackTraces = false) (rk4 : St → Int → Int → Int → Int → Rs) (hk4 : ∀ (s : St) (x0 x1 x2 x3 : Int), VQ (QX G) G l mX11_led 4 [(0, (2, x0)), (1, (0, x1)), (2, (0, x2)), (3, (0, x3))] [] s (rk4 s x0 x1 x2 x3)) (s : St) (x0 x1 x2 x3 : Int) : VQ (QX G) G l mX11_led 4 [(0, (2, x0)), (1, (0, x1)), (2, (0, x2)), (3, (0, x3))] [] s (X11_led_b4_body rk4 s x0 x1 x2 x3) := by
  unfold X11_led_b4_body
  refine V_iload_n dec_X11_led.1.1.2.2.1 3 rfl ?_
  refine V_aload_n dec_X11_led.1.1.2.2.2 0 rfl ?_
  refine V_getR 11 6 nf_11_6 ft_11_6 fl_X11_27 dec_X11_led.1.2.1.1 ?_
  refine V_getI 9 3 nf_9_3 ft_9_3 fl_X11_225 dec_X11_led.1.2.1.2.1 ?_
  refine V_icmp_ge (tgt := 52) dec_X11_led.1.2.1.2.2 (by decide) ?_ ?_
  · exact V_thr hl
  · refine V_aload_n dec_X11_led.1.2.2.1.1 0 rfl ?_
    refine V_getR 11 7 nf_11_7 ft_11_7 fl_X11_36 dec_X11_led.1.2.2.1.2 ?_
    refine V_iload_n dec_X11_led.1.2.2.2.1 3 rfl ?_
    refine V_aload_n dec_X11_led.1.2.2.2.2 0 rfl ?_
    refine V_getR 11 7 nf_11_7 ft_11_7 fl_X11_36 dec_X11_led.2.1.1.1 ?_
    refine V_getR 10 1 nf_10_1 ft_10_1 fl_X11_143 dec_X11_led.2.1.1.2.1 ?_
    refine V_getI 6 0 nf_6_0 ft_6_0 fl_X11_153 dec_X11_led.2.1.1.2.2 ?_
    refine V_callV0 (ci := 10) (a := (gR s x0 7)) (As := [(0, x3), (0, (gI s (gR s (gR s x0 7) 1) 0))]) (st := []) rfl rfl (X10_isRight_s G l s (gR s x0 7) x3 (gI s (gR s (gR s x0 7) 1) 0)) cal_X10_isRight rfl ml_X11_215 rfl rfl dec_X11_led.2.1.2.1.1 (k_tag (tag := 0) rfl fun r1 s2 => ?_)
    refine V_if_ne (tgt := 46) dec_X11_led.2.1.2.1.2 (by decide) ?_ ?_
    · exact V_pick [0, 1, 2, 3] rfl (X11_led_b46_s G l hl rk4 hk4 s2 x0 x1 x2 x3)
    · refine V_iload_n dec_X11_led.2.1.2.2.1 2 rfl ?_
      refine V_iload_n dec_X11_led.2.1.2.2.2 1 rfl ?_
      refine V_icmp_ne (tgt := 43) dec_X11_led.2.2.1.1 (by decide) ?_ ?_
      · refine V_iinc (lv' := [(2, (0, (w32 (x2 + 1)))), (0, (2, x0)), (1, (0, x1)), (3, (0, x3))]) dec_X11_led.2.2.2.1.1 2 rfl (by decide) rfl ?_
        exact V_pick [1, 2, 0, 3] rfl (X11_led_b46_s G l hl rk4 hk4 s2 x0 x1 (w32 (x2 + 1)) x3)
      · refine V_iload_n dec_X11_led.2.2.1.2.1 3 rfl ?_
        exact V_xret rfl dec_X11_led.2.2.1.2.2
theorem X11_led_b4_s (G : Gx) (l : Launch) (hl : l.stackTraces = false) (n : Nat) (s : St) (x0 x1 x2 x3 : Int) : VQ (QX G) G l mX11_led 4 [(0, (2, x0)), (1, (0, x1)), (2, (0, x2)), (3, (0, x3))] [] s (X11_led_b4 n s x0 x1 x2 x3) :=
  V_iter (LV := fun a : St × Int × Int × Int × Int => [(0, (2, a.2.1)), (1, (0, a.2.2.1)), (2, (0, a.2.2.2.1)), (3, (0, a.2.2.2.2))]) (ST := fun a : St × Int × Int × Int × Int => []) (SS := fun a : St × Int × Int × Int × Int => a.1) (fun rec hrec a => X11_led_b4_body_s G l hl (fun (s : St) (x0 x1 x2 x3 : Int) => rec (s, x0, x1, x2, x3)) (fun (s : St) (x0 x1 x2 x3 : Int) => hrec (s, x0, x1, x2, x3)) a.1 a.2.1 a.2.2.1 a.2.2.2.1 a.2.2.2.2) n (s, x0, x1, x2, x3)
def X11_led (s : St) (a0 a1 : Int) : Rs :=
  X11_led_b4 FU s a0 a1 0 0
set_option maxRecDepth 100000 in
set_option maxHeartbeats 4000000 in
theorem X11_led_s (G : Gx) (l : Launch) (hl : l.stackTraces = false) (s : St) (a0 a1 : Int) : SndX G l mX11_led [(2, a0), (0, a1)] s (X11_led s a0 a1) := by
  refine SndX.of (by decide +kernel) rfl ?_
  show VQ (QX G) G l mX11_led 0 [(0, (2, a0)), (1, (0, a1))] [] s _
  unfold X11_led
  refine V_iconst dec_X11_led.1.1.1.1 rfl ?_
  refine V_istore_n (lv' := [(2, (0, 0)), (0, (2, a0)), (1, (0, a1))]) dec_X11_led.1.1.1.2.1 (by decide) rfl ?_
  refine V_iconst dec_X11_led.1.1.1.2.2 rfl ?_
  refine V_istore_n (lv' := [(3, (0, 0)), (2, (0, 0)), (0, (2, a0)), (1, (0, a1))]) dec_X11_led.1.1.2.1 (by decide) rfl ?_
  exact V_pick [2, 3, 1, 0] rfl (X11_led_b4_s G l hl FU s a0 a1 0 0)
