theorem dec_X13_isDigit : (((decode cX13_isDigit 0 = .ok (.iload_n 0, 1) ∧ decode cX13_isDigit 1 = .ok (.bipush 48, 2)) ∧ (decode cX13_isDigit 3 = .ok (.if_icmp .lt 13, 3) ∧ (decode cX13_isDigit 6 = .ok (.iload_n 0, 1) ∧ decode cX13_isDigit 7 = .ok (.bipush 57, 2)))) ∧ ((decode cX13_isDigit 9 = .ok (.if_icmp .gt 7, 3) ∧ decode cX13_isDigit 12 = .ok (.iconst 1, 1)) ∧ (decode cX13_isDigit 13 = .ok (.goto 4, 3) ∧ (decode cX13_isDigit 16 = .ok (.iconst 0, 1) ∧ decode cX13_isDigit 17 = .ok (.ireturn, 1))))) := by decide +kernel
def X13_isDigit_b17 (s : St) (k0 : Int) : Rs :=
  grd (k0 = 0 ∨ k0 = 1) (some (k0, s))
set_option maxRecDepth 100000 in
set_option maxHeartbeats 4000000 in
theorem X13_isDigit_b17_s (G : Gx) (l : Launch) (s : St) (k0 : Int) : V G l mX13_isDigit 17 [] [(0, k0)] s (X13_isDigit_b17 s k0) := by
  unfold X13_isDigit_b17
  exact V_zret rfl dec_X13_isDigit.2.2.2.2
def X13_isDigit_b16 (s : St) : Rs :=
  X13_isDigit_b17 s 0
set_option maxRecDepth 100000 in
set_option maxHeartbeats 4000000 in
theorem X13_isDigit_b16_s (G : Gx) (l : Launch) (s : St) : V G l mX13_isDigit 16 [] [] s (X13_isDigit_b16 s) := by
  unfold X13_isDigit_b16
  refine V_iconst dec_X13_isDigit.2.2.2.1 rfl ?_
  exact V_pick [] rfl (X13_isDigit_b17_s G l s 0)
def X13_isDigit (s : St) (a0 : Int) : Rs :=
  if a0 < (48 : Int) then (X13_isDigit_b16 s) else (if (57 : Int) < a0 then (X13_isDigit_b16 s) else (X13_isDigit_b17 s 1))
set_option maxRecDepth 100000 in
set_option maxHeartbeats 4000000 in
theorem X13_isDigit_s (G : Gx) (l : Launch) (s : St) (a0 : Int) : Snd G l mX13_isDigit [(0, a0)] s (X13_isDigit s a0) := by
  refine Snd.of (by decide +kernel) rfl ?_
  show V G l mX13_isDigit 0 [(0, (0, a0))] [] s _
  unfold X13_isDigit
  refine V_iload_n dec_X13_isDigit.1.1.1 0 rfl ?_
  refine V_bipush dec_X13_isDigit.1.1.2 rfl ?_
  refine V_icmp_lt (tgt := 16) dec_X13_isDigit.1.2.1 (by decide) ?_ ?_
  · exact V_pick [] rfl (X13_isDigit_b16_s G l s)
  · refine V_iload_n dec_X13_isDigit.1.2.2.1 0 rfl ?_
    refine V_bipush dec_X13_isDigit.1.2.2.2 rfl ?_
    refine V_icmp_gt (tgt := 16) dec_X13_isDigit.2.1.1 (by decide) ?_ ?_
    · exact V_pick [] rfl (X13_isDigit_b16_s G l s)
    · refine V_iconst dec_X13_isDigit.2.1.2 rfl ?_
      refine V_goto (tgt := 17) dec_X13_isDigit.2.2.1 (by decide) ?_
      exact V_pick [] rfl (X13_isDigit_b17_s G l s 1)
theorem dec_X13_isLetter : (((decode cX13_isLetter 0 = .ok (.iload_n 0, 1) ∧ decode cX13_isLetter 1 = .ok (.bipush 97, 2)) ∧ (decode cX13_isLetter 3 = .ok (.if_icmp .lt 13, 3) ∧ (decode cX13_isLetter 6 = .ok (.iload_n 0, 1) ∧ decode cX13_isLetter 7 = .ok (.bipush 122, 2)))) ∧ ((decode cX13_isLetter 9 = .ok (.if_icmp .gt 7, 3) ∧ decode cX13_isLetter 12 = .ok (.iconst 1, 1)) ∧ (decode cX13_isLetter 13 = .ok (.goto 4, 3) ∧ (decode cX13_isLetter 16 = .ok (.iconst 0, 1) ∧ decode cX13_isLetter 17 = .ok (.ireturn, 1))))) := by decide +kernel
def X13_isLetter_b17 (s : St) (k0 : Int) : Rs :=
  grd (k0 = 0 ∨ k0 = 1) (some (k0, s))
set_option maxRecDepth 100000 in
set_option maxHeartbeats 4000000 in
theorem X13_isLetter_b17_s (G : Gx) (l : Launch) (s : St) (k0 : Int) : V G l mX13_isLetter 17 [] [(0, k0)] s (X13_isLetter_b17 s k0) := by
  unfold X13_isLetter_b17
  exact V_zret rfl dec_X13_isLetter.2.2.2.2
def X13_isLetter_b16 (s : St) : Rs :=
  X13_isLetter_b17 s 0
set_option maxRecDepth 100000 in
set_option maxHeartbeats 4000000 in
theorem X13_isLetter_b16_s (G : Gx) (l : Launch) (s : St) : V G l mX13_isLetter 16 [] [] s (X13_isLetter_b16 s) := by
  unfold X13_isLetter_b16
  refine V_iconst dec_X13_isLetter.2.2.2.1 rfl ?_
  exact V_pick [] rfl (X13_isLetter_b17_s G l s 0)
def X13_isLetter (s : St) (a0 : Int) : Rs :=
  if a0 < (97 : Int) then (X13_isLetter_b16 s) else (if (122 : Int) < a0 then (X13_isLetter_b16 s) else (X13_isLetter_b17 s 1))
set_option maxRecDepth 100000 in
set_option maxHeartbeats 4000000 in
theorem X13_isLetter_s (G : Gx) (l : Launch) (s : St) (a0 : Int) : Snd G l mX13_isLetter [(0, a0)] s (X13_isLetter s a0) := by
  refine Snd.of (by decide +kernel) rfl ?_
  show V G l mX13_isLetter 0 [(0, (0, a0))] [] s _
  unfold X13_isLetter
  refine V_iload_n dec_X13_isLetter.1.1.1 0 rfl ?_
  refine V_bipush dec_X13_isLetter.1.1.2 rfl ?_
  refine V_icmp_lt (tgt := 16) dec_X13_isLetter.1.2.1 (by decide) ?_ ?_
  · exact V_pick [] rfl (X13_isLetter_b16_s G l s)
  · refine V_iload_n dec_X13_isLetter.1.2.2.1 0 rfl ?_
    refine V_bipush dec_X13_isLetter.1.2.2.2 rfl ?_
    refine V_icmp_gt (tgt := 16) dec_X13_isLetter.2.1.1 (by decide) ?_ ?_
    · exact V_pick [] rfl (X13_isLetter_b16_s G l s)
    · refine V_iconst dec_X13_isLetter.2.1.2 rfl ?_
      refine V_goto (tgt := 17) dec_X13_isLetter.2.2.1 (by decide) ?_
      exact V_pick [] rfl (X13_isLetter_b17_s G l s 1)
theorem dec_X13_goesOn : (((((((decode cX13_goesOn 0 = .ok (.aload_n 0, 1) ∧ decode cX13_goesOn 1 = .ok (.getfield 81, 3)) ∧ (decode cX13_goesOn 4 = .ok (.iconst 5, 1) ∧ decode cX13_goesOn 5 = .ok (.if_icmp .ne 4, 3))) ∧ ((decode cX13_goesOn 8 = .ok (.return_, 1) ∧ decode cX13_goesOn 9 = .ok (.aload_n 0, 1)) ∧ (decode cX13_goesOn 10 = .ok (.aload_n 0, 1) ∧ decode cX13_goesOn 11 = .ok (.getfield 84, 3)))) ∧ (((decode cX13_goesOn 14 = .ok (.invokevirtual 87, 3) ∧ decode cX13_goesOn 17 = .ok (.bipush 32, 2)) ∧ (decode cX13_goesOn 19 = .ok (.if_icmp .ne 16, 3) ∧ decode cX13_goesOn 22 = .ok (.aload_n 0, 1))) ∧ ((decode cX13_goesOn 23 = .ok (.dup, 1) ∧ decode cX13_goesOn 24 = .ok (.getfield 84, 3)) ∧ (decode cX13_goesOn 27 = .ok (.iconst 1, 1) ∧ (decode cX13_goesOn 28 = .ok (.iadd, 1) ∧ decode cX13_goesOn 29 = .ok (.putfield 84, 3)))))) ∧ ((((decode cX13_goesOn 32 = .ok (.goto (-23), 3) ∧ decode cX13_goesOn 35 = .ok (.aload_n 0, 1)) ∧ (decode cX13_goesOn 36 = .ok (.aload_n 0, 1) ∧ decode cX13_goesOn 37 = .ok (.getfield 84, 3))) ∧ ((decode cX13_goesOn 40 = .ok (.putfield 90, 3) ∧ decode cX13_goesOn 43 = .ok (.aload_n 0, 1)) ∧ (decode cX13_goesOn 44 = .ok (.iconst 0, 1) ∧ (decode cX13_goesOn 45 = .ok (.putfield 81, 3) ∧ decode cX13_goesOn 48 = .ok (.aload_n 0, 1))))) ∧ (((decode cX13_goesOn 49 = .ok (.aload_n 0, 1) ∧ decode cX13_goesOn 50 = .ok (.getfield 84, 3)) ∧ (decode cX13_goesOn 53 = .ok (.invokevirtual 87, 3) ∧ decode cX13_goesOn 56 = .ok (.istore_n 1, 1))) ∧ ((decode cX13_goesOn 57 = .ok (.iconst 0, 1) ∧ decode cX13_goesOn 58 = .ok (.istore_n 2, 1)) ∧ (decode cX13_goesOn 59 = .ok (.iload_n 1, 1) ∧ (decode cX13_goesOn 60 = .ok (.iconst (-1), 1) ∧ decode cX13_goesOn 61 = .ok (.if_icmp .ne 11, 3))))))) ∧ (((((decode cX13_goesOn 64 = .ok (.aload_n 0, 1) ∧ decode cX13_goesOn 65 = .ok (.iconst 1, 1)) ∧ (decode cX13_goesOn 66 = .ok (.putfield 81, 3) ∧ decode cX13_goesOn 69 = .ok (.goto 196, 3))) ∧ ((decode cX13_goesOn 72 = .ok (.iload_n 1, 1) ∧ decode cX13_goesOn 73 = .ok (.invokestatic 93, 3)) ∧ (decode cX13_goesOn 76 = .ok (.ifCond .eq 85, 3) ∧ decode cX13_goesOn 79 = .ok (.aload_n 0, 1)))) ∧ (((decode cX13_goesOn 80 = .ok (.lconst 0, 1) ∧ decode cX13_goesOn 81 = .ok (.putfield 97, 3)) ∧ (decode cX13_goesOn 84 = .ok (.aload_n 0, 1) ∧ decode cX13_goesOn 85 = .ok (.aload_n 0, 1))) ∧ ((decode cX13_goesOn 86 = .ok (.getfield 84, 3) ∧ decode cX13_goesOn 89 = .ok (.invokevirtual 87, 3)) ∧ (decode cX13_goesOn 92 = .ok (.invokestatic 93, 3) ∧ (decode cX13_goesOn 95 = .ok (.ifCond .eq 52, 3) ∧ decode cX13_goesOn 98 = .ok (.iload_n 2, 1)))))) ∧ ((((decode cX13_goesOn 99 = .ok (.bipush 8, 2) ∧ decode cX13_goesOn 101 = .ok (.if_icmp .ge 30, 3)) ∧ (decode cX13_goesOn 104 = .ok (.aload_n 0, 1) ∧ decode cX13_goesOn 105 = .ok (.ldc2_w 75, 3))) ∧ ((decode cX13_goesOn 108 = .ok (.aload_n 0, 1) ∧ decode cX13_goesOn 109 = .ok (.getfield 97, 3)) ∧ (decode cX13_goesOn 112 = .ok (.lmul, 1) ∧ (decode cX13_goesOn 113 = .ok (.aload_n 0, 1) ∧ decode cX13_goesOn 114 = .ok (.aload_n 0, 1))))) ∧ (((decode cX13_goesOn 115 = .ok (.getfield 84, 3) ∧ decode cX13_goesOn 118 = .ok (.invokevirtual 87, 3)) ∧ (decode cX13_goesOn 121 = .ok (.bipush 97, 2) ∧ decode cX13_goesOn 123 = .ok (.isub, 1))) ∧ ((decode cX13_goesOn 124 = .ok (.iconst 1, 1) ∧ decode cX13_goesOn 125 = .ok (.iadd, 1)) ∧ (decode cX13_goesOn 126 = .ok (.i2l, 1) ∧ (decode cX13_goesOn 127 = .ok (.ladd, 1) ∧ decode cX13_goesOn 128 = .ok (.putfield 97, 3)))))))) ∧ ((((((decode cX13_goesOn 131 = .ok (.iinc 2 1, 3) ∧ decode cX13_goesOn 134 = .ok (.aload_n 0, 1)) ∧ (decode cX13_goesOn 135 = .ok (.dup, 1) ∧ decode cX13_goesOn 136 = .ok (.getfield 84, 3))) ∧ ((decode cX13_goesOn 139 = .ok (.iconst 1, 1) ∧ decode cX13_goesOn 140 = .ok (.iadd, 1)) ∧ (decode cX13_goesOn 141 = .ok (.putfield 84, 3) ∧ decode cX13_goesOn 144 = .ok (.goto (-60), 3)))) ∧ (((decode cX13_goesOn 147 = .ok (.iload_n 2, 1) ∧ decode cX13_goesOn 148 = .ok (.bipush 8, 2)) ∧ (decode cX13_goesOn 150 = .ok (.if_icmp .gt 115, 3) ∧ decode cX13_goesOn 153 = .ok (.aload_n 0, 1))) ∧ ((decode cX13_goesOn 154 = .ok (.iconst 2, 1) ∧ decode cX13_goesOn 155 = .ok (.putfield 81, 3)) ∧ (decode cX13_goesOn 158 = .ok (.goto 107, 3) ∧ (decode cX13_goesOn 161 = .ok (.iload_n 1, 1) ∧ decode cX13_goesOn 162 = .ok (.invokestatic 101, 3)))))) ∧ ((((decode cX13_goesOn 165 = .ok (.ifCond .eq 79, 3) ∧ decode cX13_goesOn 168 = .ok (.aload_n 0, 1)) ∧ (decode cX13_goesOn 169 = .ok (.iconst 0, 1) ∧ decode cX13_goesOn 170 = .ok (.putfield 104, 3))) ∧ ((decode cX13_goesOn 173 = .ok (.aload_n 0, 1) ∧ decode cX13_goesOn 174 = .ok (.aload_n 0, 1)) ∧ (decode cX13_goesOn 175 = .ok (.getfield 84, 3) ∧ (decode cX13_goesOn 178 = .ok (.invokevirtual 87, 3) ∧ decode cX13_goesOn 181 = .ok (.invokestatic 101, 3))))) ∧ (((decode cX13_goesOn 184 = .ok (.ifCond .eq 47, 3) ∧ decode cX13_goesOn 187 = .ok (.iload_n 2, 1)) ∧ (decode cX13_goesOn 188 = .ok (.iconst 3, 1) ∧ decode cX13_goesOn 189 = .ok (.if_icmp .ge 26, 3))) ∧ ((decode cX13_goesOn 192 = .ok (.aload_n 0, 1) ∧ decode cX13_goesOn 193 = .ok (.bipush 10, 2)) ∧ (decode cX13_goesOn 195 = .ok (.aload_n 0, 1) ∧ (decode cX13_goesOn 196 = .ok (.getfield 104, 3) ∧ decode cX13_goesOn 199 = .ok (.imul, 1))))))) ∧ (((((decode cX13_goesOn 200 = .ok (.aload_n 0, 1) ∧ decode cX13_goesOn 201 = .ok (.aload_n 0, 1)) ∧ (decode cX13_goesOn 202 = .ok (.getfield 84, 3) ∧ decode cX13_goesOn 205 = .ok (.invokevirtual 87, 3))) ∧ ((decode cX13_goesOn 208 = .ok (.iadd, 1) ∧ decode cX13_goesOn 209 = .ok (.bipush 48, 2)) ∧ (decode cX13_goesOn 211 = .ok (.isub, 1) ∧ (decode cX13_goesOn 212 = .ok (.putfield 104, 3) ∧ decode cX13_goesOn 215 = .ok (.iinc 2 1, 3))))) ∧ (((decode cX13_goesOn 218 = .ok (.aload_n 0, 1) ∧ decode cX13_goesOn 219 = .ok (.dup, 1)) ∧ (decode cX13_goesOn 220 = .ok (.getfield 84, 3) ∧ decode cX13_goesOn 223 = .ok (.iconst 1, 1))) ∧ ((decode cX13_goesOn 224 = .ok (.iadd, 1) ∧ decode cX13_goesOn 225 = .ok (.putfield 84, 3)) ∧ (decode cX13_goesOn 228 = .ok (.goto (-55), 3) ∧ (decode cX13_goesOn 231 = .ok (.iload_n 2, 1) ∧ decode cX13_goesOn 232 = .ok (.iconst 3, 1)))))) ∧ ((((decode cX13_goesOn 233 = .ok (.if_icmp .gt 32, 3) ∧ decode cX13_goesOn 236 = .ok (.aload_n 0, 1)) ∧ (decode cX13_goesOn 237 = .ok (.iconst 3, 1) ∧ decode cX13_goesOn 238 = .ok (.putfield 81, 3))) ∧ ((decode cX13_goesOn 241 = .ok (.goto 24, 3) ∧ decode cX13_goesOn 244 = .ok (.iload_n 1, 1)) ∧ (decode cX13_goesOn 245 = .ok (.bipush 59, 2) ∧ (decode cX13_goesOn 247 = .ok (.if_icmp .ne 18, 3) ∧ decode cX13_goesOn 250 = .ok (.aload_n 0, 1))))) ∧ (((decode cX13_goesOn 251 = .ok (.iconst 4, 1) ∧ decode cX13_goesOn 252 = .ok (.putfield 81, 3)) ∧ (decode cX13_goesOn 255 = .ok (.aload_n 0, 1) ∧ decode cX13_goesOn 256 = .ok (.dup, 1))) ∧ ((decode cX13_goesOn 257 = .ok (.getfield 84, 3) ∧ decode cX13_goesOn 260 = .ok (.iconst 1, 1)) ∧ (decode cX13_goesOn 261 = .ok (.iadd, 1) ∧ (decode cX13_goesOn 262 = .ok (.putfield 84, 3) ∧ decode cX13_goesOn 265 = .ok (.return_, 1))))))))) := ⟨⟨⟨⟨by decide +kernel, by decide +kernel⟩, ⟨by decide +kernel, by decide +kernel⟩⟩, ⟨⟨by decide +kernel, by decide +kernel⟩, ⟨by decide +kernel, by decide +kernel⟩⟩⟩, ⟨⟨⟨by decide +kernel, by decide +kernel⟩, ⟨by decide +kernel, by decide +kernel⟩⟩, ⟨⟨by decide +kernel, by decide +kernel⟩, ⟨by decide +kernel, by decide +kernel⟩⟩⟩⟩
def X13_goesOn_b265 (s : St) : Rs :=
  some (0, s)
set_option maxRecDepth 100000 in
set_option maxHeartbeats 4000000 in
theorem X13_goesOn_b265_s (G : Gx) (l : Launch) (s : St) : V G l mX13_goesOn 265 [] [] s (X13_goesOn_b265 s) := by
  unfold X13_goesOn_b265
  exact V_vret rfl dec_X13_goesOn.2.2.2.2.2.2.2.2
def X13_goesOn_b215 (rk173 : St → Int → Int → Rs) (s : St) (x0 x2 : Int) : Rs :=
  grd (isK s 23 x0) (grd (isK s 23 x0) (lets (pI s x0 8 (w32 ((gI s x0 8) + 1))) (fun s19 => rk173 s19 x0 (w32 (x2 + 1)))))
set_option maxRecDepth 100000 in
set_option maxHeartbeats 4000000 in
theorem X13_goesOn_b215_s (G : Gx) (l : Launch) (rk173 : St → Int → Int → Rs) (hk173 : ∀ (s : St) (x0 x2 : Int), V G l mX13_goesOn 173 [(0, (2, x0)), (2, (0, x2))] [] s (rk173 s x0 x2)) (s : St) (x0 x2 : Int) : V G l mX13_goesOn 215 [(0, (2, x0)), (2, (0, x2))] [] s (X13_goesOn_b215 rk173 s x0 x2) := by
  unfold X13_goesOn_b215
  refine V_iinc (lv' := [(2, (0, (w32 (x2 + 1)))), (0, (2, x0))]) dec_X13_goesOn.2.2.1.1.2.2.2.2 1 rfl (by decide) rfl ?_
  refine V_aload_n dec_X13_goesOn.2.2.1.2.1.1.1 1 rfl ?_
  refine V_dup (nl2 _) dec_X13_goesOn.2.2.1.2.1.1.2 ?_
  refine V_getI 13 8 nf_13_8 ft_13_8 fl_X13_84 dec_X13_goesOn.2.2.1.2.1.2.1 ?_
  refine V_iconst dec_X13_goesOn.2.2.1.2.1.2.2 rfl ?_
  refine V_iadd dec_X13_goesOn.2.2.1.2.2.1.1 ?_
  refine V_putI (host := "") 13 8 nf_13_8 ty_13_8 (Or.inl ⟨fl_X13_84, Or.inl rfl⟩) dec_X13_goesOn.2.2.1.2.2.1.2 ?_
  refine V_lets fun s19 => ?_
  refine V_goto (tgt := 173) dec_X13_goesOn.2.2.1.2.2.2.1 (by decide) ?_
  exact V_pick [1, 0] rfl (hk173 s19 x0 (w32 (x2 + 1)))
def X13_goesOn_b173_body (rk173 : St → Int → Int → Rs) (s : St) (x0 x2 : Int) : Rs :=
  grd (isK s 23 x0) (grd (isK s 23 x0) (bnd (X13_byteAt s x0 (gI s x0 8)) (fun r14 s15 => bnd (X13_isDigit s15 r14) (fun r16 s17 => if r16 = 0 then (if (3 : Int) < x2 then (X13_goesOn_b265 s17) else (grd (isK s17 23 x0) (lets (pI s17 x0 9 3) (fun s18 => X13_goesOn_b265 s18)))) else (if (3 : Int) ≤ x2 then (X13_goesOn_b215 rk173 s17 x0 x2) else (grd (isK s17 23 x0) (grd (isK s17 23 x0) (grd (isK s17 23 x0) (bnd (X13_byteAt s17 x0 (gI s17 x0 8)) (fun r20 s21 => grd (isK s21 23 x0) (lets (pI s21 x0 11 (w32 ((w32 ((w32 (10 * (gI s17 x0 11))) + r20)) - 48))) (fun s22 => X13_goesOn_b215 rk173 s22 x0 x2))))))))))))
def X13_goesOn_b173 (n : Nat) (s : St) (x0 x2 : Int) : Rs := iter (fun (rec : St × Int × Int → Rs) (a : St × Int × Int) => X13_goesOn_b173_body (fun (s : St) (x0 x2 : Int) => rec (s, x0, x2)) a.1 a.2.1 a.2.2) n (s, x0, x2)
theorem X13_goesOn_b173_0 (s : St) (x0 x2 : Int) : X13_goesOn_b173 0 s x0 x2 = none := rfl
theorem X13_goesOn_b173_1 (n : Nat) (s : St) (x0 x2 : Int) : X13_goesOn_b173 (n + 1) s x0 x2 = X13_goesOn_b173_body (X13_goesOn_b173 n) s x0 x2 := rfl
set_option maxRecDepth 100000 in
set_option maxHeartbeats 4000000 in
theorem X13_goesOn_b173_body_s (G : Gx) (l : Launch) (rk173 : St → Int → Int → Rs) (hk173 : ∀ (s : St) (x0 x2 : Int), V G l mX13_goesOn 173 [(0, (2, x0)), (2, (0, x2))] [] s (rk173 s x0 x2)) (s : St) (x0 x2 : Int) : V G l mX13_goesOn 173 [(0, (2, x0)), (2, (0, x2))] [] s (X13_goesOn_b173_body rk173 s x0 x2) := by
  unfold X13_goesOn_b173_body
  refine V_aload_n dec_X13_goesOn.2.1.2.1.2.1.1 0 rfl ?_
  refine V_aload_n dec_X13_goesOn.2.1.2.1.2.1.2 0 rfl ?_
  refine V_getI 13 8 nf_13_8 ft_13_8 fl_X13_84 dec_X13_goesOn.2.1.2.1.2.2.1 ?_
  refine V_callV0 (ci := 13) (a := x0) (As := [(0, (gI s x0 8))]) (st := []) rfl rfl (X13_byteAt_s G l s x0 (gI s x0 8)) cal_X13_byteAt rfl ml_X13_87 rfl rfl dec_X13_goesOn.2.1.2.1.2.2.2.1 (k_tag (tag := 0) rfl fun r14 s15 => ?_)
  refine V_callS0 (As := [(0, r14)]) (st := []) (host := "") rfl (X13_isDigit_s G l s15 r14) cal_X13_isDigit rfl (Or.inl ml_X13_101) rfl rfl dec_X13_goesOn.2.1.2.1.2.2.2.2 (k_tag (tag := 0) rfl fun r16 s17 => ?_)
  refine V_if_eq (tgt := 231) dec_X13_goesOn.2.1.2.2.1.1.1 (by decide) ?_ ?_
  · refine V_iload_n dec_X13_goesOn.2.2.1.2.2.2.2.1 1 rfl ?_
    refine V_iconst dec_X13_goesOn.2.2.1.2.2.2.2.2 rfl ?_
    refine V_icmp_gt (tgt := 265) dec_X13_goesOn.2.2.2.1.1.1.1 (by decide) ?_ ?_
    · exact V_pick [] rfl (X13_goesOn_b265_s G l s17)
    · refine V_aload_n dec_X13_goesOn.2.2.2.1.1.1.2 0 rfl ?_
      refine V_iconst dec_X13_goesOn.2.2.2.1.1.2.1 rfl ?_
      refine V_putI (host := "") 13 9 nf_13_9 ty_13_9 (Or.inl ⟨fl_X13_81, Or.inl rfl⟩) dec_X13_goesOn.2.2.2.1.1.2.2 ?_
      refine V_lets fun s18 => ?_
      refine V_goto (tgt := 265) dec_X13_goesOn.2.2.2.1.2.1.1 (by decide) ?_
      exact V_pick [] rfl (X13_goesOn_b265_s G l s18)
  · refine V_iload_n dec_X13_goesOn.2.1.2.2.1.1.2 1 rfl ?_
    refine V_iconst dec_X13_goesOn.2.1.2.2.1.2.1 rfl ?_
    refine V_icmp_ge (tgt := 215) dec_X13_goesOn.2.1.2.2.1.2.2 (by decide) ?_ ?_
    · exact V_pick [0, 1] rfl (X13_goesOn_b215_s G l rk173 hk173 s17 x0 x2)
    · refine V_aload_n dec_X13_goesOn.2.1.2.2.2.1.1 0 rfl ?_
      refine V_bipush dec_X13_goesOn.2.1.2.2.2.1.2 rfl ?_
      refine V_aload_n dec_X13_goesOn.2.1.2.2.2.2.1 0 rfl ?_
      refine V_getI 13 11 nf_13_11 ft_13_11 fl_X13_104 dec_X13_goesOn.2.1.2.2.2.2.2.1 ?_
      refine V_imul dec_X13_goesOn.2.1.2.2.2.2.2.2 ?_
      refine V_aload_n dec_X13_goesOn.2.2.1.1.1.1.1 0 rfl ?_
      refine V_aload_n dec_X13_goesOn.2.2.1.1.1.1.2 0 rfl ?_
      refine V_getI 13 8 nf_13_8 ft_13_8 fl_X13_84 dec_X13_goesOn.2.2.1.1.1.2.1 ?_
      refine V_callV0 (ci := 13) (a := x0) (As := [(0, (gI s17 x0 8))]) (st := [(0, (w32 (10 * (gI s17 x0 11)))), (2, x0)]) rfl rfl (X13_byteAt_s G l s17 x0 (gI s17 x0 8)) cal_X13_byteAt rfl ml_X13_87 rfl rfl dec_X13_goesOn.2.2.1.1.1.2.2 (k_tag (tag := 0) rfl fun r20 s21 => ?_)
      refine V_iadd dec_X13_goesOn.2.2.1.1.2.1.1 ?_
      refine V_bipush dec_X13_goesOn.2.2.1.1.2.1.2 rfl ?_
      refine V_isub dec_X13_goesOn.2.2.1.1.2.2.1 ?_
      refine V_putI (host := "") 13 11 nf_13_11 ty_13_11 (Or.inl ⟨fl_X13_104, Or.inl rfl⟩) dec_X13_goesOn.2.2.1.1.2.2.2.1 ?_
      refine V_lets fun s22 => ?_
      exact V_pick [0, 1] rfl (X13_goesOn_b215_s G l rk173 hk173 s22 x0 x2)
theorem X13_goesOn_b173_s (G : Gx) (l : Launch) (n : Nat) (s : St) (x0 x2 : Int) : V G l mX13_goesOn 173 [(0, (2, x0)), (2, (0, x2))] [] s (X13_goesOn_b173 n s x0 x2) :=
  V_iter (LV := fun a : St × Int × Int => [(0, (2, a.2.1)), (2, (0, a.2.2))]) (ST := fun a : St × Int × Int => []) (SS := fun a : St × Int × Int => a.1) (fun rec hrec a => X13_goesOn_b173_body_s G l (fun (s : St) (x0 x2 : Int) => rec (s, x0, x2)) (fun (s : St) (x0 x2 : Int) => hrec (s, x0, x2)) a.1 a.2.1 a.2.2) n (s, x0, x2)
def X13_goesOn_b131 (rk84 : St → Int → Int → Rs) (s : St) (x0 x2 : Int) : Rs :=
  grd (isK s 23 x0) (grd (isK s 23 x0) (lets (pI s x0 8 (w32 ((gI s x0 8) + 1))) (fun s29 => rk84 s29 x0 (w32 (x2 + 1)))))
set_option maxRecDepth 100000 in
set_option maxHeartbeats 4000000 in
theorem X13_goesOn_b131_s (G : Gx) (l : Launch) (rk84 : St → Int → Int → Rs) (hk84 : ∀ (s : St) (x0 x2 : Int), V G l mX13_goesOn 84 [(0, (2, x0)), (2, (0, x2))] [] s (rk84 s x0 x2)) (s : St) (x0 x2 : Int) : V G l mX13_goesOn 131 [(0, (2, x0)), (2, (0, x2))] [] s (X13_goesOn_b131 rk84 s x0 x2) := by
  unfold X13_goesOn_b131
  refine V_iinc (lv' := [(2, (0, (w32 (x2 + 1)))), (0, (2, x0))]) dec_X13_goesOn.2.1.1.1.1.1.1 1 rfl (by decide) rfl ?_
  refine V_aload_n dec_X13_goesOn.2.1.1.1.1.1.2 1 rfl ?_
  refine V_dup (nl2 _) dec_X13_goesOn.2.1.1.1.1.2.1 ?_
  refine V_getI 13 8 nf_13_8 ft_13_8 fl_X13_84 dec_X13_goesOn.2.1.1.1.1.2.2 ?_
  refine V_iconst dec_X13_goesOn.2.1.1.1.2.1.1 rfl ?_
  refine V_iadd dec_X13_goesOn.2.1.1.1.2.1.2 ?_
  refine V_putI (host := "") 13 8 nf_13_8 ty_13_8 (Or.inl ⟨fl_X13_84, Or.inl rfl⟩) dec_X13_goesOn.2.1.1.1.2.2.1 ?_
  refine V_lets fun s29 => ?_
  refine V_goto (tgt := 84) dec_X13_goesOn.2.1.1.1.2.2.2 (by decide) ?_
  exact V_pick [1, 0] rfl (hk84 s29 x0 (w32 (x2 + 1)))
def X13_goesOn_b84_body (rk84 : St → Int → Int → Rs) (s : St) (x0 x2 : Int) : Rs :=
  grd (isK s 23 x0) (grd (isK s 23 x0) (bnd (X13_byteAt s x0 (gI s x0 8)) (fun r24 s25 => bnd (X13_isLetter s25 r24) (fun r26 s27 => if r26 = 0 then (if (8 : Int) < x2 then (X13_goesOn_b265 s27) else (grd (isK s27 23 x0) (lets (pI s27 x0 9 2) (fun s28 => X13_goesOn_b265 s28)))) else (if (8 : Int) ≤ x2 then (X13_goesOn_b131 rk84 s27 x0 x2) else (grd (isK s27 23 x0) (grd (isK s27 23 x0) (grd (isK s27 23 x0) (bnd (X13_byteAt s27 x0 (gI s27 x0 8)) (fun r30 s31 => grd (isK s31 23 x0) (lets (pI s31 x0 14 (w64 ((w64 (32 * (gI s27 x0 14))) + (w32 ((w32 (r30 - 97)) + 1))))) (fun s32 => X13_goesOn_b131 rk84 s32 x0 x2))))))))))))
def X13_goesOn_b84 (n : Nat) (s : St) (x0 x2 : Int) : Rs := iter (fun (rec : St × Int × Int → Rs) (a : St × Int × Int) => X13_goesOn_b84_body (fun (s : St) (x0 x2 : Int) => rec (s, x0, x2)) a.1 a.2.1 a.2.2) n (s, x0, x2)
theorem X13_goesOn_b84_0 (s : St) (x0 x2 : Int) : X13_goesOn_b84 0 s x0 x2 = none := rfl
theorem X13_goesOn_b84_1 (n : Nat) (s : St) (x0 x2 : Int) : X13_goesOn_b84 (n + 1) s x0 x2 = X13_goesOn_b84_body (X13_goesOn_b84 n) s x0 x2 := rfl
set_option maxRecDepth 100000 in
set_option maxHeartbeats 4000000 in
theorem X13_goesOn_b84_body_s (G : Gx) (l : Launch) (rk84 : St → Int → Int → Rs) (hk84 : ∀ (s : St) (x0 x2 : Int), V G l mX13_goesOn 84 [(0, (2, x0)), (2, (0, x2))] [] s (rk84 s x0 x2)) (s : St) (x0 x2 : Int) : V G l mX13_goesOn 84 [(0, (2, x0)), (2, (0, x2))] [] s (X13_goesOn_b84_body rk84 s x0 x2) := by
  unfold X13_goesOn_b84_body
  refine V_aload_n dec_X13_goesOn.1.2.1.2.1.2.1 0 rfl ?_
  refine V_aload_n dec_X13_goesOn.1.2.1.2.1.2.2 0 rfl ?_
  refine V_getI 13 8 nf_13_8 ft_13_8 fl_X13_84 dec_X13_goesOn.1.2.1.2.2.1.1 ?_
  refine V_callV0 (ci := 13) (a := x0) (As := [(0, (gI s x0 8))]) (st := []) rfl rfl (X13_byteAt_s G l s x0 (gI s x0 8)) cal_X13_byteAt rfl ml_X13_87 rfl rfl dec_X13_goesOn.1.2.1.2.2.1.2 (k_tag (tag := 0) rfl fun r24 s25 => ?_)
  refine V_callS0 (As := [(0, r24)]) (st := []) (host := "") rfl (X13_isLetter_s G l s25 r24) cal_X13_isLetter rfl (Or.inl ml_X13_93) rfl rfl dec_X13_goesOn.1.2.1.2.2.2.1 (k_tag (tag := 0) rfl fun r26 s27 => ?_)
  refine V_if_eq (tgt := 147) dec_X13_goesOn.1.2.1.2.2.2.2.1 (by decide) ?_ ?_
  · refine V_iload_n dec_X13_goesOn.2.1.1.2.1.1.1 1 rfl ?_
    refine V_bipush dec_X13_goesOn.2.1.1.2.1.1.2 rfl ?_
    refine V_icmp_gt (tgt := 265) dec_X13_goesOn.2.1.1.2.1.2.1 (by decide) ?_ ?_
    · exact V_pick [] rfl (X13_goesOn_b265_s G l s27)
    · refine V_aload_n dec_X13_goesOn.2.1.1.2.1.2.2 0 rfl ?_
      refine V_iconst dec_X13_goesOn.2.1.1.2.2.1.1 rfl ?_
      refine V_putI (host := "") 13 9 nf_13_9 ty_13_9 (Or.inl ⟨fl_X13_81, Or.inl rfl⟩) dec_X13_goesOn.2.1.1.2.2.1.2 ?_
      refine V_lets fun s28 => ?_
      refine V_goto (tgt := 265) dec_X13_goesOn.2.1.1.2.2.2.1 (by decide) ?_
      exact V_pick [] rfl (X13_goesOn_b265_s G l s28)
  · refine V_iload_n dec_X13_goesOn.1.2.1.2.2.2.2.2 1 rfl ?_
    refine V_bipush dec_X13_goesOn.1.2.2.1.1.1.1 rfl ?_
    refine V_icmp_ge (tgt := 131) dec_X13_goesOn.1.2.2.1.1.1.2 (by decide) ?_ ?_
    · exact V_pick [0, 1] rfl (X13_goesOn_b131_s G l rk84 hk84 s27 x0 x2)
    · refine V_aload_n dec_X13_goesOn.1.2.2.1.1.2.1 0 rfl ?_
      refine V_ldc2 (n := 32) cw_X13_75 (by decide) dec_X13_goesOn.1.2.2.1.1.2.2 ?_
      refine V_aload_n dec_X13_goesOn.1.2.2.1.2.1.1 0 rfl ?_
      refine V_getL 13 14 nf_13_14 ft_13_14 fl_X13_97 dec_X13_goesOn.1.2.2.1.2.1.2 ?_
      refine V_lmul dec_X13_goesOn.1.2.2.1.2.2.1 ?_
      refine V_aload_n dec_X13_goesOn.1.2.2.1.2.2.2.1 0 rfl ?_
      refine V_aload_n dec_X13_goesOn.1.2.2.1.2.2.2.2 0 rfl ?_
      refine V_getI 13 8 nf_13_8 ft_13_8 fl_X13_84 dec_X13_goesOn.1.2.2.2.1.1.1 ?_
      refine V_callV0 (ci := 13) (a := x0) (As := [(0, (gI s27 x0 8))]) (st := [(1, (w64 (32 * (gI s27 x0 14)))), (2, x0)]) rfl rfl (X13_byteAt_s G l s27 x0 (gI s27 x0 8)) cal_X13_byteAt rfl ml_X13_87 rfl rfl dec_X13_goesOn.1.2.2.2.1.1.2 (k_tag (tag := 0) rfl fun r30 s31 => ?_)
      refine V_bipush dec_X13_goesOn.1.2.2.2.1.2.1 rfl ?_
      refine V_isub dec_X13_goesOn.1.2.2.2.1.2.2 ?_
      refine V_iconst dec_X13_goesOn.1.2.2.2.2.1.1 rfl ?_
      refine V_iadd dec_X13_goesOn.1.2.2.2.2.1.2 ?_
      refine V_i2l dec_X13_goesOn.1.2.2.2.2.2.1 ?_
      refine V_ladd dec_X13_goesOn.1.2.2.2.2.2.2.1 ?_
      refine V_putL (host := "") 13 14 nf_13_14 ty_13_14 (Or.inl ⟨fl_X13_97, Or.inl rfl⟩) dec_X13_goesOn.1.2.2.2.2.2.2.2 ?_
      refine V_lets fun s32 => ?_
      exact V_pick [0, 1] rfl (X13_goesOn_b131_s G l rk84 hk84 s32 x0 x2)
theorem X13_goesOn_b84_s (G : Gx) (l : Launch) (n : Nat) (s : St) (x0 x2 : Int) : V G l mX13_goesOn 84 [(0, (2, x0)), (2, (0, x2))] [] s (X13_goesOn_b84 n s x0 x2) :=
  V_iter (LV := fun a : St × Int × Int => [(0, (2, a.2.1)), (2, (0, a.2.2))]) (ST := fun a : St × Int × Int => []) (SS := fun a : St × Int × Int => a.1) (fun rec hrec a => X13_goesOn_b84_body_s G l (fun (s : St) (x0 x2 : Int) => rec (s, x0, x2)) (fun (s : St) (x0 x2 : Int) => hrec (s, x0, x2)) a.1 a.2.1 a.2.2) n (s, x0, x2)
def X13_goesOn_b9_body (rk9 : St → Int → Rs) (s : St) (x0 : Int) : Rs :=
  grd (isK s 23 x0) (grd (isK s 23 x0) (bnd (X13_byteAt s x0 (gI s x0 8)) (fun r1 s2 => if ¬ r1 = (32 : Int) then (grd (isK s2 23 x0) (grd (isK s2 23 x0) (lets (pI s2 x0 10 (gI s2 x0 8)) (fun s3 => grd (isK s3 23 x0) (lets (pI s3 x0 9 0) (fun s4 => grd (isK s4 23 x0) (grd (isK s4 23 x0) (bnd (X13_byteAt s4 x0 (gI s4 x0 8)) (fun r5 s6 => if ¬ r5 = ((-1) : Int) then (bnd (X13_isLetter s6 r5) (fun r7 s8 => if r7 = 0 then (bnd (X13_isDigit s8 r5) (fun r9 s10 => if r9 = 0 then (if ¬ r5 = (59 : Int) then (X13_goesOn_b265 s10) else (grd (isK s10 23 x0) (lets (pI s10 x0 9 4) (fun s11 => grd (isK s11 23 x0) (grd (isK s11 23 x0) (lets (pI s11 x0 8 (w32 ((gI s11 x0 8) + 1))) (fun s12 => X13_goesOn_b265 s12))))))) else (grd (isK s10 23 x0) (lets (pI s10 x0 11 0) (fun s13 => X13_goesOn_b173 FU s13 x0 0))))) else (grd (isK s8 23 x0) (lets (pI s8 x0 14 0) (fun s23 => X13_goesOn_b84 FU s23 x0 0))))) else (grd (isK s6 23 x0) (lets (pI s6 x0 9 1) (fun s33 => X13_goesOn_b265 s33)))))))))))) else (grd (isK s2 23 x0) (grd (isK s2 23 x0) (lets (pI s2 x0 8 (w32 ((gI s2 x0 8) + 1))) (fun s34 => rk9 s34 x0)))))))
def X13_goesOn_b9 (n : Nat) (s : St) (x0 : Int) : Rs := iter (fun (rec : St × Int → Rs) (a : St × Int) => X13_goesOn_b9_body (fun (s : St) (x0 : Int) => rec (s, x0)) a.1 a.2) n (s, x0)
theorem X13_goesOn_b9_0 (s : St) (x0 : Int) : X13_goesOn_b9 0 s x0 = none := rfl
theorem X13_goesOn_b9_1 (n : Nat) (s : St) (x0 : Int) : X13_goesOn_b9 (n + 1) s x0 = X13_goesOn_b9_body (X13_goesOn_b9 n) s x0 := rfl
set_option maxRecDepth 100000 in
set_option maxHeartbeats 4000000 in
theorem X13_goesOn_b9_body_s (G : Gx) (l : Launch) (rk9 : St → Int → Rs) (hk9 : ∀ (s : St) (x0 : Int), V G l mX13_goesOn 9 [(0, (2, x0))] [] s (rk9 s x0)) (s : St) (x0 : Int) : V G l mX13_goesOn 9 [(0, (2, x0))] [] s (X13_goesOn_b9_body rk9 s x0) := by
  unfold X13_goesOn_b9_body
  refine V_aload_n dec_X13_goesOn.1.1.1.1.2.1.2 0 rfl ?_
  refine V_aload_n dec_X13_goesOn.1.1.1.1.2.2.1 0 rfl ?_
  refine V_getI 13 8 nf_13_8 ft_13_8 fl_X13_84 dec_X13_goesOn.1.1.1.1.2.2.2 ?_
  refine V_callV0 (ci := 13) (a := x0) (As := [(0, (gI s x0 8))]) (st := []) rfl rfl (X13_byteAt_s G l s x0 (gI s x0 8)) cal_X13_byteAt rfl ml_X13_87 rfl rfl dec_X13_goesOn.1.1.1.2.1.1.1 (k_tag (tag := 0) rfl fun r1 s2 => ?_)
  refine V_bipush dec_X13_goesOn.1.1.1.2.1.1.2 rfl ?_
  refine V_icmp_ne (tgt := 35) dec_X13_goesOn.1.1.1.2.1.2.1 (by decide) ?_ ?_
  · refine V_aload_n dec_X13_goesOn.1.1.2.1.1.1.2 0 rfl ?_
    refine V_aload_n dec_X13_goesOn.1.1.2.1.1.2.1 0 rfl ?_
    refine V_getI 13 8 nf_13_8 ft_13_8 fl_X13_84 dec_X13_goesOn.1.1.2.1.1.2.2 ?_
    refine V_putI (host := "") 13 10 nf_13_10 ty_13_10 (Or.inl ⟨fl_X13_90, Or.inl rfl⟩) dec_X13_goesOn.1.1.2.1.2.1.1 ?_
    refine V_lets fun s3 => ?_
    refine V_aload_n dec_X13_goesOn.1.1.2.1.2.1.2 0 rfl ?_
    refine V_iconst dec_X13_goesOn.1.1.2.1.2.2.1 rfl ?_
    refine V_putI (host := "") 13 9 nf_13_9 ty_13_9 (Or.inl ⟨fl_X13_81, Or.inl rfl⟩) dec_X13_goesOn.1.1.2.1.2.2.2.1 ?_
    refine V_lets fun s4 => ?_
    refine V_aload_n dec_X13_goesOn.1.1.2.1.2.2.2.2 0 rfl ?_
    refine V_aload_n dec_X13_goesOn.1.1.2.2.1.1.1 0 rfl ?_
    refine V_getI 13 8 nf_13_8 ft_13_8 fl_X13_84 dec_X13_goesOn.1.1.2.2.1.1.2 ?_
    refine V_callV0 (ci := 13) (a := x0) (As := [(0, (gI s4 x0 8))]) (st := []) rfl rfl (X13_byteAt_s G l s4 x0 (gI s4 x0 8)) cal_X13_byteAt rfl ml_X13_87 rfl rfl dec_X13_goesOn.1.1.2.2.1.2.1 (k_tag (tag := 0) rfl fun r5 s6 => ?_)
    refine V_istore_n (lv' := [(1, (0, r5)), (0, (2, x0))]) dec_X13_goesOn.1.1.2.2.1.2.2 (by decide) rfl ?_
    refine V_iconst dec_X13_goesOn.1.1.2.2.2.1.1 rfl ?_
    refine V_istore_n (lv' := [(2, (0, 0)), (1, (0, r5)), (0, (2, x0))]) dec_X13_goesOn.1.1.2.2.2.1.2 (by decide) rfl ?_
    refine V_iload_n dec_X13_goesOn.1.1.2.2.2.2.1 1 rfl ?_
    refine V_iconst dec_X13_goesOn.1.1.2.2.2.2.2.1 rfl ?_
    refine V_icmp_ne (tgt := 72) dec_X13_goesOn.1.1.2.2.2.2.2.2 (by decide) ?_ ?_
    · refine V_iload_n dec_X13_goesOn.1.2.1.1.2.1.1 1 rfl ?_
      refine V_callS0 (As := [(0, r5)]) (st := []) (host := "") rfl (X13_isLetter_s G l s6 r5) cal_X13_isLetter rfl (Or.inl ml_X13_93) rfl rfl dec_X13_goesOn.1.2.1.1.2.1.2 (k_tag (tag := 0) rfl fun r7 s8 => ?_)
      refine V_if_eq (tgt := 161) dec_X13_goesOn.1.2.1.1.2.2.1 (by decide) ?_ ?_
      · refine V_iload_n dec_X13_goesOn.2.1.1.2.2.2.2.1 1 rfl ?_
        refine V_callS0 (As := [(0, r5)]) (st := []) (host := "") rfl (X13_isDigit_s G l s8 r5) cal_X13_isDigit rfl (Or.inl ml_X13_101) rfl rfl dec_X13_goesOn.2.1.1.2.2.2.2.2 (k_tag (tag := 0) rfl fun r9 s10 => ?_)
        refine V_if_eq (tgt := 244) dec_X13_goesOn.2.1.2.1.1.1.1 (by decide) ?_ ?_
        · refine V_iload_n dec_X13_goesOn.2.2.2.1.2.1.2 1 rfl ?_
          refine V_bipush dec_X13_goesOn.2.2.2.1.2.2.1 rfl ?_
          refine V_icmp_ne (tgt := 265) dec_X13_goesOn.2.2.2.1.2.2.2.1 (by decide) ?_ ?_
          · exact V_pick [] rfl (X13_goesOn_b265_s G l s10)
          · refine V_aload_n dec_X13_goesOn.2.2.2.1.2.2.2.2 2 rfl ?_
            refine V_iconst dec_X13_goesOn.2.2.2.2.1.1.1 rfl ?_
            refine V_putI (host := "") 13 9 nf_13_9 ty_13_9 (Or.inl ⟨fl_X13_81, Or.inl rfl⟩) dec_X13_goesOn.2.2.2.2.1.1.2 ?_
            refine V_lets fun s11 => ?_
            refine V_aload_n dec_X13_goesOn.2.2.2.2.1.2.1 2 rfl ?_
            refine V_dup (nl2 _) dec_X13_goesOn.2.2.2.2.1.2.2 ?_
            refine V_getI 13 8 nf_13_8 ft_13_8 fl_X13_84 dec_X13_goesOn.2.2.2.2.2.1.1 ?_
            refine V_iconst dec_X13_goesOn.2.2.2.2.2.1.2 rfl ?_
            refine V_iadd dec_X13_goesOn.2.2.2.2.2.2.1 ?_
            refine V_putI (host := "") 13 8 nf_13_8 ty_13_8 (Or.inl ⟨fl_X13_84, Or.inl rfl⟩) dec_X13_goesOn.2.2.2.2.2.2.2.1 ?_
            refine V_lets fun s12 => ?_
            exact V_pick [] rfl (X13_goesOn_b265_s G l s12)
        · refine V_aload_n dec_X13_goesOn.2.1.2.1.1.1.2 2 rfl ?_
          refine V_iconst dec_X13_goesOn.2.1.2.1.1.2.1 rfl ?_
          refine V_putI (host := "") 13 11 nf_13_11 ty_13_11 (Or.inl ⟨fl_X13_104, Or.inl rfl⟩) dec_X13_goesOn.2.1.2.1.1.2.2 ?_
          refine V_lets fun s13 => ?_
          exact V_pick [2, 0] rfl (X13_goesOn_b173_s G l FU s13 x0 0)
      · refine V_aload_n dec_X13_goesOn.1.2.1.1.2.2.2 2 rfl ?_
        refine V_lconst (n := 0) dec_X13_goesOn.1.2.1.2.1.1.1 (by decide) ?_
        refine V_putL (host := "") 13 14 nf_13_14 ty_13_14 (Or.inl ⟨fl_X13_97, Or.inl rfl⟩) dec_X13_goesOn.1.2.1.2.1.1.2 ?_
        refine V_lets fun s23 => ?_
        exact V_pick [2, 0] rfl (X13_goesOn_b84_s G l FU s23 x0 0)
    · refine V_aload_n dec_X13_goesOn.1.2.1.1.1.1.1 2 rfl ?_
      refine V_iconst dec_X13_goesOn.1.2.1.1.1.1.2 rfl ?_
      refine V_putI (host := "") 13 9 nf_13_9 ty_13_9 (Or.inl ⟨fl_X13_81, Or.inl rfl⟩) dec_X13_goesOn.1.2.1.1.1.2.1 ?_
      refine V_lets fun s33 => ?_
      refine V_goto (tgt := 265) dec_X13_goesOn.1.2.1.1.1.2.2 (by decide) ?_
      exact V_pick [] rfl (X13_goesOn_b265_s G l s33)
  · refine V_aload_n dec_X13_goesOn.1.1.1.2.1.2.2 0 rfl ?_
    refine V_dup (nl2 _) dec_X13_goesOn.1.1.1.2.2.1.1 ?_
    refine V_getI 13 8 nf_13_8 ft_13_8 fl_X13_84 dec_X13_goesOn.1.1.1.2.2.1.2 ?_
    refine V_iconst dec_X13_goesOn.1.1.1.2.2.2.1 rfl ?_
    refine V_iadd dec_X13_goesOn.1.1.1.2.2.2.2.1 ?_
    refine V_putI (host := "") 13 8 nf_13_8 ty_13_8 (Or.inl ⟨fl_X13_84, Or.inl rfl⟩) dec_X13_goesOn.1.1.1.2.2.2.2.2 ?_
    refine V_lets fun s34 => ?_
    refine V_goto (tgt := 9) dec_X13_goesOn.1.1.2.1.1.1.1 (by decide) ?_
    exact V_pick [0] rfl (hk9 s34 x0)
theorem X13_goesOn_b9_s (G : Gx) (l : Launch) (n : Nat) (s : St) (x0 : Int) : V G l mX13_goesOn 9 [(0, (2, x0))] [] s (X13_goesOn_b9 n s x0) :=
  V_iter (LV := fun a : St × Int => [(0, (2, a.2))]) (ST := fun a : St × Int => []) (SS := fun a : St × Int => a.1) (fun rec hrec a => X13_goesOn_b9_body_s G l (fun (s : St) (x0 : Int) => rec (s, x0)) (fun (s : St) (x0 : Int) => hrec (s, x0)) a.1 a.2) n (s, x0)
def X13_goesOn (s : St) (a0 : Int) : Rs :=
  grd (isK s 23 a0) (if ¬ (gI s a0 9) = (5 : Int) then (X13_goesOn_b9 FU s a0) else (some (0, s)))
set_option maxRecDepth 100000 in
set_option maxHeartbeats 4000000 in
theorem X13_goesOn_s (G : Gx) (l : Launch) (s : St) (a0 : Int) : Snd G l mX13_goesOn [(2, a0)] s (X13_goesOn s a0) := by
  refine Snd.of (by decide +kernel) rfl ?_
  show V G l mX13_goesOn 0 [(0, (2, a0))] [] s _
  unfold X13_goesOn
  refine V_aload_n dec_X13_goesOn.1.1.1.1.1.1.1 0 rfl ?_
  refine V_getI 13 9 nf_13_9 ft_13_9 fl_X13_81 dec_X13_goesOn.1.1.1.1.1.1.2 ?_
  refine V_iconst dec_X13_goesOn.1.1.1.1.1.2.1 rfl ?_
  refine V_icmp_ne (tgt := 9) dec_X13_goesOn.1.1.1.1.1.2.2 (by decide) ?_ ?_
  · exact V_pick [0] rfl (X13_goesOn_b9_s G l FU s a0)
  · exact V_vret rfl dec_X13_goesOn.1.1.1.1.2.1.1
theorem dec_X13_eatsSemicolon : (((decode cX13_eatsSemicolon 0 = .ok (.aload_n 0, 1) ∧ (decode cX13_eatsSemicolon 1 = .ok (.getfield 81, 3) ∧ decode cX13_eatsSemicolon 4 = .ok (.iconst 4, 1))) ∧ ((decode cX13_eatsSemicolon 5 = .ok (.if_icmp .ne 7, 3) ∧ decode cX13_eatsSemicolon 8 = .ok (.iconst 1, 1)) ∧ (decode cX13_eatsSemicolon 9 = .ok (.goto 4, 3) ∧ decode cX13_eatsSemicolon 12 = .ok (.iconst 0, 1)))) ∧ ((decode cX13_eatsSemicolon 13 = .ok (.istore_n 1, 1) ∧ (decode cX13_eatsSemicolon 14 = .ok (.iload_n 1, 1) ∧ decode cX13_eatsSemicolon 15 = .ok (.ifCond .eq 7, 3))) ∧ ((decode cX13_eatsSemicolon 18 = .ok (.aload_n 0, 1) ∧ decode cX13_eatsSemicolon 19 = .ok (.invokevirtual 117, 3)) ∧ (decode cX13_eatsSemicolon 22 = .ok (.iload_n 1, 1) ∧ decode cX13_eatsSemicolon 23 = .ok (.ireturn, 1))))) := ⟨by decide +kernel, by decide +kernel⟩
def X13_eatsSemicolon_b22 (s : St) (x1 : Int) : Rs :=
  grd (x1 = 0 ∨ x1 = 1) (some (x1, s))
set_option maxRecDepth 100000 in
set_option maxHeartbeats 4000000 in
theorem X13_eatsSemicolon_b22_s (G : Gx) (l : Launch) (s : St) (x1 : Int) : V G l mX13_eatsSemicolon 22 [(1, (0, x1))] [] s (X13_eatsSemicolon_b22 s x1) := by
  unfold X13_eatsSemicolon_b22
  refine V_iload_n dec_X13_eatsSemicolon.2.2.2.1 0 rfl ?_
  exact V_zret rfl dec_X13_eatsSemicolon.2.2.2.2
def X13_eatsSemicolon_b13 (s : St) (x0 k0 : Int) : Rs :=
  if k0 = 0 then (X13_eatsSemicolon_b22 s k0) else (grd (isK s 23 x0) (bnd (X13_goesOn s x0) (fun r1 s2 => X13_eatsSemicolon_b22 s2 k0)))
set_option maxRecDepth 100000 in
set_option maxHeartbeats 4000000 in
theorem X13_eatsSemicolon_b13_s (G : Gx) (l : Launch) (s : St) (x0 k0 : Int) : V G l mX13_eatsSemicolon 13 [(0, (2, x0))] [(0, k0)] s (X13_eatsSemicolon_b13 s x0 k0) := by
  unfold X13_eatsSemicolon_b13
  refine V_istore_n (lv' := [(1, (0, k0)), (0, (2, x0))]) dec_X13_eatsSemicolon.2.1.1 (by decide) rfl ?_
  refine V_iload_n dec_X13_eatsSemicolon.2.1.2.1 0 rfl ?_
  refine V_if_eq (tgt := 22) dec_X13_eatsSemicolon.2.1.2.2 (by decide) ?_ ?_
  · exact V_pick [0] rfl (X13_eatsSemicolon_b22_s G l s k0)
  · refine V_aload_n dec_X13_eatsSemicolon.2.2.1.1 1 rfl ?_
    refine V_callV0 (ci := 13) (a := x0) (As := []) (st := []) rfl rfl (X13_goesOn_s G l s x0) cal_X13_goesOn rfl ml_X13_117 rfl rfl dec_X13_eatsSemicolon.2.2.1.2 (k_void rfl fun r1 s2 => ?_)
    exact V_pick [0] rfl (X13_eatsSemicolon_b22_s G l s2 k0)
def X13_eatsSemicolon (s : St) (a0 : Int) : Rs :=
  grd (isK s 23 a0) (if ¬ (gI s a0 9) = (4 : Int) then (X13_eatsSemicolon_b13 s a0 0) else (X13_eatsSemicolon_b13 s a0 1))
set_option maxRecDepth 100000 in
set_option maxHeartbeats 4000000 in
theorem X13_eatsSemicolon_s (G : Gx) (l : Launch) (s : St) (a0 : Int) : Snd G l mX13_eatsSemicolon [(2, a0)] s (X13_eatsSemicolon s a0) := by
  refine Snd.of (by decide +kernel) rfl ?_
  show V G l mX13_eatsSemicolon 0 [(0, (2, a0))] [] s _
  unfold X13_eatsSemicolon
  refine V_aload_n dec_X13_eatsSemicolon.1.1.1 0 rfl ?_
  refine V_getI 13 9 nf_13_9 ft_13_9 fl_X13_81 dec_X13_eatsSemicolon.1.1.2.1 ?_
  refine V_iconst dec_X13_eatsSemicolon.1.1.2.2 rfl ?_
  refine V_icmp_ne (tgt := 12) dec_X13_eatsSemicolon.1.2.1.1 (by decide) ?_ ?_
  · refine V_iconst dec_X13_eatsSemicolon.1.2.2.2 rfl ?_
    exact V_pick [0] rfl (X13_eatsSemicolon_b13_s G l s a0 0)
  · refine V_iconst dec_X13_eatsSemicolon.1.2.1.2 rfl ?_
    refine V_goto (tgt := 13) dec_X13_eatsSemicolon.1.2.2.1 (by decide) ?_
    exact V_pick [0] rfl (X13_eatsSemicolon_b13_s G l s a0 1)
theorem dec_X13_fault : ((decode cX13_fault 0 = .ok (.aload_n 0, 1) ∧ (decode cX13_fault 1 = .ok (.iconst 0, 1) ∧ decode cX13_fault 2 = .ok (.putfield 49, 3))) ∧ (decode cX13_fault 5 = .ok (.aload_n 0, 1) ∧ (decode cX13_fault 6 = .ok (.getfield 107, 3) ∧ decode cX13_fault 9 = .ok (.ireturn, 1)))) := by decide +kernel
def X13_fault (s : St) (a0 : Int) : Rs :=
  grd (isK s 23 a0) (lets (pI s a0 0 0) (fun s1 => grd (isK s1 23 a0) (some ((gI s1 a0 12), s1))))
set_option maxRecDepth 100000 in
set_option maxHeartbeats 4000000 in
theorem X13_fault_s (G : Gx) (l : Launch) (s : St) (a0 : Int) : Snd G l mX13_fault [(2, a0)] s (X13_fault s a0) := by
  refine Snd.of (by decide +kernel) rfl ?_
  show V G l mX13_fault 0 [(0, (2, a0))] [] s _
  unfold X13_fault
  refine V_aload_n dec_X13_fault.1.1 0 rfl ?_
  refine V_iconst dec_X13_fault.1.2.1 rfl ?_
  refine V_putI (host := "") 13 0 nf_13_0 ty_13_0 (Or.inl ⟨fl_X13_49, Or.inl rfl⟩) dec_X13_fault.1.2.2 ?_
  refine V_lets fun s1 => ?_
  refine V_aload_n dec_X13_fault.2.1 0 rfl ?_
  refine V_getI 13 12 nf_13_12 ft_13_12 fl_X13_107 dec_X13_fault.2.2.1 ?_
  exact V_iret rfl dec_X13_fault.2.2.2
theorem dec_X13_feed : ((((((decode cX13_feed 0 = .ok (.aload_n 0, 1) ∧ decode cX13_feed 1 = .ok (.iconst 0, 1)) ∧ (decode cX13_feed 2 = .ok (.putfield 49, 3) ∧ decode cX13_feed 5 = .ok (.aload_n 0, 1))) ∧ ((decode cX13_feed 6 = .ok (.getfield 296, 3) ∧ decode cX13_feed 9 = .ok (.bipush 20, 2)) ∧ (decode cX13_feed 11 = .ok (.iadd, 1) ∧ decode cX13_feed 12 = .ok (.sipush 800, 3)))) ∧ (((decode cX13_feed 15 = .ok (.if_icmp .le 5, 3) ∧ decode cX13_feed 18 = .ok (.iconst (-1), 1)) ∧ (decode cX13_feed 19 = .ok (.ireturn, 1) ∧ decode cX13_feed 20 = .ok (.iconst 0, 1))) ∧ ((decode cX13_feed 21 = .ok (.istore 6, 2) ∧ decode cX13_feed 23 = .ok (.iload 6, 2)) ∧ (decode cX13_feed 25 = .ok (.bipush 20, 2) ∧ decode cX13_feed 27 = .ok (.if_icmp .ge 90, 3))))) ∧ ((((decode cX13_feed 30 = .ok (.iload 6, 2) ∧ decode cX13_feed 32 = .ok (.iconst 4, 1)) ∧ (decode cX13_feed 33 = .ok (.if_icmp .ge 7, 3) ∧ decode cX13_feed 36 = .ok (.iload_n 1, 1))) ∧ ((decode cX13_feed 37 = .ok (.goto 39, 3) ∧ decode cX13_feed 40 = .ok (.iload 6, 2)) ∧ (decode cX13_feed 42 = .ok (.bipush 8, 2) ∧ decode cX13_feed 44 = .ok (.if_icmp .ge 7, 3)))) ∧ (((decode cX13_feed 47 = .ok (.iload_n 2, 1) ∧ decode cX13_feed 48 = .ok (.goto 28, 3)) ∧ (decode cX13_feed 51 = .ok (.iload 6, 2) ∧ decode cX13_feed 53 = .ok (.bipush 12, 2))) ∧ ((decode cX13_feed 55 = .ok (.if_icmp .ge 7, 3) ∧ decode cX13_feed 58 = .ok (.iload_n 3, 1)) ∧ (decode cX13_feed 59 = .ok (.goto 17, 3) ∧ decode cX13_feed 62 = .ok (.iload 6, 2)))))) ∧ (((((decode cX13_feed 64 = .ok (.bipush 16, 2) ∧ decode cX13_feed 66 = .ok (.if_icmp .ge 8, 3)) ∧ (decode cX13_feed 69 = .ok (.iload 4, 2) ∧ decode cX13_feed 71 = .ok (.goto 5, 3))) ∧ ((decode cX13_feed 74 = .ok (.iload 5, 2) ∧ decode cX13_feed 76 = .ok (.istore 7, 2)) ∧ (decode cX13_feed 78 = .ok (.aload_n 0, 1) ∧ decode cX13_feed 79 = .ok (.getfield 13, 3)))) ∧ (((decode cX13_feed 82 = .ok (.aload_n 0, 1) ∧ decode cX13_feed 83 = .ok (.getfield 296, 3)) ∧ (decode cX13_feed 86 = .ok (.iload 7, 2) ∧ decode cX13_feed 88 = .ok (.bipush 24, 2))) ∧ ((decode cX13_feed 90 = .ok (.bipush 8, 2) ∧ decode cX13_feed 92 = .ok (.iload 6, 2)) ∧ (decode cX13_feed 94 = .ok (.iconst 4, 1) ∧ decode cX13_feed 95 = .ok (.irem, 1))))) ∧ ((((decode cX13_feed 96 = .ok (.imul, 1) ∧ decode cX13_feed 97 = .ok (.isub, 1)) ∧ (decode cX13_feed 98 = .ok (.ishr, 1) ∧ decode cX13_feed 99 = .ok (.i2b, 1))) ∧ ((decode cX13_feed 100 = .ok (.bastore, 1) ∧ decode cX13_feed 101 = .ok (.aload_n 0, 1)) ∧ (decode cX13_feed 102 = .ok (.dup, 1) ∧ decode cX13_feed 103 = .ok (.getfield 296, 3)))) ∧ (((decode cX13_feed 106 = .ok (.iconst 1, 1) ∧ decode cX13_feed 107 = .ok (.iadd, 1)) ∧ (decode cX13_feed 108 = .ok (.putfield 296, 3) ∧ decode cX13_feed 111 = .ok (.iinc 6 1, 3))) ∧ ((decode cX13_feed 114 = .ok (.goto (-91), 3) ∧ decode cX13_feed 117 = .ok (.aload_n 0, 1)) ∧ (decode cX13_feed 118 = .ok (.getfield 296, 3) ∧ decode cX13_feed 121 = .ok (.ireturn, 1))))))) := ⟨⟨⟨by decide +kernel, by decide +kernel⟩, ⟨by decide +kernel, by decide +kernel⟩⟩, ⟨⟨by decide +kernel, by decide +kernel⟩, ⟨by decide +kernel, by decide +kernel⟩⟩⟩
def X13_feed_b76 (rk23 : St → Int → Int → Int → Int → Int → Int → Int → Rs) (s : St) (x0 x1 x2 x3 x4 x5 x6 k0 : Int) : Rs :=
  grd (isK s 23 x0) (grd (isK s 23 x0) (grd ((4 : Int) ≠ 0) (grd (isK s 2 (gR s x0 5) ∧ 0 ≤ (gI s x0 6) ∧ (gI s x0 6) < ln s (gR s x0 5)) (lets (pI s (gR s x0 5) (gI s x0 6).toNat (w8 (w8 (shr32 k0 (w32 (24 - (w32 (8 * (Int.tmod x6 4))))))))) (fun s2 => grd (isK s2 23 x0) (grd (isK s2 23 x0) (lets (pI s2 x0 6 (w32 ((gI s2 x0 6) + 1))) (fun s3 => rk23 s3 x0 x1 x2 x3 x4 x5 (w32 (x6 + 1))))))))))
set_option maxRecDepth 100000 in
set_option maxHeartbeats 4000000 in
theorem X13_feed_b76_s (G : Gx) (l : Launch) (rk23 : St → Int → Int → Int → Int → Int → Int → Int → Rs) (hk23 : ∀ (s : St) (x0 x1 x2 x3 x4 x5 x6 : Int), V G l mX13_feed 23 [(0, (2, x0)), (1, (0, x1)), (2, (0, x2)), (3, (0, x3)), (4, (0, x4)), (5, (0, x5)), (6, (0, x6))] [] s (rk23 s x0 x1 x2 x3 x4 x5 x6)) (s : St) (x0 x1 x2 x3 x4 x5 x6 k0 : Int) : V G l mX13_feed 76 [(0, (2, x0)), (1, (0, x1)), (2, (0, x2)), (3, (0, x3)), (4, (0, x4)), (5, (0, x5)), (6, (0, x6))] [(0, k0)] s (X13_feed_b76 rk23 s x0 x1 x2 x3 x4 x5 x6 k0) := by
  unfold X13_feed_b76
  refine V_istore (lv' := [(7, (0, k0)), (0, (2, x0)), (1, (0, x1)), (2, (0, x2)), (3, (0, x3)), (4, (0, x4)), (5, (0, x5)), (6, (0, x6))]) dec_X13_feed.2.1.1.2.1.2 (by decide) rfl ?_
  refine V_aload_n dec_X13_feed.2.1.1.2.2.1 1 rfl ?_
  refine V_getR 13 5 nf_13_5 ft_13_5 fl_X13_13 dec_X13_feed.2.1.1.2.2.2 ?_
  refine V_aload_n dec_X13_feed.2.1.2.1.1.1 1 rfl ?_
  refine V_getI 13 6 nf_13_6 ft_13_6 fl_X13_296 dec_X13_feed.2.1.2.1.1.2 ?_
  refine V_iload dec_X13_feed.2.1.2.1.2.1 0 rfl ?_
  refine V_bipush dec_X13_feed.2.1.2.1.2.2 rfl ?_
  refine V_bipush dec_X13_feed.2.1.2.2.1.1 rfl ?_
  refine V_iload dec_X13_feed.2.1.2.2.1.2 7 rfl ?_
  refine V_iconst dec_X13_feed.2.1.2.2.2.1 rfl ?_
  refine V_irem dec_X13_feed.2.1.2.2.2.2 ?_
  refine V_imul dec_X13_feed.2.2.1.1.1.1 ?_
  refine V_isub dec_X13_feed.2.2.1.1.1.2 ?_
  refine V_ishr dec_X13_feed.2.2.1.1.2.1 ?_
  refine V_i2b dec_X13_feed.2.2.1.1.2.2 ?_
  refine V_bast dec_X13_feed.2.2.1.2.1.1 ?_
  refine V_lets fun s2 => ?_
  refine V_aload_n dec_X13_feed.2.2.1.2.1.2 1 rfl ?_
  refine V_dup (nl2 _) dec_X13_feed.2.2.1.2.2.1 ?_
  refine V_getI 13 6 nf_13_6 ft_13_6 fl_X13_296 dec_X13_feed.2.2.1.2.2.2 ?_
  refine V_iconst dec_X13_feed.2.2.2.1.1.1 rfl ?_
  refine V_iadd dec_X13_feed.2.2.2.1.1.2 ?_
  refine V_putI (host := "") 13 6 nf_13_6 ty_13_6 (Or.inl ⟨fl_X13_296, Or.inl rfl⟩) dec_X13_feed.2.2.2.1.2.1 ?_
  refine V_lets fun s3 => ?_
  refine V_iinc (lv' := [(6, (0, (w32 (x6 + 1)))), (7, (0, k0)), (0, (2, x0)), (1, (0, x1)), (2, (0, x2)), (3, (0, x3)), (4, (0, x4)), (5, (0, x5))]) dec_X13_feed.2.2.2.1.2.2 7 rfl (by decide) rfl ?_
  refine V_goto (tgt := 23) dec_X13_feed.2.2.2.2.1.1 (by decide) ?_
  exact V_pick [2, 3, 4, 5, 6, 7, 0] rfl (hk23 s3 x0 x1 x2 x3 x4 x5 (w32 (x6 + 1)))
def X13_feed_b23_body (rk23 : St → Int → Int → Int → Int → Int → Int → Int → Rs) (s : St) (x0 x1 x2 x3 x4 x5 x6 : Int) : Rs :=
  if (20 : Int) ≤ x6 then (grd (isK s 23 x0) (some ((gI s x0 6), s))) else (if (4 : Int) ≤ x6 then (if (8 : Int) ≤ x6 then (if (12 : Int) ≤ x6 then (if (16 : Int) ≤ x6 then (X13_feed_b76 rk23 s x0 x1 x2 x3 x4 x5 x6 x5) else (X13_feed_b76 rk23 s x0 x1 x2 x3 x4 x5 x6 x4)) else (X13_feed_b76 rk23 s x0 x1 x2 x3 x4 x5 x6 x3)) else (X13_feed_b76 rk23 s x0 x1 x2 x3 x4 x5 x6 x2)) else (X13_feed_b76 rk23 s x0 x1 x2 x3 x4 x5 x6 x1))
def X13_feed_b23 (n : Nat) (s : St) (x0 x1 x2 x3 x4 x5 x6 : Int) : Rs := iter (fun (rec : St × Int × Int × Int × Int × Int × Int × Int → Rs) (a : St × Int × Int × Int × Int × Int × Int × Int) => X13_feed_b23_body (fun (s : St) (x0 x1 x2 x3 x4 x5 x6 : Int) => rec (s, x0, x1, x2, x3, x4, x5, x6)) a.1 a.2.1 a.2.2.1 a.2.2.2.1 a.2.2.2.2.1 a.2.2.2.2.2.1 a.2.2.2.2.2.2.1 a.2.2.2.2.2.2.2) n (s, x0, x1, x2, x3, x4, x5, x6)
theorem X13_feed_b23_0 (s : St) (x0 x1 x2 x3 x4 x5 x6 : Int) : X13_feed_b23 0 s x0 x1 x2 x3 x4 x5 x6 = none := rfl
theorem X13_feed_b23_1 (n : Nat) (s : St) (x0 x1 x2 x3 x4 x5 x6 : Int) : X13_feed_b23 (n + 1) s x0 x1 x2 x3 x4 x5 x6 = X13_feed_b23_body (X13_feed_b23 n) s x0 x1 x2 x3 x4 x5 x6 := rfl
set_option maxRecDepth 100000 in
set_option maxHeartbeats 4000000 in
theorem X13_feed_b23_body_s (G : Gx) (l : Launch) (rk23 : St → Int → Int → Int → Int → Int → Int → Int → Rs) (hk23 : ∀ (s : St) (x0 x1 x2 x3 x4 x5 x6 : Int), V G l mX13_feed 23 [(0, (2, x0)), (1, (0, x1)), (2, (0, x2)), (3, (0, x3)), (4, (0, x4)), (5, (0, x5)), (6, (0, x6))] [] s (rk23 s x0 x1 x2 x3 x4 x5 x6)) (s : St) (x0 x1 x2 x3 x4 x5 x6 : Int) : V G l mX13_feed 23 [(0, (2, x0)), (1, (0, x1)), (2, (0, x2)), (3, (0, x3)), (4, (0, x4)), (5, (0, x5)), (6, (0, x6))] [] s (X13_feed_b23_body rk23 s x0 x1 x2 x3 x4 x5 x6) := by
  unfold X13_feed_b23_body
  refine V_iload dec_X13_feed.1.1.2.2.1.2 6 rfl ?_
  refine V_bipush dec_X13_feed.1.1.2.2.2.1 rfl ?_
  refine V_icmp_ge (tgt := 117) dec_X13_feed.1.1.2.2.2.2 (by decide) ?_ ?_
  · refine V_aload_n dec_X13_feed.2.2.2.2.1.2 0 rfl ?_
    refine V_getI 13 6 nf_13_6 ft_13_6 fl_X13_296 dec_X13_feed.2.2.2.2.2.1 ?_
    exact V_iret rfl dec_X13_feed.2.2.2.2.2.2
  · refine V_iload dec_X13_feed.1.2.1.1.1.1 6 rfl ?_
    refine V_iconst dec_X13_feed.1.2.1.1.1.2 rfl ?_
    refine V_icmp_ge (tgt := 40) dec_X13_feed.1.2.1.1.2.1 (by decide) ?_ ?_
    · refine V_iload dec_X13_feed.1.2.1.2.1.2 6 rfl ?_
      refine V_bipush dec_X13_feed.1.2.1.2.2.1 rfl ?_
      refine V_icmp_ge (tgt := 51) dec_X13_feed.1.2.1.2.2.2 (by decide) ?_ ?_
      · refine V_iload dec_X13_feed.1.2.2.1.2.1 6 rfl ?_
        refine V_bipush dec_X13_feed.1.2.2.1.2.2 rfl ?_
        refine V_icmp_ge (tgt := 62) dec_X13_feed.1.2.2.2.1.1 (by decide) ?_ ?_
        · refine V_iload dec_X13_feed.1.2.2.2.2.2 6 rfl ?_
          refine V_bipush dec_X13_feed.2.1.1.1.1.1 rfl ?_
          refine V_icmp_ge (tgt := 74) dec_X13_feed.2.1.1.1.1.2 (by decide) ?_ ?_
          · refine V_iload dec_X13_feed.2.1.1.2.1.1 5 rfl ?_
            exact V_pick [0, 1, 2, 3, 4, 5, 6] rfl (X13_feed_b76_s G l rk23 hk23 s x0 x1 x2 x3 x4 x5 x6 x5)
          · refine V_iload dec_X13_feed.2.1.1.1.2.1 4 rfl ?_
            refine V_goto (tgt := 76) dec_X13_feed.2.1.1.1.2.2 (by decide) ?_
            exact V_pick [0, 1, 2, 3, 4, 5, 6] rfl (X13_feed_b76_s G l rk23 hk23 s x0 x1 x2 x3 x4 x5 x6 x4)
        · refine V_iload_n dec_X13_feed.1.2.2.2.1.2 3 rfl ?_
          refine V_goto (tgt := 76) dec_X13_feed.1.2.2.2.2.1 (by decide) ?_
          exact V_pick [0, 1, 2, 3, 4, 5, 6] rfl (X13_feed_b76_s G l rk23 hk23 s x0 x1 x2 x3 x4 x5 x6 x3)
      · refine V_iload_n dec_X13_feed.1.2.2.1.1.1 2 rfl ?_
        refine V_goto (tgt := 76) dec_X13_feed.1.2.2.1.1.2 (by decide) ?_
        exact V_pick [0, 1, 2, 3, 4, 5, 6] rfl (X13_feed_b76_s G l rk23 hk23 s x0 x1 x2 x3 x4 x5 x6 x2)
    · refine V_iload_n dec_X13_feed.1.2.1.1.2.2 1 rfl ?_
      refine V_goto (tgt := 76) dec_X13_feed.1.2.1.2.1.1 (by decide) ?_
      exact V_pick [0, 1, 2, 3, 4, 5, 6] rfl (X13_feed_b76_s G l rk23 hk23 s x0 x1 x2 x3 x4 x5 x6 x1)
theorem X13_feed_b23_s (G : Gx) (l : Launch) (n : Nat) (s : St) (x0 x1 x2 x3 x4 x5 x6 : Int) : V G l mX13_feed 23 [(0, (2, x0)), (1, (0, x1)), (2, (0, x2)), (3, (0, x3)), (4, (0, x4)), (5, (0, x5)), (6, (0, x6))] [] s (X13_feed_b23 n s x0 x1 x2 x3 x4 x5 x6) :=
  V_iter (LV := fun a : St × Int × Int × Int × Int × Int × Int × Int => [(0, (2, a.2.1)), (1, (0, a.2.2.1)), (2, (0, a.2.2.2.1)), (3, (0, a.2.2.2.2.1)), (4, (0, a.2.2.2.2.2.1)), (5, (0, a.2.2.2.2.2.2.1)), (6, (0, a.2.2.2.2.2.2.2))]) (ST := fun a : St × Int × Int × Int × Int × Int × Int × Int => []) (SS := fun a : St × Int × Int × Int × Int × Int × Int × Int => a.1) (fun rec hrec a => X13_feed_b23_body_s G l (fun (s : St) (x0 x1 x2 x3 x4 x5 x6 : Int) => rec (s, x0, x1, x2, x3, x4, x5, x6)) (fun (s : St) (x0 x1 x2 x3 x4 x5 x6 : Int) => hrec (s, x0, x1, x2, x3, x4, x5, x6)) a.1 a.2.1 a.2.2.1 a.2.2.2.1 a.2.2.2.2.1 a.2.2.2.2.2.1 a.2.2.2.2.2.2.1 a.2.2.2.2.2.2.2) n (s, x0, x1, x2, x3, x4, x5, x6)
def X13_feed (s : St) (a0 a1 a2 a3 a4 a5 : Int) : Rs :=
  grd (isK s 23 a0) (lets (pI s a0 0 0) (fun s1 => grd (isK s1 23 a0) (if (w32 ((gI s1 a0 6) + 20)) ≤ (800 : Int) then (X13_feed_b23 FU s1 a0 a1 a2 a3 a4 a5 0) else (some ((-1), s1)))))
set_option maxRecDepth 100000 in
set_option maxHeartbeats 4000000 in
theorem X13_feed_s (G : Gx) (l : Launch) (s : St) (a0 a1 a2 a3 a4 a5 : Int) : Snd G l mX13_feed [(2, a0), (0, a1), (0, a2), (0, a3), (0, a4), (0, a5)] s (X13_feed s a0 a1 a2 a3 a4 a5) := by
  refine Snd.of (by decide +kernel) rfl ?_
  show V G l mX13_feed 0 [(0, (2, a0)), (1, (0, a1)), (2, (0, a2)), (3, (0, a3)), (4, (0, a4)), (5, (0, a5))] [] s _
  unfold X13_feed
  refine V_aload_n dec_X13_feed.1.1.1.1.1.1 0 rfl ?_
  refine V_iconst dec_X13_feed.1.1.1.1.1.2 rfl ?_
  refine V_putI (host := "") 13 0 nf_13_0 ty_13_0 (Or.inl ⟨fl_X13_49, Or.inl rfl⟩) dec_X13_feed.1.1.1.1.2.1 ?_
  refine V_lets fun s1 => ?_
  refine V_aload_n dec_X13_feed.1.1.1.1.2.2 0 rfl ?_
  refine V_getI 13 6 nf_13_6 ft_13_6 fl_X13_296 dec_X13_feed.1.1.1.2.1.1 ?_
  refine V_bipush dec_X13_feed.1.1.1.2.1.2 rfl ?_
  refine V_iadd dec_X13_feed.1.1.1.2.2.1 ?_
  refine V_sipush dec_X13_feed.1.1.1.2.2.2 rfl ?_
  refine V_icmp_le (tgt := 20) dec_X13_feed.1.1.2.1.1.1 (by decide) ?_ ?_
  · refine V_iconst dec_X13_feed.1.1.2.1.2.2 rfl ?_
    refine V_istore (lv' := [(6, (0, 0)), (0, (2, a0)), (1, (0, a1)), (2, (0, a2)), (3, (0, a3)), (4, (0, a4)), (5, (0, a5))]) dec_X13_feed.1.1.2.2.1.1 (by decide) rfl ?_
    exact V_pick [1, 2, 3, 4, 5, 6, 0] rfl (X13_feed_b23_s G l FU s1 a0 a1 a2 a3 a4 a5 0)
  · refine V_iconst dec_X13_feed.1.1.2.1.1.2 rfl ?_
    exact V_iret rfl dec_X13_feed.1.1.2.1.2.1
theorem dec_X13_firstDead : ((((decode cX13_firstDead 0 = .ok (.iconst 0, 1) ∧ decode cX13_firstDead 1 = .ok (.istore_n 2, 1)) ∧ (decode cX13_firstDead 2 = .ok (.iload_n 2, 1) ∧ (decode cX13_firstDead 3 = .ok (.aload_n 0, 1) ∧ decode cX13_firstDead 4 = .ok (.getfield 303, 3)))) ∧ ((decode cX13_firstDead 7 = .ok (.getfield 241, 3) ∧ decode cX13_firstDead 10 = .ok (.if_icmp .ge 24, 3)) ∧ (decode cX13_firstDead 13 = .ok (.aload_n 0, 1) ∧ (decode cX13_firstDead 14 = .ok (.getfield 303, 3) ∧ decode cX13_firstDead 17 = .ok (.getfield 263, 3))))) ∧ (((decode cX13_firstDead 20 = .ok (.iload_n 2, 1) ∧ decode cX13_firstDead 21 = .ok (.iaload, 1)) ∧ (decode cX13_firstDead 22 = .ok (.iload_n 1, 1) ∧ (decode cX13_firstDead 23 = .ok (.if_icmp .ne 5, 3) ∧ decode cX13_firstDead 26 = .ok (.iload_n 2, 1)))) ∧ ((decode cX13_firstDead 27 = .ok (.ireturn, 1) ∧ decode cX13_firstDead 28 = .ok (.iinc 2 1, 3)) ∧ (decode cX13_firstDead 31 = .ok (.goto (-29), 3) ∧ (decode cX13_firstDead 34 = .ok (.bipush (-2), 2) ∧ decode cX13_firstDead 36 = .ok (.ireturn, 1)))))) := ⟨by decide +kernel, by decide +kernel⟩
def X13_firstDead_b2_body (rk2 : St → Int → Int → Int → Rs) (s : St) (x0 x1 x2 : Int) : Rs :=
  grd (isK s 23 x0) (grd (isK s 22 (gR s x0 3)) (if (gI s (gR s x0 3) 3) ≤ x2 then (some ((-2), s)) else (grd (isK s 23 x0) (grd (isK s 22 (gR s x0 3)) (grd (isK s 1 (gR s (gR s x0 3) 11) ∧ 0 ≤ x2 ∧ x2 < ln s (gR s (gR s x0 3) 11)) (if ¬ (gI s (gR s (gR s x0 3) 11) x2.toNat) = x1 then (rk2 s x0 x1 (w32 (x2 + 1))) else (some (x2, s))))))))
def X13_firstDead_b2 (n : Nat) (s : St) (x0 x1 x2 : Int) : Rs := iter (fun (rec : St × Int × Int × Int → Rs) (a : St × Int × Int × Int) => X13_firstDead_b2_body (fun (s : St) (x0 x1 x2 : Int) => rec (s, x0, x1, x2)) a.1 a.2.1 a.2.2.1 a.2.2.2) n (s, x0, x1, x2)
theorem X13_firstDead_b2_0 (s : St) (x0 x1 x2 : Int) : X13_firstDead_b2 0 s x0 x1 x2 = none := rfl
theorem X13_firstDead_b2_1 (n : Nat) (s : St) (x0 x1 x2 : Int) : X13_firstDead_b2 (n + 1) s x0 x1 x2 = X13_firstDead_b2_body (X13_firstDead_b2 n) s x0 x1 x2 := rfl
set_option maxRecDepth 100000 in
set_option maxHeartbeats 4000000 in
theorem X13_firstDead_b2_body_s (G : Gx) (l : Launch) (rk2 : St → Int → Int → Int → Rs) (hk2 : ∀ (s : St) (x0 x1 x2 : Int), V G l mX13_firstDead 2 [(0, (2, x0)), (1, (0, x1)), (2, (0, x2))] [] s (rk2 s x0 x1 x2)) (s : St) (x0 x1 x2 : Int) : V G l mX13_firstDead 2 [(0, (2, x0)), (1, (0, x1)), (2, (0, x2))] [] s (X13_firstDead_b2_body rk2 s x0 x1 x2) := by
  unfold X13_firstDead_b2_body
  refine V_iload_n dec_X13_firstDead.1.1.2.1 2 rfl ?_
  refine V_aload_n dec_X13_firstDead.1.1.2.2.1 0 rfl ?_
  refine V_getR 13 3 nf_13_3 ft_13_3 fl_X13_303 dec_X13_firstDead.1.1.2.2.2 ?_
  refine V_getIN RX13 12 3 nf_12_3 ft_12_3 fl_X13_241 dec_X13_firstDead.1.2.1.1 ?_
  refine V_icmp_ge (tgt := 34) dec_X13_firstDead.1.2.1.2 (by decide) ?_ ?_
  · refine V_bipush dec_X13_firstDead.2.2.2.2.1 rfl ?_
    exact V_iret rfl dec_X13_firstDead.2.2.2.2.2
  · refine V_aload_n dec_X13_firstDead.1.2.2.1 0 rfl ?_
    refine V_getR 13 3 nf_13_3 ft_13_3 fl_X13_303 dec_X13_firstDead.1.2.2.2.1 ?_
    refine V_getRN RX13 12 11 nf_12_11 ft_12_11 fl_X13_263 dec_X13_firstDead.1.2.2.2.2 ?_
    refine V_iload_n dec_X13_firstDead.2.1.1.1 2 rfl ?_
    refine V_iald dec_X13_firstDead.2.1.1.2 ?_
    refine V_iload_n dec_X13_firstDead.2.1.2.1 1 rfl ?_
    refine V_icmp_ne (tgt := 28) dec_X13_firstDead.2.1.2.2.1 (by decide) ?_ ?_
    · refine V_iinc (lv' := [(2, (0, (w32 (x2 + 1)))), (0, (2, x0)), (1, (0, x1))]) dec_X13_firstDead.2.2.1.2 2 rfl (by decide) rfl ?_
      refine V_goto (tgt := 2) dec_X13_firstDead.2.2.2.1 (by decide) ?_
      exact V_pick [1, 2, 0] rfl (hk2 s x0 x1 (w32 (x2 + 1)))
    · refine V_iload_n dec_X13_firstDead.2.1.2.2.2 2 rfl ?_
      exact V_iret rfl dec_X13_firstDead.2.2.1.1
theorem X13_firstDead_b2_s (G : Gx) (l : Launch) (n : Nat) (s : St) (x0 x1 x2 : Int) : V G l mX13_firstDead 2 [(0, (2, x0)), (1, (0, x1)), (2, (0, x2))] [] s (X13_firstDead_b2 n s x0 x1 x2) :=
  V_iter (LV := fun a : St × Int × Int × Int => [(0, (2, a.2.1)), (1, (0, a.2.2.1)), (2, (0, a.2.2.2))]) (ST := fun a : St × Int × Int × Int => []) (SS := fun a : St × Int × Int × Int => a.1) (fun rec hrec a => X13_firstDead_b2_body_s G l (fun (s : St) (x0 x1 x2 : Int) => rec (s, x0, x1, x2)) (fun (s : St) (x0 x1 x2 : Int) => hrec (s, x0, x1, x2)) a.1 a.2.1 a.2.2.1 a.2.2.2) n (s, x0, x1, x2)
def X13_firstDead (s : St) (a0 a1 : Int) : Rs :=
  X13_firstDead_b2 FU s a0 a1 0
set_option maxRecDepth 100000 in
set_option maxHeartbeats 4000000 in
theorem X13_firstDead_s (G : Gx) (l : Launch) (s : St) (a0 a1 : Int) : Snd G l mX13_firstDead [(2, a0), (0, a1)] s (X13_firstDead s a0 a1) := by
  refine Snd.of (by decide +kernel) rfl ?_
  show V G l mX13_firstDead 0 [(0, (2, a0)), (1, (0, a1))] [] s _
  unfold X13_firstDead
  refine V_iconst dec_X13_firstDead.1.1.1.1 rfl ?_
  refine V_istore_n (lv' := [(2, (0, 0)), (0, (2, a0)), (1, (0, a1))]) dec_X13_firstDead.1.1.1.2 (by decide) rfl ?_
  exact V_pick [1, 2, 0] rfl (X13_firstDead_b2_s G l FU s a0 a1 0)
theorem dec_X13_fitAt : ((((decode cX13_fitAt 0 = .ok (.aload_n 0, 1) ∧ (decode cX13_fitAt 1 = .ok (.iconst 0, 1) ∧ decode cX13_fitAt 2 = .ok (.putfield 49, 3))) ∧ (decode cX13_fitAt 5 = .ok (.aload_n 0, 1) ∧ (decode cX13_fitAt 6 = .ok (.getfield 303, 3) ∧ decode cX13_fitAt 9 = .ok (.ifnull 7, 3)))) ∧ ((decode cX13_fitAt 12 = .ok (.iload_n 1, 1) ∧ (decode cX13_fitAt 13 = .ok (.ifCond .ge 9, 3) ∧ decode cX13_fitAt 16 = .ok (.aload_n 0, 1))) ∧ ((decode cX13_fitAt 17 = .ok (.iconst 1, 1) ∧ decode cX13_fitAt 18 = .ok (.invokevirtual 55, 3)) ∧ (decode cX13_fitAt 21 = .ok (.ireturn, 1) ∧ decode cX13_fitAt 22 = .ok (.aload_n 0, 1))))) ∧ (((decode cX13_fitAt 23 = .ok (.iload_n 1, 1) ∧ (decode cX13_fitAt 24 = .ok (.invokevirtual 422, 3) ∧ decode cX13_fitAt 27 = .ok (.istore_n 2, 1))) ∧ ((decode cX13_fitAt 28 = .ok (.iload_n 2, 1) ∧ decode cX13_fitAt 29 = .ok (.iconst (-1), 1)) ∧ (decode cX13_fitAt 30 = .ok (.if_icmp .ne 11, 3) ∧ decode cX13_fitAt 33 = .ok (.aload_n 0, 1)))) ∧ ((decode cX13_fitAt 34 = .ok (.iconst 1, 1) ∧ (decode cX13_fitAt 35 = .ok (.invokevirtual 55, 3) ∧ decode cX13_fitAt 38 = .ok (.goto 8, 3))) ∧ ((decode cX13_fitAt 41 = .ok (.aload_n 0, 1) ∧ decode cX13_fitAt 42 = .ok (.iload_n 2, 1)) ∧ (decode cX13_fitAt 43 = .ok (.invokevirtual 59, 3) ∧ decode cX13_fitAt 46 = .ok (.ireturn, 1)))))) := ⟨⟨by decide +kernel, by decide +kernel⟩, ⟨by decide +kernel, by decide +kernel⟩⟩
def X13_fitAt_b16 (s : St) (x0 : Int) : Rs :=
  grd (isK s 23 x0) (bnd (X13_refused s x0 1) (fun r2 s3 => some (r2, s3)))
set_option maxRecDepth 100000 in
set_option maxHeartbeats 4000000 in
theorem X13_fitAt_b16_s (G : Gx) (l : Launch) (s : St) (x0 : Int) : V G l mX13_fitAt 16 [(0, (2, x0))] [] s (X13_fitAt_b16 s x0) := by
  unfold X13_fitAt_b16
  refine V_aload_n dec_X13_fitAt.1.2.1.2.2 0 rfl ?_
  refine V_iconst dec_X13_fitAt.1.2.2.1.1 rfl ?_
  refine V_callV0 (ci := 13) (a := x0) (As := [(0, 1)]) (st := []) rfl rfl (X13_refused_s G l s x0 1) cal_X13_refused rfl ml_X13_55 rfl rfl dec_X13_fitAt.1.2.2.1.2 (k_tag (tag := 0) rfl fun r2 s3 => ?_)
  exact V_iret rfl dec_X13_fitAt.1.2.2.2.1
def X13_fitAt_b46 (s : St) (k0 : Int) : Rs :=
  some (k0, s)
set_option maxRecDepth 100000 in
set_option maxHeartbeats 4000000 in
theorem X13_fitAt_b46_s (G : Gx) (l : Launch) (s : St) (k0 : Int) : V G l mX13_fitAt 46 [] [(0, k0)] s (X13_fitAt_b46 s k0) := by
  unfold X13_fitAt_b46
  exact V_iret rfl dec_X13_fitAt.2.2.2.2.2
def X13_fitAt (s : St) (a0 a1 : Int) : Rs :=
  grd (isK s 23 a0) (lets (pI s a0 0 0) (fun s1 => grd (isK s1 23 a0) (if (gR s1 a0 3) < 0 then (X13_fitAt_b16 s1 a0) else (if 0 ≤ a1 then (grd (isK s1 23 a0) (bnd (X13_fitting s1 a0 a1) (fun r4 s5 => if ¬ r4 = ((-1) : Int) then (grd (isK s5 23 a0) (bnd (X13_good s5 a0 r4) (fun r6 s7 => X13_fitAt_b46 s7 r6))) else (grd (isK s5 23 a0) (bnd (X13_refused s5 a0 1) (fun r8 s9 => X13_fitAt_b46 s9 r8)))))) else (X13_fitAt_b16 s1 a0)))))
set_option maxRecDepth 100000 in
set_option maxHeartbeats 4000000 in
theorem X13_fitAt_s (G : Gx) (l : Launch) (s : St) (a0 a1 : Int) : Snd G l mX13_fitAt [(2, a0), (0, a1)] s (X13_fitAt s a0 a1) := by
  refine Snd.of (by decide +kernel) rfl ?_
  show V G l mX13_fitAt 0 [(0, (2, a0)), (1, (0, a1))] [] s _
  unfold X13_fitAt
  refine V_aload_n dec_X13_fitAt.1.1.1.1 0 rfl ?_
  refine V_iconst dec_X13_fitAt.1.1.1.2.1 rfl ?_
  refine V_putI (host := "") 13 0 nf_13_0 ty_13_0 (Or.inl ⟨fl_X13_49, Or.inl rfl⟩) dec_X13_fitAt.1.1.1.2.2 ?_
  refine V_lets fun s1 => ?_
  refine V_aload_n dec_X13_fitAt.1.1.2.1 0 rfl ?_
  refine V_getR 13 3 nf_13_3 ft_13_3 fl_X13_303 dec_X13_fitAt.1.1.2.2.1 ?_
  refine V_ifnull (tgt := 16) dec_X13_fitAt.1.1.2.2.2 (by decide) ?_ ?_
  · exact V_pick [0] rfl (X13_fitAt_b16_s G l s1 a0)
  · refine V_iload_n dec_X13_fitAt.1.2.1.1 1 rfl ?_
    refine V_if_ge (tgt := 22) dec_X13_fitAt.1.2.1.2.1 (by decide) ?_ ?_
    · refine V_aload_n dec_X13_fitAt.1.2.2.2.2 0 rfl ?_
      refine V_iload_n dec_X13_fitAt.2.1.1.1 1 rfl ?_
      refine V_callV0 (ci := 13) (a := a0) (As := [(0, a1)]) (st := []) rfl rfl (X13_fitting_s G l s1 a0 a1) cal_X13_fitting rfl ml_X13_422 rfl rfl dec_X13_fitAt.2.1.1.2.1 (k_tag (tag := 0) rfl fun r4 s5 => ?_)
      refine V_istore_n (lv' := [(2, (0, r4)), (0, (2, a0)), (1, (0, a1))]) dec_X13_fitAt.2.1.1.2.2 (by decide) rfl ?_
      refine V_iload_n dec_X13_fitAt.2.1.2.1.1 0 rfl ?_
      refine V_iconst dec_X13_fitAt.2.1.2.1.2 rfl ?_
      refine V_icmp_ne (tgt := 41) dec_X13_fitAt.2.1.2.2.1 (by decide) ?_ ?_
      · refine V_aload_n dec_X13_fitAt.2.2.2.1.1 1 rfl ?_
        refine V_iload_n dec_X13_fitAt.2.2.2.1.2 0 rfl ?_
        refine V_callV0 (ci := 13) (a := a0) (As := [(0, r4)]) (st := []) rfl rfl (X13_good_s G l s5 a0 r4) cal_X13_good rfl ml_X13_59 rfl rfl dec_X13_fitAt.2.2.2.2.1 (k_tag (tag := 0) rfl fun r6 s7 => ?_)
        exact V_pick [] rfl (X13_fitAt_b46_s G l s7 r6)
      · refine V_aload_n dec_X13_fitAt.2.1.2.2.2 1 rfl ?_
        refine V_iconst dec_X13_fitAt.2.2.1.1 rfl ?_
        refine V_callV0 (ci := 13) (a := a0) (As := [(0, 1)]) (st := []) rfl rfl (X13_refused_s G l s5 a0 1) cal_X13_refused rfl ml_X13_55 rfl rfl dec_X13_fitAt.2.2.1.2.1 (k_tag (tag := 0) rfl fun r8 s9 => ?_)
        refine V_goto (tgt := 46) dec_X13_fitAt.2.2.1.2.2 (by decide) ?_
        exact V_pick [] rfl (X13_fitAt_b46_s G l s9 r8)
    · exact V_pick [0] rfl (X13_fitAt_b16_s G l s1 a0)
theorem dec_X13_fits : ((((decode cX13_fits 0 = .ok (.aload_n 0, 1) ∧ decode cX13_fits 1 = .ok (.iconst 0, 1)) ∧ (decode cX13_fits 2 = .ok (.putfield 49, 3) ∧ decode cX13_fits 5 = .ok (.aload_n 0, 1))) ∧ ((decode cX13_fits 6 = .ok (.getfield 303, 3) ∧ decode cX13_fits 9 = .ok (.ifnonnull 9, 3)) ∧ (decode cX13_fits 12 = .ok (.aload_n 0, 1) ∧ (decode cX13_fits 13 = .ok (.iconst 1, 1) ∧ decode cX13_fits 14 = .ok (.invokevirtual 55, 3))))) ∧ (((decode cX13_fits 17 = .ok (.ireturn, 1) ∧ decode cX13_fits 18 = .ok (.aload_n 0, 1)) ∧ (decode cX13_fits 19 = .ok (.iconst (-1), 1) ∧ (decode cX13_fits 20 = .ok (.invokevirtual 422, 3) ∧ decode cX13_fits 23 = .ok (.pop, 1)))) ∧ ((decode cX13_fits 24 = .ok (.aload_n 0, 1) ∧ decode cX13_fits 25 = .ok (.aload_n 0, 1)) ∧ (decode cX13_fits 26 = .ok (.getfield 410, 3) ∧ (decode cX13_fits 29 = .ok (.invokevirtual 59, 3) ∧ decode cX13_fits 32 = .ok (.ireturn, 1)))))) := ⟨by decide +kernel, by decide +kernel⟩
def X13_fits (s : St) (a0 : Int) : Rs :=
  grd (isK s 23 a0) (lets (pI s a0 0 0) (fun s1 => grd (isK s1 23 a0) (if (gR s1 a0 3) < 0 then (grd (isK s1 23 a0) (bnd (X13_refused s1 a0 1) (fun r6 s7 => some (r6, s7)))) else (grd (isK s1 23 a0) (bnd (X13_fitting s1 a0 (-1)) (fun r2 s3 => grd (isK s3 23 a0) (grd (isK s3 23 a0) (bnd (X13_good s3 a0 (gI s3 a0 26)) (fun r4 s5 => some (r4, s5))))))))))
set_option maxRecDepth 100000 in
set_option maxHeartbeats 4000000 in
theorem X13_fits_s (G : Gx) (l : Launch) (s : St) (a0 : Int) : Snd G l mX13_fits [(2, a0)] s (X13_fits s a0) := by
  refine Snd.of (by decide +kernel) rfl ?_
  show V G l mX13_fits 0 [(0, (2, a0))] [] s _
  unfold X13_fits
  refine V_aload_n dec_X13_fits.1.1.1.1 0 rfl ?_
  refine V_iconst dec_X13_fits.1.1.1.2 rfl ?_
  refine V_putI (host := "") 13 0 nf_13_0 ty_13_0 (Or.inl ⟨fl_X13_49, Or.inl rfl⟩) dec_X13_fits.1.1.2.1 ?_
  refine V_lets fun s1 => ?_
  refine V_aload_n dec_X13_fits.1.1.2.2 0 rfl ?_
  refine V_getR 13 3 nf_13_3 ft_13_3 fl_X13_303 dec_X13_fits.1.2.1.1 ?_
  refine V_ifnonnull (tgt := 18) dec_X13_fits.1.2.1.2 (by decide) ?_ ?_
  · refine V_aload_n dec_X13_fits.1.2.2.1 0 rfl ?_
    refine V_iconst dec_X13_fits.1.2.2.2.1 rfl ?_
    refine V_callV0 (ci := 13) (a := a0) (As := [(0, 1)]) (st := []) rfl rfl (X13_refused_s G l s1 a0 1) cal_X13_refused rfl ml_X13_55 rfl rfl dec_X13_fits.1.2.2.2.2 (k_tag (tag := 0) rfl fun r6 s7 => ?_)
    exact V_iret rfl dec_X13_fits.2.1.1.1
  · refine V_aload_n dec_X13_fits.2.1.1.2 0 rfl ?_
    refine V_iconst dec_X13_fits.2.1.2.1 rfl ?_
    refine V_callV0 (ci := 13) (a := a0) (As := [(0, (-1))]) (st := []) rfl rfl (X13_fitting_s G l s1 a0 (-1)) cal_X13_fitting rfl ml_X13_422 rfl rfl dec_X13_fits.2.1.2.2.1 (k_tag (tag := 0) rfl fun r2 s3 => ?_)
    refine V_pop (nl0 _) dec_X13_fits.2.1.2.2.2 ?_
    refine V_aload_n dec_X13_fits.2.2.1.1 0 rfl ?_
    refine V_aload_n dec_X13_fits.2.2.1.2 0 rfl ?_
    refine V_getI 13 26 nf_13_26 ft_13_26 fl_X13_410 dec_X13_fits.2.2.2.1 ?_
    refine V_callV0 (ci := 13) (a := a0) (As := [(0, (gI s3 a0 26))]) (st := []) rfl rfl (X13_good_s G l s3 a0 (gI s3 a0 26)) cal_X13_good rfl ml_X13_59 rfl rfl dec_X13_fits.2.2.2.2.1 (k_tag (tag := 0) rfl fun r4 s5 => ?_)
    exact V_iret rfl dec_X13_fits.2.2.2.2.2
theorem dec_X13_flaw : ((((decode cX13_flaw 0 = .ok (.aload_n 0, 1) ∧ decode cX13_flaw 1 = .ok (.getfield 81, 3)) ∧ (decode cX13_flaw 4 = .ok (.iconst 5, 1) ∧ decode cX13_flaw 5 = .ok (.if_icmp .ne 4, 3))) ∧ ((decode cX13_flaw 8 = .ok (.return_, 1) ∧ decode cX13_flaw 9 = .ok (.aload_n 0, 1)) ∧ (decode cX13_flaw 10 = .ok (.iload_n 1, 1) ∧ decode cX13_flaw 11 = .ok (.putfield 107, 3)))) ∧ (((decode cX13_flaw 14 = .ok (.aload_n 0, 1) ∧ decode cX13_flaw 15 = .ok (.aload_n 0, 1)) ∧ (decode cX13_flaw 16 = .ok (.getfield 90, 3) ∧ decode cX13_flaw 19 = .ok (.putfield 110, 3))) ∧ ((decode cX13_flaw 22 = .ok (.aload_n 0, 1) ∧ decode cX13_flaw 23 = .ok (.iconst 5, 1)) ∧ (decode cX13_flaw 24 = .ok (.putfield 81, 3) ∧ decode cX13_flaw 27 = .ok (.return_, 1))))) := ⟨by decide +kernel, by decide +kernel⟩
def X13_flaw (s : St) (a0 a1 : Int) : Rs :=
  grd (isK s 23 a0) (if ¬ (gI s a0 9) = (5 : Int) then (grd (isK s 23 a0) (lets (pI s a0 12 a1) (fun s1 => grd (isK s1 23 a0) (grd (isK s1 23 a0) (lets (pI s1 a0 13 (gI s1 a0 10)) (fun s2 => grd (isK s2 23 a0) (lets (pI s2 a0 9 5) (fun s3 => some (0, s3))))))))) else (some (0, s)))
set_option maxRecDepth 100000 in
set_option maxHeartbeats 4000000 in
theorem X13_flaw_s (G : Gx) (l : Launch) (s : St) (a0 a1 : Int) : Snd G l mX13_flaw [(2, a0), (0, a1)] s (X13_flaw s a0 a1) := by
  refine Snd.of (by decide +kernel) rfl ?_
  show V G l mX13_flaw 0 [(0, (2, a0)), (1, (0, a1))] [] s _
  unfold X13_flaw
  refine V_aload_n dec_X13_flaw.1.1.1.1 0 rfl ?_
  refine V_getI 13 9 nf_13_9 ft_13_9 fl_X13_81 dec_X13_flaw.1.1.1.2 ?_
  refine V_iconst dec_X13_flaw.1.1.2.1 rfl ?_
  refine V_icmp_ne (tgt := 9) dec_X13_flaw.1.1.2.2 (by decide) ?_ ?_
  · refine V_aload_n dec_X13_flaw.1.2.1.2 0 rfl ?_
    refine V_iload_n dec_X13_flaw.1.2.2.1 1 rfl ?_
    refine V_putI (host := "") 13 12 nf_13_12 ty_13_12 (Or.inl ⟨fl_X13_107, Or.inl rfl⟩) dec_X13_flaw.1.2.2.2 ?_
    refine V_lets fun s1 => ?_
    refine V_aload_n dec_X13_flaw.2.1.1.1 0 rfl ?_
    refine V_aload_n dec_X13_flaw.2.1.1.2 0 rfl ?_
    refine V_getI 13 10 nf_13_10 ft_13_10 fl_X13_90 dec_X13_flaw.2.1.2.1 ?_
    refine V_putI (host := "") 13 13 nf_13_13 ty_13_13 (Or.inl ⟨fl_X13_110, Or.inl rfl⟩) dec_X13_flaw.2.1.2.2 ?_
    refine V_lets fun s2 => ?_
    refine V_aload_n dec_X13_flaw.2.2.1.1 0 rfl ?_
    refine V_iconst dec_X13_flaw.2.2.1.2 rfl ?_
    refine V_putI (host := "") 13 9 nf_13_9 ty_13_9 (Or.inl ⟨fl_X13_81, Or.inl rfl⟩) dec_X13_flaw.2.2.2.1 ?_
    refine V_lets fun s3 => ?_
    exact V_vret rfl dec_X13_flaw.2.2.2.2
  · exact V_vret rfl dec_X13_flaw.1.2.1.1
theorem dec_X13_fraction : (((decode cX13_fraction 0 = .ok (.aload_n 0, 1) ∧ (decode cX13_fraction 1 = .ok (.iconst 0, 1) ∧ decode cX13_fraction 2 = .ok (.invokevirtual 59, 3))) ∧ ((decode cX13_fraction 5 = .ok (.pop, 1) ∧ decode cX13_fraction 6 = .ok (.iload 5, 2)) ∧ (decode cX13_fraction 8 = .ok (.ifCond .eq 7, 3) ∧ decode cX13_fraction 11 = .ok (.lload_n 3, 1)))) ∧ ((decode cX13_fraction 12 = .ok (.goto 4, 3) ∧ (decode cX13_fraction 15 = .ok (.lload_n 1, 1) ∧ decode cX13_fraction 16 = .ok (.lload_n 1, 1))) ∧ ((decode cX13_fraction 17 = .ok (.lload_n 3, 1) ∧ decode cX13_fraction 18 = .ok (.invokestatic 62, 3)) ∧ (decode cX13_fraction 21 = .ok (.ldiv, 1) ∧ decode cX13_fraction 22 = .ok (.lreturn, 1))))) := ⟨by decide +kernel, by decide +kernel⟩
def X13_fraction_b16 (s : St) (x1 x3 k0 : Int) : Rs :=
  bnd (X13_common s x1 x3) (fun r3 s4 => grd (r3 ≠ 0) (some ((w64 (Int.tdiv k0 r3)), s4)))
set_option maxRecDepth 100000 in
set_option maxHeartbeats 4000000 in
theorem X13_fraction_b16_s (G : Gx) (l : Launch) (s : St) (x1 x3 k0 : Int) : V G l mX13_fraction 16 [(1, (1, x1)), (3, (1, x3))] [(1, k0)] s (X13_fraction_b16 s x1 x3 k0) := by
  unfold X13_fraction_b16
  refine V_lload_n dec_X13_fraction.2.1.2.2 0 rfl ?_
  refine V_lload_n dec_X13_fraction.2.2.1.1 1 rfl ?_
  refine V_callS0 (As := [(1, x1), (1, x3)]) (st := [(1, k0)]) (host := "") rfl (X13_common_s G l s x1 x3) cal_X13_common rfl (Or.inl ml_X13_62) rfl rfl dec_X13_fraction.2.2.1.2 (k_tag (tag := 1) rfl fun r3 s4 => ?_)
  refine V_ldiv dec_X13_fraction.2.2.2.1 ?_
  exact V_lret rfl dec_X13_fraction.2.2.2.2
def X13_fraction (s : St) (a0 a1 a2 a3 : Int) : Rs :=
  grd (isK s 23 a0) (bnd (X13_good s a0 0) (fun r1 s2 => if a3 = 0 then (X13_fraction_b16 s2 a1 a2 a1) else (X13_fraction_b16 s2 a1 a2 a2)))
set_option maxRecDepth 100000 in
set_option maxHeartbeats 4000000 in
theorem X13_fraction_s (G : Gx) (l : Launch) (s : St) (a0 a1 a2 a3 : Int) : Snd G l mX13_fraction [(2, a0), (1, a1), (1, a2), (0, a3)] s (X13_fraction s a0 a1 a2 a3) := by
  refine Snd.of (by decide +kernel) rfl ?_
  show V G l mX13_fraction 0 [(0, (2, a0)), (1, (1, a1)), (3, (1, a2)), (5, (0, a3))] [] s _
  unfold X13_fraction
  refine V_aload_n dec_X13_fraction.1.1.1 0 rfl ?_
  refine V_iconst dec_X13_fraction.1.1.2.1 rfl ?_
  refine V_callV0 (ci := 13) (a := a0) (As := [(0, 0)]) (st := []) rfl rfl (X13_good_s G l s a0 0) cal_X13_good rfl ml_X13_59 rfl rfl dec_X13_fraction.1.1.2.2 (k_tag (tag := 0) rfl fun r1 s2 => ?_)
  refine V_pop (nl0 _) dec_X13_fraction.1.2.1.1 ?_
  refine V_iload dec_X13_fraction.1.2.1.2 3 rfl ?_
  refine V_if_eq (tgt := 15) dec_X13_fraction.1.2.2.1 (by decide) ?_ ?_
  · refine V_lload_n dec_X13_fraction.2.1.2.1 1 rfl ?_
    exact V_pick [1, 2] rfl (X13_fraction_b16_s G l s2 a1 a2 a1)
  · refine V_lload_n dec_X13_fraction.1.2.2.2 2 rfl ?_
    refine V_goto (tgt := 16) dec_X13_fraction.2.1.1 (by decide) ?_
    exact V_pick [1, 2] rfl (X13_fraction_b16_s G l s2 a1 a2 a2)
theorem dec_X13_frees : (((((decode cX13_frees 0 = .ok (.iconst 0, 1) ∧ decode cX13_frees 1 = .ok (.istore_n 1, 1)) ∧ (decode cX13_frees 2 = .ok (.iload_n 1, 1) ∧ (decode cX13_frees 3 = .ok (.aload_n 0, 1) ∧ decode cX13_frees 4 = .ok (.getfield 303, 3)))) ∧ ((decode cX13_frees 7 = .ok (.getfield 193, 3) ∧ (decode cX13_frees 10 = .ok (.if_icmp .ge 64, 3) ∧ decode cX13_frees 13 = .ok (.iload_n 1, 1))) ∧ (decode cX13_frees 14 = .ok (.istore_n 2, 1) ∧ (decode cX13_frees 15 = .ok (.iload_n 2, 1) ∧ decode cX13_frees 16 = .ok (.ifCond .le 40, 3))))) ∧ (((decode cX13_frees 19 = .ok (.aload_n 0, 1) ∧ decode cX13_frees 20 = .ok (.getfield 30, 3)) ∧ (decode cX13_frees 23 = .ok (.iload_n 2, 1) ∧ (decode cX13_frees 24 = .ok (.iconst 1, 1) ∧ decode cX13_frees 25 = .ok (.isub, 1)))) ∧ ((decode cX13_frees 26 = .ok (.iaload, 1) ∧ (decode cX13_frees 27 = .ok (.aload_n 0, 1) ∧ decode cX13_frees 28 = .ok (.getfield 17, 3))) ∧ (decode cX13_frees 31 = .ok (.iload_n 1, 1) ∧ (decode cX13_frees 32 = .ok (.iaload, 1) ∧ decode cX13_frees 33 = .ok (.if_icmp .le 23, 3)))))) ∧ ((((decode cX13_frees 36 = .ok (.aload_n 0, 1) ∧ decode cX13_frees 37 = .ok (.getfield 30, 3)) ∧ (decode cX13_frees 40 = .ok (.iload_n 2, 1) ∧ (decode cX13_frees 41 = .ok (.aload_n 0, 1) ∧ decode cX13_frees 42 = .ok (.getfield 30, 3)))) ∧ ((decode cX13_frees 45 = .ok (.iload_n 2, 1) ∧ (decode cX13_frees 46 = .ok (.iconst 1, 1) ∧ decode cX13_frees 47 = .ok (.isub, 1))) ∧ (decode cX13_frees 48 = .ok (.iaload, 1) ∧ (decode cX13_frees 49 = .ok (.iastore, 1) ∧ decode cX13_frees 50 = .ok (.iinc 2 (-1), 3))))) ∧ (((decode cX13_frees 53 = .ok (.goto (-38), 3) ∧ (decode cX13_frees 56 = .ok (.aload_n 0, 1) ∧ decode cX13_frees 57 = .ok (.getfield 30, 3))) ∧ (decode cX13_frees 60 = .ok (.iload_n 2, 1) ∧ (decode cX13_frees 61 = .ok (.aload_n 0, 1) ∧ decode cX13_frees 62 = .ok (.getfield 17, 3)))) ∧ ((decode cX13_frees 65 = .ok (.iload_n 1, 1) ∧ (decode cX13_frees 66 = .ok (.iaload, 1) ∧ decode cX13_frees 67 = .ok (.iastore, 1))) ∧ (decode cX13_frees 68 = .ok (.iinc 1 1, 3) ∧ (decode cX13_frees 71 = .ok (.goto (-69), 3) ∧ decode cX13_frees 74 = .ok (.return_, 1))))))) := ⟨⟨by decide +kernel, by decide +kernel⟩, ⟨by decide +kernel, by decide +kernel⟩⟩
def X13_frees_b56 (rk2 : St → Int → Int → Rs) (s : St) (x0 x1 x2 : Int) : Rs :=
  grd (isK s 23 x0) (grd (isK s 23 x0) (grd (isK s 1 (gR s x0 15) ∧ 0 ≤ x1 ∧ x1 < ln s (gR s x0 15)) (grd (isK s 1 (gR s x0 21) ∧ 0 ≤ x2 ∧ x2 < ln s (gR s x0 21)) (lets (pI s (gR s x0 21) x2.toNat (gI s (gR s x0 15) x1.toNat)) (fun s1 => rk2 s1 x0 (w32 (x1 + 1)))))))
set_option maxRecDepth 100000 in
set_option maxHeartbeats 4000000 in
theorem X13_frees_b56_s (G : Gx) (l : Launch) (rk2 : St → Int → Int → Rs) (hk2 : ∀ (s : St) (x0 x1 : Int), V G l mX13_frees 2 [(0, (2, x0)), (1, (0, x1))] [] s (rk2 s x0 x1)) (s : St) (x0 x1 x2 : Int) : V G l mX13_frees 56 [(0, (2, x0)), (1, (0, x1)), (2, (0, x2))] [] s (X13_frees_b56 rk2 s x0 x1 x2) := by
  unfold X13_frees_b56
  refine V_aload_n dec_X13_frees.2.2.1.1.2.1 0 rfl ?_
  refine V_getR 13 21 nf_13_21 ft_13_21 fl_X13_30 dec_X13_frees.2.2.1.1.2.2 ?_
  refine V_iload_n dec_X13_frees.2.2.1.2.1 2 rfl ?_
  refine V_aload_n dec_X13_frees.2.2.1.2.2.1 0 rfl ?_
  refine V_getR 13 15 nf_13_15 ft_13_15 fl_X13_17 dec_X13_frees.2.2.1.2.2.2 ?_
  refine V_iload_n dec_X13_frees.2.2.2.1.1 1 rfl ?_
  refine V_iald dec_X13_frees.2.2.2.1.2.1 ?_
  refine V_iast dec_X13_frees.2.2.2.1.2.2 ?_
  refine V_lets fun s1 => ?_
  refine V_iinc (lv' := [(1, (0, (w32 (x1 + 1)))), (0, (2, x0)), (2, (0, x2))]) dec_X13_frees.2.2.2.2.1 1 rfl (by decide) rfl ?_
  refine V_goto (tgt := 2) dec_X13_frees.2.2.2.2.2.1 (by decide) ?_
  exact V_pick [1, 0] rfl (hk2 s1 x0 (w32 (x1 + 1)))
def X13_frees_b15_body (rk2 : St → Int → Int → Rs) (rk15 : St → Int → Int → Int → Rs) (s : St) (x0 x1 x2 : Int) : Rs :=
  if x2 ≤ 0 then (X13_frees_b56 rk2 s x0 x1 x2) else (grd (isK s 23 x0) (grd (isK s 1 (gR s x0 21) ∧ 0 ≤ (w32 (x2 - 1)) ∧ (w32 (x2 - 1)) < ln s (gR s x0 21)) (grd (isK s 23 x0) (grd (isK s 1 (gR s x0 15) ∧ 0 ≤ x1 ∧ x1 < ln s (gR s x0 15)) (if (gI s (gR s x0 21) (w32 (x2 - 1)).toNat) ≤ (gI s (gR s x0 15) x1.toNat) then (X13_frees_b56 rk2 s x0 x1 x2) else (grd (isK s 23 x0) (grd (isK s 23 x0) (grd (isK s 1 (gR s x0 21) ∧ 0 ≤ (w32 (x2 - 1)) ∧ (w32 (x2 - 1)) < ln s (gR s x0 21)) (grd (isK s 1 (gR s x0 21) ∧ 0 ≤ x2 ∧ x2 < ln s (gR s x0 21)) (lets (pI s (gR s x0 21) x2.toNat (gI s (gR s x0 21) (w32 (x2 - 1)).toNat)) (fun s2 => rk15 s2 x0 x1 (w32 (x2 + (-1))))))))))))))
def X13_frees_b15 (rk2 : St → Int → Int → Rs) (n : Nat) (s : St) (x0 x1 x2 : Int) : Rs := iter (fun (rec : St × Int × Int × Int → Rs) (a : St × Int × Int × Int) => X13_frees_b15_body rk2 (fun (s : St) (x0 x1 x2 : Int) => rec (s, x0, x1, x2)) a.1 a.2.1 a.2.2.1 a.2.2.2) n (s, x0, x1, x2)
theorem X13_frees_b15_0 (rk2 : St → Int → Int → Rs) (s : St) (x0 x1 x2 : Int) : X13_frees_b15 rk2 0 s x0 x1 x2 = none := rfl
theorem X13_frees_b15_1 (rk2 : St → Int → Int → Rs) (n : Nat) (s : St) (x0 x1 x2 : Int) : X13_frees_b15 rk2 (n + 1) s x0 x1 x2 = X13_frees_b15_body rk2 (X13_frees_b15 rk2 n) s x0 x1 x2 := rfl
set_option maxRecDepth 100000 in
set_option maxHeartbeats 4000000 in
theorem X13_frees_b15_body_s (G : Gx) (l : Launch) (rk2 : St → Int → Int → Rs) (rk15 : St → Int → Int → Int → Rs) (hk2 : ∀ (s : St) (x0 x1 : Int), V G l mX13_frees 2 [(0, (2, x0)), (1, (0, x1))] [] s (rk2 s x0 x1)) (hk15 : ∀ (s : St) (x0 x1 x2 : Int), V G l mX13_frees 15 [(0, (2, x0)), (1, (0, x1)), (2, (0, x2))] [] s (rk15 s x0 x1 x2)) (s : St) (x0 x1 x2 : Int) : V G l mX13_frees 15 [(0, (2, x0)), (1, (0, x1)), (2, (0, x2))] [] s (X13_frees_b15_body rk2 rk15 s x0 x1 x2) := by
  unfold X13_frees_b15_body
  refine V_iload_n dec_X13_frees.1.1.2.2.2.1 2 rfl ?_
  refine V_if_le (tgt := 56) dec_X13_frees.1.1.2.2.2.2 (by decide) ?_ ?_
  · exact V_pick [0, 1, 2] rfl (X13_frees_b56_s G l rk2 hk2 s x0 x1 x2)
  · refine V_aload_n dec_X13_frees.1.2.1.1.1 0 rfl ?_
    refine V_getR 13 21 nf_13_21 ft_13_21 fl_X13_30 dec_X13_frees.1.2.1.1.2 ?_
    refine V_iload_n dec_X13_frees.1.2.1.2.1 2 rfl ?_
    refine V_iconst dec_X13_frees.1.2.1.2.2.1 rfl ?_
    refine V_isub dec_X13_frees.1.2.1.2.2.2 ?_
    refine V_iald dec_X13_frees.1.2.2.1.1 ?_
    refine V_aload_n dec_X13_frees.1.2.2.1.2.1 0 rfl ?_
    refine V_getR 13 15 nf_13_15 ft_13_15 fl_X13_17 dec_X13_frees.1.2.2.1.2.2 ?_
    refine V_iload_n dec_X13_frees.1.2.2.2.1 1 rfl ?_
    refine V_iald dec_X13_frees.1.2.2.2.2.1 ?_
    refine V_icmp_le (tgt := 56) dec_X13_frees.1.2.2.2.2.2 (by decide) ?_ ?_
    · exact V_pick [0, 1, 2] rfl (X13_frees_b56_s G l rk2 hk2 s x0 x1 x2)
    · refine V_aload_n dec_X13_frees.2.1.1.1.1 0 rfl ?_
      refine V_getR 13 21 nf_13_21 ft_13_21 fl_X13_30 dec_X13_frees.2.1.1.1.2 ?_
      refine V_iload_n dec_X13_frees.2.1.1.2.1 2 rfl ?_
      refine V_aload_n dec_X13_frees.2.1.1.2.2.1 0 rfl ?_
      refine V_getR 13 21 nf_13_21 ft_13_21 fl_X13_30 dec_X13_frees.2.1.1.2.2.2 ?_
      refine V_iload_n dec_X13_frees.2.1.2.1.1 2 rfl ?_
      refine V_iconst dec_X13_frees.2.1.2.1.2.1 rfl ?_
      refine V_isub dec_X13_frees.2.1.2.1.2.2 ?_
      refine V_iald dec_X13_frees.2.1.2.2.1 ?_
      refine V_iast dec_X13_frees.2.1.2.2.2.1 ?_
      refine V_lets fun s2 => ?_
      refine V_iinc (lv' := [(2, (0, (w32 (x2 + (-1))))), (0, (2, x0)), (1, (0, x1))]) dec_X13_frees.2.1.2.2.2.2 2 rfl (by decide) rfl ?_
      refine V_goto (tgt := 15) dec_X13_frees.2.2.1.1.1 (by decide) ?_
      exact V_pick [1, 2, 0] rfl (hk15 s2 x0 x1 (w32 (x2 + (-1))))
theorem X13_frees_b15_s (G : Gx) (l : Launch) (rk2 : St → Int → Int → Rs) (hk2 : ∀ (s : St) (x0 x1 : Int), V G l mX13_frees 2 [(0, (2, x0)), (1, (0, x1))] [] s (rk2 s x0 x1)) (n : Nat) (s : St) (x0 x1 x2 : Int) : V G l mX13_frees 15 [(0, (2, x0)), (1, (0, x1)), (2, (0, x2))] [] s (X13_frees_b15 rk2 n s x0 x1 x2) :=
  V_iter (LV := fun a : St × Int × Int × Int => [(0, (2, a.2.1)), (1, (0, a.2.2.1)), (2, (0, a.2.2.2))]) (ST := fun a : St × Int × Int × Int => []) (SS := fun a : St × Int × Int × Int => a.1) (fun rec hrec a => X13_frees_b15_body_s G l rk2 (fun (s : St) (x0 x1 x2 : Int) => rec (s, x0, x1, x2)) hk2 (fun (s : St) (x0 x1 x2 : Int) => hrec (s, x0, x1, x2)) a.1 a.2.1 a.2.2.1 a.2.2.2) n (s, x0, x1, x2)
def X13_frees_b2_body (rk2 : St → Int → Int → Rs) (s : St) (x0 x1 : Int) : Rs :=
  grd (isK s 23 x0) (grd (isK s 22 (gR s x0 3)) (if (gI s (gR s x0 3) 2) ≤ x1 then (some (0, s)) else (X13_frees_b15 rk2 FU s x0 x1 x1)))
def X13_frees_b2 (n : Nat) (s : St) (x0 x1 : Int) : Rs := iter (fun (rec : St × Int × Int → Rs) (a : St × Int × Int) => X13_frees_b2_body (fun (s : St) (x0 x1 : Int) => rec (s, x0, x1)) a.1 a.2.1 a.2.2) n (s, x0, x1)
theorem X13_frees_b2_0 (s : St) (x0 x1 : Int) : X13_frees_b2 0 s x0 x1 = none := rfl
theorem X13_frees_b2_1 (n : Nat) (s : St) (x0 x1 : Int) : X13_frees_b2 (n + 1) s x0 x1 = X13_frees_b2_body (X13_frees_b2 n) s x0 x1 := rfl
set_option maxRecDepth 100000 in
set_option maxHeartbeats 4000000 in
theorem X13_frees_b2_body_s (G : Gx) (l : Launch) (rk2 : St → Int → Int → Rs) (hk2 : ∀ (s : St) (x0 x1 : Int), V G l mX13_frees 2 [(0, (2, x0)), (1, (0, x1))] [] s (rk2 s x0 x1)) (s : St) (x0 x1 : Int) : V G l mX13_frees 2 [(0, (2, x0)), (1, (0, x1))] [] s (X13_frees_b2_body rk2 s x0 x1) := by
  unfold X13_frees_b2_body
  refine V_iload_n dec_X13_frees.1.1.1.2.1 1 rfl ?_
  refine V_aload_n dec_X13_frees.1.1.1.2.2.1 0 rfl ?_
  refine V_getR 13 3 nf_13_3 ft_13_3 fl_X13_303 dec_X13_frees.1.1.1.2.2.2 ?_
  refine V_getIN RX13 12 2 nf_12_2 ft_12_2 fl_X13_193 dec_X13_frees.1.1.2.1.1 ?_
  refine V_icmp_ge (tgt := 74) dec_X13_frees.1.1.2.1.2.1 (by decide) ?_ ?_
  · exact V_vret rfl dec_X13_frees.2.2.2.2.2.2
  · refine V_iload_n dec_X13_frees.1.1.2.1.2.2 1 rfl ?_
    refine V_istore_n (lv' := [(2, (0, x1)), (0, (2, x0)), (1, (0, x1))]) dec_X13_frees.1.1.2.2.1 (by decide) rfl ?_
    exact V_pick [1, 2, 0] rfl (X13_frees_b15_s G l rk2 hk2 FU s x0 x1 x1)
theorem X13_frees_b2_s (G : Gx) (l : Launch) (n : Nat) (s : St) (x0 x1 : Int) : V G l mX13_frees 2 [(0, (2, x0)), (1, (0, x1))] [] s (X13_frees_b2 n s x0 x1) :=
  V_iter (LV := fun a : St × Int × Int => [(0, (2, a.2.1)), (1, (0, a.2.2))]) (ST := fun a : St × Int × Int => []) (SS := fun a : St × Int × Int => a.1) (fun rec hrec a => X13_frees_b2_body_s G l (fun (s : St) (x0 x1 : Int) => rec (s, x0, x1)) (fun (s : St) (x0 x1 : Int) => hrec (s, x0, x1)) a.1 a.2.1 a.2.2) n (s, x0, x1)
def X13_frees (s : St) (a0 : Int) : Rs :=
  X13_frees_b2 FU s a0 0
set_option maxRecDepth 100000 in
set_option maxHeartbeats 4000000 in
theorem X13_frees_s (G : Gx) (l : Launch) (s : St) (a0 : Int) : Snd G l mX13_frees [(2, a0)] s (X13_frees s a0) := by
  refine Snd.of (by decide +kernel) rfl ?_
  show V G l mX13_frees 0 [(0, (2, a0))] [] s _
  unfold X13_frees
  refine V_iconst dec_X13_frees.1.1.1.1.1 rfl ?_
  refine V_istore_n (lv' := [(1, (0, 0)), (0, (2, a0))]) dec_X13_frees.1.1.1.1.2 (by decide) rfl ?_
  exact V_pick [1, 0] rfl (X13_frees_b2_s G l FU s a0 0)
theorem dec_X13_further : ((((decode cX13_further 0 = .ok (.aload_n 0, 1) ∧ (decode cX13_further 1 = .ok (.ldc2_w 456, 3) ∧ decode cX13_further 4 = .ok (.aload_n 0, 1))) ∧ (decode cX13_further 5 = .ok (.getfield 458, 3) ∧ (decode cX13_further 8 = .ok (.i2l, 1) ∧ decode cX13_further 9 = .ok (.lmul, 1)))) ∧ ((decode cX13_further 10 = .ok (.ldc2_w 461, 3) ∧ (decode cX13_further 13 = .ok (.ladd, 1) ∧ decode cX13_further 14 = .ok (.ldc2_w 463, 3))) ∧ (decode cX13_further 17 = .ok (.lrem, 1) ∧ (decode cX13_further 18 = .ok (.l2i, 1) ∧ decode cX13_further 19 = .ok (.putfield 458, 3))))) ∧ (((decode cX13_further 22 = .ok (.aload_n 0, 1) ∧ (decode cX13_further 23 = .ok (.getfield 458, 3) ∧ decode cX13_further 26 = .ok (.bipush 100, 2))) ∧ (decode cX13_further 28 = .ok (.irem, 1) ∧ (decode cX13_further 29 = .ok (.aload_n 0, 1) ∧ decode cX13_further 30 = .ok (.getfield 303, 3)))) ∧ ((decode cX13_further 33 = .ok (.getfield 221, 3) ∧ (decode cX13_further 36 = .ok (.if_icmp .ge 7, 3) ∧ decode cX13_further 39 = .ok (.iconst 1, 1))) ∧ (decode cX13_further 40 = .ok (.goto 4, 3) ∧ (decode cX13_further 43 = .ok (.iconst 0, 1) ∧ decode cX13_further 44 = .ok (.ireturn, 1)))))) := ⟨by decide +kernel, by decide +kernel⟩
def X13_further_b44 (s : St) (k0 : Int) : Rs :=
  some (k0, s)
set_option maxRecDepth 100000 in
set_option maxHeartbeats 4000000 in
theorem X13_further_b44_s (G : Gx) (l : Launch) (s : St) (k0 : Int) : V G l mX13_further 44 [] [(0, k0)] s (X13_further_b44 s k0) := by
  unfold X13_further_b44
  exact V_iret rfl dec_X13_further.2.2.2.2.2
def X13_further (s : St) (a0 : Int) : Rs :=
  grd (isK s 23 a0) (grd ((65537 : Int) ≠ 0) (grd (isK s 23 a0) (lets (pI s a0 32 (w32 (Int.tmod (w64 ((w64 (75 * (gI s a0 32))) + 74)) 65537))) (fun s1 => grd (isK s1 23 a0) (grd ((100 : Int) ≠ 0) (grd (isK s1 23 a0) (grd (isK s1 22 (gR s1 a0 3)) (if (gI s1 (gR s1 a0 3) 1) ≤ (Int.tmod (gI s1 a0 32) 100) then (X13_further_b44 s1 0) else (X13_further_b44 s1 1)))))))))
set_option maxRecDepth 100000 in
set_option maxHeartbeats 4000000 in
theorem X13_further_s (G : Gx) (l : Launch) (s : St) (a0 : Int) : Snd G l mX13_further [(2, a0)] s (X13_further s a0) := by
  refine Snd.of (by decide +kernel) rfl ?_
  show V G l mX13_further 0 [(0, (2, a0))] [] s _
  unfold X13_further
  refine V_aload_n dec_X13_further.1.1.1.1 0 rfl ?_
  refine V_ldc2 (n := 75) cw_X13_456 (by decide) dec_X13_further.1.1.1.2.1 ?_
  refine V_aload_n dec_X13_further.1.1.1.2.2 0 rfl ?_
  refine V_getI 13 32 nf_13_32 ft_13_32 fl_X13_458 dec_X13_further.1.1.2.1 ?_
  refine V_i2l dec_X13_further.1.1.2.2.1 ?_
  refine V_lmul dec_X13_further.1.1.2.2.2 ?_
  refine V_ldc2 (n := 74) cw_X13_461 (by decide) dec_X13_further.1.2.1.1 ?_
  refine V_ladd dec_X13_further.1.2.1.2.1 ?_
  refine V_ldc2 (n := 65537) cw_X13_463 (by decide) dec_X13_further.1.2.1.2.2 ?_
  refine V_lrem dec_X13_further.1.2.2.1 ?_
  refine V_l2i dec_X13_further.1.2.2.2.1 ?_
  refine V_putI (host := "") 13 32 nf_13_32 ty_13_32 (Or.inl ⟨fl_X13_458, Or.inl rfl⟩) dec_X13_further.1.2.2.2.2 ?_
  refine V_lets fun s1 => ?_
  refine V_aload_n dec_X13_further.2.1.1.1 0 rfl ?_
  refine V_getI 13 32 nf_13_32 ft_13_32 fl_X13_458 dec_X13_further.2.1.1.2.1 ?_
  refine V_bipush dec_X13_further.2.1.1.2.2 rfl ?_
  refine V_irem dec_X13_further.2.1.2.1 ?_
  refine V_aload_n dec_X13_further.2.1.2.2.1 0 rfl ?_
  refine V_getR 13 3 nf_13_3 ft_13_3 fl_X13_303 dec_X13_further.2.1.2.2.2 ?_
  refine V_getIN RX13 12 1 nf_12_1 ft_12_1 fl_X13_221 dec_X13_further.2.2.1.1 ?_
  refine V_icmp_ge (tgt := 43) dec_X13_further.2.2.1.2.1 (by decide) ?_ ?_
  · refine V_iconst dec_X13_further.2.2.2.2.1 rfl ?_
    exact V_pick [] rfl (X13_further_b44_s G l s1 0)
  · refine V_iconst dec_X13_further.2.2.1.2.2 rfl ?_
    refine V_goto (tgt := 44) dec_X13_further.2.2.2.1 (by decide) ?_
    exact V_pick [] rfl (X13_further_b44_s G l s1 1)
theorem dec_X13_remembers : (((((decode cX13_remembers 0 = .ok (.aload_n 0, 1) ∧ (decode cX13_remembers 1 = .ok (.getfield 308, 3) ∧ decode cX13_remembers 4 = .ok (.bipush 16, 2))) ∧ (decode cX13_remembers 6 = .ok (.if_icmp .ne 43, 3) ∧ (decode cX13_remembers 9 = .ok (.iconst 0, 1) ∧ decode cX13_remembers 10 = .ok (.istore_n 1, 1)))) ∧ ((decode cX13_remembers 11 = .ok (.iload_n 1, 1) ∧ (decode cX13_remembers 12 = .ok (.sipush 285, 3) ∧ decode cX13_remembers 15 = .ok (.if_icmp .ge 24, 3))) ∧ ((decode cX13_remembers 18 = .ok (.aload_n 0, 1) ∧ decode cX13_remembers 19 = .ok (.getfield 24, 3)) ∧ (decode cX13_remembers 22 = .ok (.iload_n 1, 1) ∧ decode cX13_remembers 23 = .ok (.aload_n 0, 1))))) ∧ (((decode cX13_remembers 24 = .ok (.getfield 24, 3) ∧ (decode cX13_remembers 27 = .ok (.iload_n 1, 1) ∧ decode cX13_remembers 28 = .ok (.bipush 19, 2))) ∧ ((decode cX13_remembers 30 = .ok (.iadd, 1) ∧ decode cX13_remembers 31 = .ok (.iaload, 1)) ∧ (decode cX13_remembers 32 = .ok (.iastore, 1) ∧ decode cX13_remembers 33 = .ok (.iinc 1 1, 3)))) ∧ ((decode cX13_remembers 36 = .ok (.goto (-25), 3) ∧ (decode cX13_remembers 39 = .ok (.aload_n 0, 1) ∧ decode cX13_remembers 40 = .ok (.dup, 1))) ∧ ((decode cX13_remembers 41 = .ok (.getfield 308, 3) ∧ decode cX13_remembers 44 = .ok (.iconst 1, 1)) ∧ (decode cX13_remembers 45 = .ok (.isub, 1) ∧ decode cX13_remembers 46 = .ok (.putfield 308, 3)))))) ∧ ((((decode cX13_remembers 49 = .ok (.iconst 0, 1) ∧ (decode cX13_remembers 50 = .ok (.istore_n 1, 1) ∧ decode cX13_remembers 51 = .ok (.iload_n 1, 1))) ∧ (decode cX13_remembers 52 = .ok (.bipush 19, 2) ∧ (decode cX13_remembers 54 = .ok (.if_icmp .ge 29, 3) ∧ decode cX13_remembers 57 = .ok (.aload_n 0, 1)))) ∧ ((decode cX13_remembers 58 = .ok (.getfield 24, 3) ∧ (decode cX13_remembers 61 = .ok (.bipush 19, 2) ∧ decode cX13_remembers 63 = .ok (.aload_n 0, 1))) ∧ ((decode cX13_remembers 64 = .ok (.getfield 308, 3) ∧ decode cX13_remembers 67 = .ok (.imul, 1)) ∧ (decode cX13_remembers 68 = .ok (.iload_n 1, 1) ∧ decode cX13_remembers 69 = .ok (.iadd, 1))))) ∧ (((decode cX13_remembers 70 = .ok (.aload_n 0, 1) ∧ (decode cX13_remembers 71 = .ok (.getfield 17, 3) ∧ decode cX13_remembers 74 = .ok (.iload_n 1, 1))) ∧ ((decode cX13_remembers 75 = .ok (.iaload, 1) ∧ decode cX13_remembers 76 = .ok (.iastore, 1)) ∧ (decode cX13_remembers 77 = .ok (.iinc 1 1, 3) ∧ decode cX13_remembers 80 = .ok (.goto (-29), 3)))) ∧ ((decode cX13_remembers 83 = .ok (.aload_n 0, 1) ∧ (decode cX13_remembers 84 = .ok (.dup, 1) ∧ decode cX13_remembers 85 = .ok (.getfield 308, 3))) ∧ ((decode cX13_remembers 88 = .ok (.iconst 1, 1) ∧ decode cX13_remembers 89 = .ok (.iadd, 1)) ∧ (decode cX13_remembers 90 = .ok (.putfield 308, 3) ∧ decode cX13_remembers 93 = .ok (.return_, 1))))))) := ⟨⟨⟨by decide +kernel, by decide +kernel⟩, ⟨by decide +kernel, by decide +kernel⟩⟩, ⟨⟨by decide +kernel, by decide +kernel⟩, ⟨by decide +kernel, by decide +kernel⟩⟩⟩
def X13_remembers_b51_body (rk51 : St → Int → Int → Rs) (s : St) (x0 x1 : Int) : Rs :=
  if (19 : Int) ≤ x1 then (grd (isK s 23 x0) (grd (isK s 23 x0) (lets (pI s x0 19 (w32 ((gI s x0 19) + 1))) (fun s1 => some (0, s1))))) else (grd (isK s 23 x0) (grd (isK s 23 x0) (grd (isK s 23 x0) (grd (isK s 1 (gR s x0 15) ∧ 0 ≤ x1 ∧ x1 < ln s (gR s x0 15)) (grd (isK s 1 (gR s x0 17) ∧ 0 ≤ (w32 ((w32 (19 * (gI s x0 19))) + x1)) ∧ (w32 ((w32 (19 * (gI s x0 19))) + x1)) < ln s (gR s x0 17)) (lets (pI s (gR s x0 17) (w32 ((w32 (19 * (gI s x0 19))) + x1)).toNat (gI s (gR s x0 15) x1.toNat)) (fun s2 => rk51 s2 x0 (w32 (x1 + 1)))))))))
def X13_remembers_b51 (n : Nat) (s : St) (x0 x1 : Int) : Rs := iter (fun (rec : St × Int × Int → Rs) (a : St × Int × Int) => X13_remembers_b51_body (fun (s : St) (x0 x1 : Int) => rec (s, x0, x1)) a.1 a.2.1 a.2.2) n (s, x0, x1)
theorem X13_remembers_b51_0 (s : St) (x0 x1 : Int) : X13_remembers_b51 0 s x0 x1 = none := rfl
theorem X13_remembers_b51_1 (n : Nat) (s : St) (x0 x1 : Int) : X13_remembers_b51 (n + 1) s x0 x1 = X13_remembers_b51_body (X13_remembers_b51 n) s x0 x1 := rfl
set_option maxRecDepth 100000 in
set_option maxHeartbeats 4000000 in
theorem X13_remembers_b51_body_s (G : Gx) (l : Launch) (rk51 : St → Int → Int → Rs) (hk51 : ∀ (s : St) (x0 x1 : Int), V G l mX13_remembers 51 [(0, (2, x0)), (1, (0, x1))] [] s (rk51 s x0 x1)) (s : St) (x0 x1 : Int) : V G l mX13_remembers 51 [(0, (2, x0)), (1, (0, x1))] [] s (X13_remembers_b51_body rk51 s x0 x1) := by
  unfold X13_remembers_b51_body
  refine V_iload_n dec_X13_remembers.2.1.1.1.2.2 1 rfl ?_
  refine V_bipush dec_X13_remembers.2.1.1.2.1 rfl ?_
  refine V_icmp_ge (tgt := 83) dec_X13_remembers.2.1.1.2.2.1 (by decide) ?_ ?_
  · refine V_aload_n dec_X13_remembers.2.2.2.1.1 0 rfl ?_
    refine V_dup (nl2 _) dec_X13_remembers.2.2.2.1.2.1 ?_
    refine V_getI 13 19 nf_13_19 ft_13_19 fl_X13_308 dec_X13_remembers.2.2.2.1.2.2 ?_
    refine V_iconst dec_X13_remembers.2.2.2.2.1.1 rfl ?_
    refine V_iadd dec_X13_remembers.2.2.2.2.1.2 ?_
    refine V_putI (host := "") 13 19 nf_13_19 ty_13_19 (Or.inl ⟨fl_X13_308, Or.inl rfl⟩) dec_X13_remembers.2.2.2.2.2.1 ?_
    refine V_lets fun s1 => ?_
    exact V_vret rfl dec_X13_remembers.2.2.2.2.2.2
  · refine V_aload_n dec_X13_remembers.2.1.1.2.2.2 0 rfl ?_
    refine V_getR 13 17 nf_13_17 ft_13_17 fl_X13_24 dec_X13_remembers.2.1.2.1.1 ?_
    refine V_bipush dec_X13_remembers.2.1.2.1.2.1 rfl ?_
    refine V_aload_n dec_X13_remembers.2.1.2.1.2.2 0 rfl ?_
    refine V_getI 13 19 nf_13_19 ft_13_19 fl_X13_308 dec_X13_remembers.2.1.2.2.1.1 ?_
    refine V_imul dec_X13_remembers.2.1.2.2.1.2 ?_
    refine V_iload_n dec_X13_remembers.2.1.2.2.2.1 1 rfl ?_
    refine V_iadd dec_X13_remembers.2.1.2.2.2.2 ?_
    refine V_aload_n dec_X13_remembers.2.2.1.1.1 0 rfl ?_
    refine V_getR 13 15 nf_13_15 ft_13_15 fl_X13_17 dec_X13_remembers.2.2.1.1.2.1 ?_
    refine V_iload_n dec_X13_remembers.2.2.1.1.2.2 1 rfl ?_
    refine V_iald dec_X13_remembers.2.2.1.2.1.1 ?_
    refine V_iast dec_X13_remembers.2.2.1.2.1.2 ?_
    refine V_lets fun s2 => ?_
    refine V_iinc (lv' := [(1, (0, (w32 (x1 + 1)))), (0, (2, x0))]) dec_X13_remembers.2.2.1.2.2.1 1 rfl (by decide) rfl ?_
    refine V_goto (tgt := 51) dec_X13_remembers.2.2.1.2.2.2 (by decide) ?_
    exact V_pick [1, 0] rfl (hk51 s2 x0 (w32 (x1 + 1)))
theorem X13_remembers_b51_s (G : Gx) (l : Launch) (n : Nat) (s : St) (x0 x1 : Int) : V G l mX13_remembers 51 [(0, (2, x0)), (1, (0, x1))] [] s (X13_remembers_b51 n s x0 x1) :=
  V_iter (LV := fun a : St × Int × Int => [(0, (2, a.2.1)), (1, (0, a.2.2))]) (ST := fun a : St × Int × Int => []) (SS := fun a : St × Int × Int => a.1) (fun rec hrec a => X13_remembers_b51_body_s G l (fun (s : St) (x0 x1 : Int) => rec (s, x0, x1)) (fun (s : St) (x0 x1 : Int) => hrec (s, x0, x1)) a.1 a.2.1 a.2.2) n (s, x0, x1)
def X13_remembers_b49 (s : St) (x0 : Int) : Rs :=
  X13_remembers_b51 FU s x0 0
set_option maxRecDepth 100000 in
set_option maxHeartbeats 4000000 in
theorem X13_remembers_b49_s (G : Gx) (l : Launch) (s : St) (x0 : Int) : V G l mX13_remembers 49 [(0, (2, x0))] [] s (X13_remembers_b49 s x0) := by
  unfold X13_remembers_b49
  refine V_iconst dec_X13_remembers.2.1.1.1.1 rfl ?_
  refine V_istore_n (lv' := [(1, (0, 0)), (0, (2, x0))]) dec_X13_remembers.2.1.1.1.2.1 (by decide) rfl ?_
  exact V_pick [1, 0] rfl (X13_remembers_b51_s G l FU s x0 0)
def X13_remembers_b11_body (rk11 : St → Int → Int → Rs) (s : St) (x0 x1 : Int) : Rs :=
  if (285 : Int) ≤ x1 then (grd (isK s 23 x0) (grd (isK s 23 x0) (lets (pI s x0 19 (w32 ((gI s x0 19) - 1))) (fun s3 => X13_remembers_b49 s3 x0)))) else (grd (isK s 23 x0) (grd (isK s 23 x0) (grd (isK s 1 (gR s x0 17) ∧ 0 ≤ (w32 (x1 + 19)) ∧ (w32 (x1 + 19)) < ln s (gR s x0 17)) (grd (isK s 1 (gR s x0 17) ∧ 0 ≤ x1 ∧ x1 < ln s (gR s x0 17)) (lets (pI s (gR s x0 17) x1.toNat (gI s (gR s x0 17) (w32 (x1 + 19)).toNat)) (fun s4 => rk11 s4 x0 (w32 (x1 + 1))))))))
def X13_remembers_b11 (n : Nat) (s : St) (x0 x1 : Int) : Rs := iter (fun (rec : St × Int × Int → Rs) (a : St × Int × Int) => X13_remembers_b11_body (fun (s : St) (x0 x1 : Int) => rec (s, x0, x1)) a.1 a.2.1 a.2.2) n (s, x0, x1)
theorem X13_remembers_b11_0 (s : St) (x0 x1 : Int) : X13_remembers_b11 0 s x0 x1 = none := rfl
theorem X13_remembers_b11_1 (n : Nat) (s : St) (x0 x1 : Int) : X13_remembers_b11 (n + 1) s x0 x1 = X13_remembers_b11_body (X13_remembers_b11 n) s x0 x1 := rfl
set_option maxRecDepth 100000 in
set_option maxHeartbeats 4000000 in
theorem X13_remembers_b11_body_s (G : Gx) (l : Launch) (rk11 : St → Int → Int → Rs) (hk11 : ∀ (s : St) (x0 x1 : Int), V G l mX13_remembers 11 [(0, (2, x0)), (1, (0, x1))] [] s (rk11 s x0 x1)) (s : St) (x0 x1 : Int) : V G l mX13_remembers 11 [(0, (2, x0)), (1, (0, x1))] [] s (X13_remembers_b11_body rk11 s x0 x1) := by
  unfold X13_remembers_b11_body
  refine V_iload_n dec_X13_remembers.1.1.2.1.1 1 rfl ?_
  refine V_sipush dec_X13_remembers.1.1.2.1.2.1 rfl ?_
  refine V_icmp_ge (tgt := 39) dec_X13_remembers.1.1.2.1.2.2 (by decide) ?_ ?_
  · refine V_aload_n dec_X13_remembers.1.2.2.1.2.1 0 rfl ?_
    refine V_dup (nl2 _) dec_X13_remembers.1.2.2.1.2.2 ?_
    refine V_getI 13 19 nf_13_19 ft_13_19 fl_X13_308 dec_X13_remembers.1.2.2.2.1.1 ?_
    refine V_iconst dec_X13_remembers.1.2.2.2.1.2 rfl ?_
    refine V_isub dec_X13_remembers.1.2.2.2.2.1 ?_
    refine V_putI (host := "") 13 19 nf_13_19 ty_13_19 (Or.inl ⟨fl_X13_308, Or.inl rfl⟩) dec_X13_remembers.1.2.2.2.2.2 ?_
    refine V_lets fun s3 => ?_
    exact V_pick [0] rfl (X13_remembers_b49_s G l s3 x0)
  · refine V_aload_n dec_X13_remembers.1.1.2.2.1.1 0 rfl ?_
    refine V_getR 13 17 nf_13_17 ft_13_17 fl_X13_24 dec_X13_remembers.1.1.2.2.1.2 ?_
    refine V_iload_n dec_X13_remembers.1.1.2.2.2.1 1 rfl ?_
    refine V_aload_n dec_X13_remembers.1.1.2.2.2.2 0 rfl ?_
    refine V_getR 13 17 nf_13_17 ft_13_17 fl_X13_24 dec_X13_remembers.1.2.1.1.1 ?_
    refine V_iload_n dec_X13_remembers.1.2.1.1.2.1 1 rfl ?_
    refine V_bipush dec_X13_remembers.1.2.1.1.2.2 rfl ?_
    refine V_iadd dec_X13_remembers.1.2.1.2.1.1 ?_
    refine V_iald dec_X13_remembers.1.2.1.2.1.2 ?_
    refine V_iast dec_X13_remembers.1.2.1.2.2.1 ?_
    refine V_lets fun s4 => ?_
    refine V_iinc (lv' := [(1, (0, (w32 (x1 + 1)))), (0, (2, x0))]) dec_X13_remembers.1.2.1.2.2.2 1 rfl (by decide) rfl ?_
    refine V_goto (tgt := 11) dec_X13_remembers.1.2.2.1.1 (by decide) ?_
    exact V_pick [1, 0] rfl (hk11 s4 x0 (w32 (x1 + 1)))
theorem X13_remembers_b11_s (G : Gx) (l : Launch) (n : Nat) (s : St) (x0 x1 : Int) : V G l mX13_remembers 11 [(0, (2, x0)), (1, (0, x1))] [] s (X13_remembers_b11 n s x0 x1) :=
  V_iter (LV := fun a : St × Int × Int => [(0, (2, a.2.1)), (1, (0, a.2.2))]) (ST := fun a : St × Int × Int => []) (SS := fun a : St × Int × Int => a.1) (fun rec hrec a => X13_remembers_b11_body_s G l (fun (s : St) (x0 x1 : Int) => rec (s, x0, x1)) (fun (s : St) (x0 x1 : Int) => hrec (s, x0, x1)) a.1 a.2.1 a.2.2) n (s, x0, x1)
def X13_remembers (s : St) (a0 : Int) : Rs :=
  grd (isK s 23 a0) (if ¬ (gI s a0 19) = (16 : Int) then (X13_remembers_b49 s a0) else (X13_remembers_b11 FU s a0 0))
set_option maxRecDepth 100000 in
set_option maxHeartbeats 4000000 in
theorem X13_remembers_s (G : Gx) (l : Launch) (s : St) (a0 : Int) : Snd G l mX13_remembers [(2, a0)] s (X13_remembers s a0) := by
  refine Snd.of (by decide +kernel) rfl ?_
  show V G l mX13_remembers 0 [(0, (2, a0))] [] s _
  unfold X13_remembers
  refine V_aload_n dec_X13_remembers.1.1.1.1.1 0 rfl ?_
  refine V_getI 13 19 nf_13_19 ft_13_19 fl_X13_308 dec_X13_remembers.1.1.1.1.2.1 ?_
  refine V_bipush dec_X13_remembers.1.1.1.1.2.2 rfl ?_
  refine V_icmp_ne (tgt := 49) dec_X13_remembers.1.1.1.2.1 (by decide) ?_ ?_
  · exact V_pick [0] rfl (X13_remembers_b49_s G l s a0)
  · refine V_iconst dec_X13_remembers.1.1.1.2.2.1 rfl ?_
    refine V_istore_n (lv' := [(1, (0, 0)), (0, (2, a0))]) dec_X13_remembers.1.1.1.2.2.2 (by decide) rfl ?_
    exact V_pick [1, 0] rfl (X13_remembers_b11_s G l FU s a0 0)
theorem dec_X13_hangs : ((((decode cX13_hangs 0 = .ok (.aload_n 0, 1) ∧ (decode cX13_hangs 1 = .ok (.getfield 17, 3) ∧ decode cX13_hangs 4 = .ok (.bipush 12, 2))) ∧ (decode cX13_hangs 6 = .ok (.iload_n 1, 1) ∧ (decode cX13_hangs 7 = .ok (.iadd, 1) ∧ decode cX13_hangs 8 = .ok (.iaload, 1)))) ∧ ((decode cX13_hangs 9 = .ok (.iload_n 2, 1) ∧ (decode cX13_hangs 10 = .ok (.if_icmp .ne 9, 3) ∧ decode cX13_hangs 13 = .ok (.aload_n 0, 1))) ∧ (decode cX13_hangs 14 = .ok (.iconst 5, 1) ∧ (decode cX13_hangs 15 = .ok (.invokevirtual 472, 3) ∧ decode cX13_hangs 18 = .ok (.ireturn, 1))))) ∧ (((decode cX13_hangs 19 = .ok (.aload_n 0, 1) ∧ (decode cX13_hangs 20 = .ok (.invokevirtual 469, 3) ∧ decode cX13_hangs 23 = .ok (.aload_n 0, 1))) ∧ (decode cX13_hangs 24 = .ok (.getfield 17, 3) ∧ (decode cX13_hangs 27 = .ok (.bipush 12, 2) ∧ decode cX13_hangs 29 = .ok (.iload_n 1, 1)))) ∧ ((decode cX13_hangs 30 = .ok (.iadd, 1) ∧ (decode cX13_hangs 31 = .ok (.iload_n 2, 1) ∧ decode cX13_hangs 32 = .ok (.iastore, 1))) ∧ (decode cX13_hangs 33 = .ok (.aload_n 0, 1) ∧ (decode cX13_hangs 34 = .ok (.invokevirtual 475, 3) ∧ decode cX13_hangs 37 = .ok (.ireturn, 1)))))) := ⟨by decide +kernel, by decide +kernel⟩
def X13_hangs (s : St) (a0 a1 a2 : Int) : Rs :=
  grd (isK s 23 a0) (grd (isK s 1 (gR s a0 15) ∧ 0 ≤ (w32 (12 + a1)) ∧ (w32 (12 + a1)) < ln s (gR s a0 15)) (if ¬ (gI s (gR s a0 15) (w32 (12 + a1)).toNat) = a2 then (grd (isK s 23 a0) (bnd (X13_remembers s a0) (fun r1 s2 => grd (isK s2 23 a0) (grd (isK s2 1 (gR s2 a0 15) ∧ 0 ≤ (w32 (12 + a1)) ∧ (w32 (12 + a1)) < ln s2 (gR s2 a0 15)) (lets (pI s2 (gR s2 a0 15) (w32 (12 + a1)).toNat a2) (fun s3 => grd (isK s3 23 a0) (bnd (X13_granted s3 a0) (fun r4 s5 => grd (r4 = 0 ∨ r4 = 1) (some (r4, s5)))))))))) else (grd (isK s 23 a0) (bnd (X13_denied s a0 5) (fun r6 s7 => grd (r6 = 0 ∨ r6 = 1) (some (r6, s7)))))))
set_option maxRecDepth 100000 in
set_option maxHeartbeats 4000000 in
theorem X13_hangs_s (G : Gx) (l : Launch) (s : St) (a0 a1 a2 : Int) : Snd G l mX13_hangs [(2, a0), (0, a1), (0, a2)] s (X13_hangs s a0 a1 a2) := by
  refine Snd.of (by decide +kernel) rfl ?_
  show V G l mX13_hangs 0 [(0, (2, a0)), (1, (0, a1)), (2, (0, a2))] [] s _
  unfold X13_hangs
  refine V_aload_n dec_X13_hangs.1.1.1.1 0 rfl ?_
  refine V_getR 13 15 nf_13_15 ft_13_15 fl_X13_17 dec_X13_hangs.1.1.1.2.1 ?_
  refine V_bipush dec_X13_hangs.1.1.1.2.2 rfl ?_
  refine V_iload_n dec_X13_hangs.1.1.2.1 1 rfl ?_
  refine V_iadd dec_X13_hangs.1.1.2.2.1 ?_
  refine V_iald dec_X13_hangs.1.1.2.2.2 ?_
  refine V_iload_n dec_X13_hangs.1.2.1.1 2 rfl ?_
  refine V_icmp_ne (tgt := 19) dec_X13_hangs.1.2.1.2.1 (by decide) ?_ ?_
  · refine V_aload_n dec_X13_hangs.2.1.1.1 0 rfl ?_
    refine V_callV0 (ci := 13) (a := a0) (As := []) (st := []) rfl rfl (X13_remembers_s G l s a0) cal_X13_remembers rfl ml_X13_469 rfl rfl dec_X13_hangs.2.1.1.2.1 (k_void rfl fun r1 s2 => ?_)
    refine V_aload_n dec_X13_hangs.2.1.1.2.2 0 rfl ?_
    refine V_getR 13 15 nf_13_15 ft_13_15 fl_X13_17 dec_X13_hangs.2.1.2.1 ?_
    refine V_bipush dec_X13_hangs.2.1.2.2.1 rfl ?_
    refine V_iload_n dec_X13_hangs.2.1.2.2.2 1 rfl ?_
    refine V_iadd dec_X13_hangs.2.2.1.1 ?_
    refine V_iload_n dec_X13_hangs.2.2.1.2.1 2 rfl ?_
    refine V_iast dec_X13_hangs.2.2.1.2.2 ?_
    refine V_lets fun s3 => ?_
    refine V_aload_n dec_X13_hangs.2.2.2.1 0 rfl ?_
    refine V_callV0 (ci := 13) (a := a0) (As := []) (st := []) rfl rfl (X13_granted_s G l s3 a0) cal_X13_granted rfl ml_X13_475 rfl rfl dec_X13_hangs.2.2.2.2.1 (k_tag (tag := 0) rfl fun r4 s5 => ?_)
    exact V_zret rfl dec_X13_hangs.2.2.2.2.2
  · refine V_aload_n dec_X13_hangs.1.2.1.2.2 0 rfl ?_
    refine V_iconst dec_X13_hangs.1.2.2.1 rfl ?_
    refine V_callV0 (ci := 13) (a := a0) (As := [(0, 5)]) (st := []) rfl rfl (X13_denied_s G l s a0 5) cal_X13_denied rfl ml_X13_472 rfl rfl dec_X13_hangs.1.2.2.2.1 (k_tag (tag := 0) rfl fun r6 s7 => ?_)
    exact V_zret rfl dec_X13_hangs.1.2.2.2.2
theorem dec_X13_hang : ((((decode cX13_hang 0 = .ok (.aload_n 0, 1) ∧ decode cX13_hang 1 = .ok (.iconst 0, 1)) ∧ (decode cX13_hang 2 = .ok (.putfield 49, 3) ∧ (decode cX13_hang 5 = .ok (.aload_n 0, 1) ∧ decode cX13_hang 6 = .ok (.iload_n 1, 1)))) ∧ ((decode cX13_hang 7 = .ok (.invokevirtual 348, 3) ∧ decode cX13_hang 10 = .ok (.ifCond .eq 20, 3)) ∧ (decode cX13_hang 13 = .ok (.aload_n 0, 1) ∧ (decode cX13_hang 14 = .ok (.iload_n 2, 1) ∧ decode cX13_hang 15 = .ok (.invokevirtual 351, 3))))) ∧ (((decode cX13_hang 18 = .ok (.ifCond .eq 12, 3) ∧ decode cX13_hang 21 = .ok (.aload_n 0, 1)) ∧ (decode cX13_hang 22 = .ok (.iload_n 1, 1) ∧ (decode cX13_hang 23 = .ok (.iload_n 2, 1) ∧ decode cX13_hang 24 = .ok (.invokevirtual 478, 3)))) ∧ ((decode cX13_hang 27 = .ok (.goto 8, 3) ∧ decode cX13_hang 30 = .ok (.aload_n 0, 1)) ∧ (decode cX13_hang 31 = .ok (.iconst 1, 1) ∧ (decode cX13_hang 32 = .ok (.invokevirtual 472, 3) ∧ decode cX13_hang 35 = .ok (.ireturn, 1)))))) := ⟨by decide +kernel, by decide +kernel⟩
def X13_hang_b35 (s : St) (k0 : Int) : Rs :=
  grd (k0 = 0 ∨ k0 = 1) (some (k0, s))
set_option maxRecDepth 100000 in
set_option maxHeartbeats 4000000 in
theorem X13_hang_b35_s (G : Gx) (l : Launch) (s : St) (k0 : Int) : V G l mX13_hang 35 [] [(0, k0)] s (X13_hang_b35 s k0) := by
  unfold X13_hang_b35
  exact V_zret rfl dec_X13_hang.2.2.2.2.2
def X13_hang_b30 (s : St) (x0 : Int) : Rs :=
  grd (isK s 23 x0) (bnd (X13_denied s x0 1) (fun r4 s5 => X13_hang_b35 s5 r4))
set_option maxRecDepth 100000 in
set_option maxHeartbeats 4000000 in
theorem X13_hang_b30_s (G : Gx) (l : Launch) (s : St) (x0 : Int) : V G l mX13_hang 30 [(0, (2, x0))] [] s (X13_hang_b30 s x0) := by
  unfold X13_hang_b30
  refine V_aload_n dec_X13_hang.2.2.1.2 0 rfl ?_
  refine V_iconst dec_X13_hang.2.2.2.1 rfl ?_
  refine V_callV0 (ci := 13) (a := x0) (As := [(0, 1)]) (st := []) rfl rfl (X13_denied_s G l s x0 1) cal_X13_denied rfl ml_X13_472 rfl rfl dec_X13_hang.2.2.2.2.1 (k_tag (tag := 0) rfl fun r4 s5 => ?_)
  exact V_pick [] rfl (X13_hang_b35_s G l s5 r4)
def X13_hang (s : St) (a0 a1 a2 : Int) : Rs :=
  grd (isK s 23 a0) (lets (pI s a0 0 0) (fun s1 => grd (isK s1 23 a0) (bnd (X13_isDead s1 a0 a1) (fun r2 s3 => if r2 = 0 then (X13_hang_b30 s3 a0) else (grd (isK s3 23 a0) (bnd (X13_isHouse s3 a0 a2) (fun r6 s7 => if r6 = 0 then (X13_hang_b30 s7 a0) else (grd (isK s7 23 a0) (bnd (X13_hangs s7 a0 a1 a2) (fun r8 s9 => X13_hang_b35 s9 r8))))))))))
set_option maxRecDepth 100000 in
set_option maxHeartbeats 4000000 in
theorem X13_hang_s (G : Gx) (l : Launch) (s : St) (a0 a1 a2 : Int) : Snd G l mX13_hang [(2, a0), (0, a1), (0, a2)] s (X13_hang s a0 a1 a2) := by
  refine Snd.of (by decide +kernel) rfl ?_
  show V G l mX13_hang 0 [(0, (2, a0)), (1, (0, a1)), (2, (0, a2))] [] s _
  unfold X13_hang
  refine V_aload_n dec_X13_hang.1.1.1.1 0 rfl ?_
  refine V_iconst dec_X13_hang.1.1.1.2 rfl ?_
  refine V_putI (host := "") 13 0 nf_13_0 ty_13_0 (Or.inl ⟨fl_X13_49, Or.inl rfl⟩) dec_X13_hang.1.1.2.1 ?_
  refine V_lets fun s1 => ?_
  refine V_aload_n dec_X13_hang.1.1.2.2.1 0 rfl ?_
  refine V_iload_n dec_X13_hang.1.1.2.2.2 1 rfl ?_
  refine V_callV0 (ci := 13) (a := a0) (As := [(0, a1)]) (st := []) rfl rfl (X13_isDead_s G l s1 a0 a1) cal_X13_isDead rfl ml_X13_348 rfl rfl dec_X13_hang.1.2.1.1 (k_tag (tag := 0) rfl fun r2 s3 => ?_)
  refine V_if_eq (tgt := 30) dec_X13_hang.1.2.1.2 (by decide) ?_ ?_
  · exact V_pick [0] rfl (X13_hang_b30_s G l s3 a0)
  · refine V_aload_n dec_X13_hang.1.2.2.1 0 rfl ?_
    refine V_iload_n dec_X13_hang.1.2.2.2.1 2 rfl ?_
    refine V_callV0 (ci := 13) (a := a0) (As := [(0, a2)]) (st := []) rfl rfl (X13_isHouse_s G l s3 a0 a2) cal_X13_isHouse rfl ml_X13_351 rfl rfl dec_X13_hang.1.2.2.2.2 (k_tag (tag := 0) rfl fun r6 s7 => ?_)
    refine V_if_eq (tgt := 30) dec_X13_hang.2.1.1.1 (by decide) ?_ ?_
    · exact V_pick [0] rfl (X13_hang_b30_s G l s7 a0)
    · refine V_aload_n dec_X13_hang.2.1.1.2 0 rfl ?_
      refine V_iload_n dec_X13_hang.2.1.2.1 1 rfl ?_
      refine V_iload_n dec_X13_hang.2.1.2.2.1 2 rfl ?_
      refine V_callV0 (ci := 13) (a := a0) (As := [(0, a1), (0, a2)]) (st := []) rfl rfl (X13_hangs_s G l s7 a0 a1 a2) cal_X13_hangs rfl ml_X13_478 rfl rfl dec_X13_hang.2.1.2.2.2 (k_tag (tag := 0) rfl fun r8 s9 => ?_)
      refine V_goto (tgt := 35) dec_X13_hang.2.2.1.1 (by decide) ?_
      exact V_pick [] rfl (X13_hang_b35_s G l s9 r8)
theorem dec_X13_heardBy : (((((decode cX13_heardBy 0 = .ok (.aload_n 0, 1) ∧ (decode cX13_heardBy 1 = .ok (.iconst 0, 1) ∧ decode cX13_heardBy 2 = .ok (.putfield 49, 3))) ∧ (decode cX13_heardBy 5 = .ok (.aload_n 0, 1) ∧ (decode cX13_heardBy 6 = .ok (.iload_n 1, 1) ∧ decode cX13_heardBy 7 = .ok (.invokevirtual 348, 3)))) ∧ ((decode cX13_heardBy 10 = .ok (.ifCond .ne 9, 3) ∧ (decode cX13_heardBy 13 = .ok (.aload_n 0, 1) ∧ decode cX13_heardBy 14 = .ok (.iconst 1, 1))) ∧ ((decode cX13_heardBy 15 = .ok (.invokevirtual 55, 3) ∧ decode cX13_heardBy 18 = .ok (.ireturn, 1)) ∧ (decode cX13_heardBy 19 = .ok (.iload_n 2, 1) ∧ decode cX13_heardBy 20 = .ok (.iconst 0, 1))))) ∧ (((decode cX13_heardBy 21 = .ok (.ldc_w 465, 3) ∧ (decode cX13_heardBy 24 = .ok (.invokestatic 128, 3) ∧ decode cX13_heardBy 27 = .ok (.ifCond .eq 13, 3))) ∧ ((decode cX13_heardBy 30 = .ok (.iload_n 3, 1) ∧ decode cX13_heardBy 31 = .ok (.iconst 0, 1)) ∧ (decode cX13_heardBy 32 = .ok (.bipush 99, 2) ∧ decode cX13_heardBy 34 = .ok (.invokestatic 128, 3)))) ∧ ((decode cX13_heardBy 37 = .ok (.ifCond .ne 9, 3) ∧ (decode cX13_heardBy 40 = .ok (.aload_n 0, 1) ∧ decode cX13_heardBy 41 = .ok (.iconst 2, 1))) ∧ ((decode cX13_heardBy 42 = .ok (.invokevirtual 55, 3) ∧ decode cX13_heardBy 45 = .ok (.ireturn, 1)) ∧ (decode cX13_heardBy 46 = .ok (.aload_n 0, 1) ∧ decode cX13_heardBy 47 = .ok (.invokevirtual 342, 3)))))) ∧ ((((decode cX13_heardBy 50 = .ok (.aload_n 0, 1) ∧ (decode cX13_heardBy 51 = .ok (.iload_n 2, 1) ∧ decode cX13_heardBy 52 = .ok (.putfield 458, 3))) ∧ ((decode cX13_heardBy 55 = .ok (.iconst 0, 1) ∧ decode cX13_heardBy 56 = .ok (.istore 4, 2)) ∧ (decode cX13_heardBy 58 = .ok (.iload_n 3, 1) ∧ decode cX13_heardBy 59 = .ok (.aload_n 0, 1)))) ∧ ((decode cX13_heardBy 60 = .ok (.getfield 303, 3) ∧ (decode cX13_heardBy 63 = .ok (.getfield 241, 3) ∧ decode cX13_heardBy 66 = .ok (.imul, 1))) ∧ ((decode cX13_heardBy 67 = .ok (.iload_n 1, 1) ∧ decode cX13_heardBy 68 = .ok (.iadd, 1)) ∧ (decode cX13_heardBy 69 = .ok (.istore 5, 2) ∧ decode cX13_heardBy 71 = .ok (.iload 5, 2))))) ∧ (((decode cX13_heardBy 73 = .ok (.ifCond .lt 15, 3) ∧ (decode cX13_heardBy 76 = .ok (.aload_n 0, 1) ∧ decode cX13_heardBy 77 = .ok (.invokevirtual 466, 3))) ∧ ((decode cX13_heardBy 80 = .ok (.istore 4, 2) ∧ decode cX13_heardBy 82 = .ok (.iinc 5 (-1), 3)) ∧ (decode cX13_heardBy 85 = .ok (.goto (-14), 3) ∧ decode cX13_heardBy 88 = .ok (.aload_n 0, 1)))) ∧ ((decode cX13_heardBy 89 = .ok (.aload_n 0, 1) ∧ (decode cX13_heardBy 90 = .ok (.iload_n 1, 1) ∧ decode cX13_heardBy 91 = .ok (.iload_n 3, 1))) ∧ ((decode cX13_heardBy 92 = .ok (.iload 4, 2) ∧ decode cX13_heardBy 94 = .ok (.invokevirtual 444, 3)) ∧ (decode cX13_heardBy 97 = .ok (.invokevirtual 59, 3) ∧ decode cX13_heardBy 100 = .ok (.ireturn, 1))))))) := ⟨⟨⟨by decide +kernel, by decide +kernel⟩, ⟨by decide +kernel, by decide +kernel⟩⟩, ⟨⟨by decide +kernel, by decide +kernel⟩, ⟨by decide +kernel, by decide +kernel⟩⟩⟩
def X13_heardBy_b40 (s : St) (x0 : Int) : Rs :=
  grd (isK s 23 x0) (bnd (X13_refused s x0 2) (fun r6 s7 => some (r6, s7)))
set_option maxRecDepth 100000 in
set_option maxHeartbeats 4000000 in
theorem X13_heardBy_b40_s (G : Gx) (l : Launch) (s : St) (x0 : Int) : V G l mX13_heardBy 40 [(0, (2, x0))] [] s (X13_heardBy_b40 s x0) := by
  unfold X13_heardBy_b40
  refine V_aload_n dec_X13_heardBy.1.2.2.1.2.1 0 rfl ?_
  refine V_iconst dec_X13_heardBy.1.2.2.1.2.2 rfl ?_
  refine V_callV0 (ci := 13) (a := x0) (As := [(0, 2)]) (st := []) rfl rfl (X13_refused_s G l s x0 2) cal_X13_refused rfl ml_X13_55 rfl rfl dec_X13_heardBy.1.2.2.2.1.1 (k_tag (tag := 0) rfl fun r6 s7 => ?_)
  exact V_iret rfl dec_X13_heardBy.1.2.2.2.1.2
def X13_heardBy_b71_body (rk71 : St → Int → Int → Int → Int → Int → Rs) (s : St) (x0 x1 x3 x4 x5 : Int) : Rs :=
  if x5 < 0 then (grd (isK s 23 x0) (bnd (X13_hearerBy s x0 x1 x3 x4) (fun r14 s15 => grd (isK s15 23 x0) (bnd (X13_good s15 x0 r14) (fun r16 s17 => some (r16, s17)))))) else (grd (isK s 23 x0) (bnd (X13_further s x0) (fun r18 s19 => rk71 s19 x0 x1 x3 r18 (w32 (x5 + (-1))))))
def X13_heardBy_b71 (n : Nat) (s : St) (x0 x1 x3 x4 x5 : Int) : Rs := iter (fun (rec : St × Int × Int × Int × Int × Int → Rs) (a : St × Int × Int × Int × Int × Int) => X13_heardBy_b71_body (fun (s : St) (x0 x1 x3 x4 x5 : Int) => rec (s, x0, x1, x3, x4, x5)) a.1 a.2.1 a.2.2.1 a.2.2.2.1 a.2.2.2.2.1 a.2.2.2.2.2) n (s, x0, x1, x3, x4, x5)
theorem X13_heardBy_b71_0 (s : St) (x0 x1 x3 x4 x5 : Int) : X13_heardBy_b71 0 s x0 x1 x3 x4 x5 = none := rfl
theorem X13_heardBy_b71_1 (n : Nat) (s : St) (x0 x1 x3 x4 x5 : Int) : X13_heardBy_b71 (n + 1) s x0 x1 x3 x4 x5 = X13_heardBy_b71_body (X13_heardBy_b71 n) s x0 x1 x3 x4 x5 := rfl
set_option maxRecDepth 100000 in
set_option maxHeartbeats 4000000 in
theorem X13_heardBy_b71_body_s (G : Gx) (l : Launch) (rk71 : St → Int → Int → Int → Int → Int → Rs) (hk71 : ∀ (s : St) (x0 x1 x3 x4 x5 : Int), V G l mX13_heardBy 71 [(0, (2, x0)), (1, (0, x1)), (3, (0, x3)), (4, (0, x4)), (5, (0, x5))] [] s (rk71 s x0 x1 x3 x4 x5)) (s : St) (x0 x1 x3 x4 x5 : Int) : V G l mX13_heardBy 71 [(0, (2, x0)), (1, (0, x1)), (3, (0, x3)), (4, (0, x4)), (5, (0, x5))] [] s (X13_heardBy_b71_body rk71 s x0 x1 x3 x4 x5) := by
  unfold X13_heardBy_b71_body
  refine V_iload dec_X13_heardBy.2.1.2.2.2.2 4 rfl ?_
  refine V_if_lt (tgt := 88) dec_X13_heardBy.2.2.1.1.1 (by decide) ?_ ?_
  · refine V_aload_n dec_X13_heardBy.2.2.1.2.2.2 0 rfl ?_
    refine V_aload_n dec_X13_heardBy.2.2.2.1.1 0 rfl ?_
    refine V_iload_n dec_X13_heardBy.2.2.2.1.2.1 1 rfl ?_
    refine V_iload_n dec_X13_heardBy.2.2.2.1.2.2 2 rfl ?_
    refine V_iload dec_X13_heardBy.2.2.2.2.1.1 3 rfl ?_
    refine V_callV0 (ci := 13) (a := x0) (As := [(0, x1), (0, x3), (0, x4)]) (st := [(2, x0)]) rfl rfl (X13_hearerBy_s G l s x0 x1 x3 x4) cal_X13_hearerBy rfl ml_X13_444 rfl rfl dec_X13_heardBy.2.2.2.2.1.2 (k_tag (tag := 0) rfl fun r14 s15 => ?_)
    refine V_callV0 (ci := 13) (a := x0) (As := [(0, r14)]) (st := []) rfl rfl (X13_good_s G l s15 x0 r14) cal_X13_good rfl ml_X13_59 rfl rfl dec_X13_heardBy.2.2.2.2.2.1 (k_tag (tag := 0) rfl fun r16 s17 => ?_)
    exact V_iret rfl dec_X13_heardBy.2.2.2.2.2.2
  · refine V_aload_n dec_X13_heardBy.2.2.1.1.2.1 0 rfl ?_
    refine V_callV0 (ci := 13) (a := x0) (As := []) (st := []) rfl rfl (X13_further_s G l s x0) cal_X13_further rfl ml_X13_466 rfl rfl dec_X13_heardBy.2.2.1.1.2.2 (k_tag (tag := 0) rfl fun r18 s19 => ?_)
    refine V_istore (lv' := [(4, (0, r18)), (0, (2, x0)), (1, (0, x1)), (3, (0, x3)), (5, (0, x5))]) dec_X13_heardBy.2.2.1.2.1.1 (by decide) rfl ?_
    refine V_iinc (lv' := [(5, (0, (w32 (x5 + (-1))))), (4, (0, r18)), (0, (2, x0)), (1, (0, x1)), (3, (0, x3))]) dec_X13_heardBy.2.2.1.2.1.2 4 rfl (by decide) rfl ?_
    refine V_goto (tgt := 71) dec_X13_heardBy.2.2.1.2.2.1 (by decide) ?_
    exact V_pick [2, 3, 4, 1, 0] rfl (hk71 s19 x0 x1 x3 r18 (w32 (x5 + (-1))))
theorem X13_heardBy_b71_s (G : Gx) (l : Launch) (n : Nat) (s : St) (x0 x1 x3 x4 x5 : Int) : V G l mX13_heardBy 71 [(0, (2, x0)), (1, (0, x1)), (3, (0, x3)), (4, (0, x4)), (5, (0, x5))] [] s (X13_heardBy_b71 n s x0 x1 x3 x4 x5) :=
  V_iter (LV := fun a : St × Int × Int × Int × Int × Int => [(0, (2, a.2.1)), (1, (0, a.2.2.1)), (3, (0, a.2.2.2.1)), (4, (0, a.2.2.2.2.1)), (5, (0, a.2.2.2.2.2))]) (ST := fun a : St × Int × Int × Int × Int × Int => []) (SS := fun a : St × Int × Int × Int × Int × Int => a.1) (fun rec hrec a => X13_heardBy_b71_body_s G l (fun (s : St) (x0 x1 x3 x4 x5 : Int) => rec (s, x0, x1, x3, x4, x5)) (fun (s : St) (x0 x1 x3 x4 x5 : Int) => hrec (s, x0, x1, x3, x4, x5)) a.1 a.2.1 a.2.2.1 a.2.2.2.1 a.2.2.2.2.1 a.2.2.2.2.2) n (s, x0, x1, x3, x4, x5)
def X13_heardBy (s : St) (a0 a1 a2 a3 : Int) : Rs :=
  grd (isK s 23 a0) (lets (pI s a0 0 0) (fun s1 => grd (isK s1 23 a0) (bnd (X13_isDead s1 a0 a1) (fun r2 s3 => if ¬ r2 = 0 then (bnd (X13_in s3 a2 0 65536) (fun r4 s5 => if r4 = 0 then (X13_heardBy_b40 s5 a0) else (bnd (X13_in s5 a3 0 99) (fun r8 s9 => if ¬ r8 = 0 then (grd (isK s9 23 a0) (bnd (X13_works s9 a0) (fun r10 s11 => grd (isK s11 23 a0) (lets (pI s11 a0 32 a2) (fun s12 => grd (isK s12 23 a0) (grd (isK s12 22 (gR s12 a0 3)) (letv (w32 ((w32 (a3 * (gI s12 (gR s12 a0 3) 3))) + a1)) (fun y13 => X13_heardBy_b71 FU s12 a0 a1 a3 0 y13)))))))) else (X13_heardBy_b40 s9 a0))))) else (grd (isK s3 23 a0) (bnd (X13_refused s3 a0 1) (fun r20 s21 => some (r20, s21))))))))
set_option maxRecDepth 100000 in
set_option maxHeartbeats 4000000 in
theorem X13_heardBy_s (G : Gx) (l : Launch) (s : St) (a0 a1 a2 a3 : Int) : Snd G l mX13_heardBy [(2, a0), (0, a1), (0, a2), (0, a3)] s (X13_heardBy s a0 a1 a2 a3) := by
  refine Snd.of (by decide +kernel) rfl ?_
  show V G l mX13_heardBy 0 [(0, (2, a0)), (1, (0, a1)), (2, (0, a2)), (3, (0, a3))] [] s _
  unfold X13_heardBy
  refine V_aload_n dec_X13_heardBy.1.1.1.1.1 0 rfl ?_
  refine V_iconst dec_X13_heardBy.1.1.1.1.2.1 rfl ?_
  refine V_putI (host := "") 13 0 nf_13_0 ty_13_0 (Or.inl ⟨fl_X13_49, Or.inl rfl⟩) dec_X13_heardBy.1.1.1.1.2.2 ?_
  refine V_lets fun s1 => ?_
  refine V_aload_n dec_X13_heardBy.1.1.1.2.1 0 rfl ?_
  refine V_iload_n dec_X13_heardBy.1.1.1.2.2.1 1 rfl ?_
  refine V_callV0 (ci := 13) (a := a0) (As := [(0, a1)]) (st := []) rfl rfl (X13_isDead_s G l s1 a0 a1) cal_X13_isDead rfl ml_X13_348 rfl rfl dec_X13_heardBy.1.1.1.2.2.2 (k_tag (tag := 0) rfl fun r2 s3 => ?_)
  refine V_if_ne (tgt := 19) dec_X13_heardBy.1.1.2.1.1 (by decide) ?_ ?_
  · refine V_iload_n dec_X13_heardBy.1.1.2.2.2.1 2 rfl ?_
    refine V_iconst dec_X13_heardBy.1.1.2.2.2.2 rfl ?_
    refine V_ldcw (n := 65536) cw_X13_465 (by decide) dec_X13_heardBy.1.2.1.1.1 ?_
    refine V_callS0 (As := [(0, a2), (0, 0), (0, 65536)]) (st := []) (host := "") rfl (X13_in_s G l s3 a2 0 65536) cal_X13_in rfl (Or.inl ml_X13_128) rfl rfl dec_X13_heardBy.1.2.1.1.2.1 (k_tag (tag := 0) rfl fun r4 s5 => ?_)
    refine V_if_eq (tgt := 40) dec_X13_heardBy.1.2.1.1.2.2 (by decide) ?_ ?_
    · exact V_pick [0] rfl (X13_heardBy_b40_s G l s5 a0)
    · refine V_iload_n dec_X13_heardBy.1.2.1.2.1.1 3 rfl ?_
      refine V_iconst dec_X13_heardBy.1.2.1.2.1.2 rfl ?_
      refine V_bipush dec_X13_heardBy.1.2.1.2.2.1 rfl ?_
      refine V_callS0 (As := [(0, a3), (0, 0), (0, 99)]) (st := []) (host := "") rfl (X13_in_s G l s5 a3 0 99) cal_X13_in rfl (Or.inl ml_X13_128) rfl rfl dec_X13_heardBy.1.2.1.2.2.2 (k_tag (tag := 0) rfl fun r8 s9 => ?_)
      refine V_if_ne (tgt := 46) dec_X13_heardBy.1.2.2.1.1 (by decide) ?_ ?_
      · refine V_aload_n dec_X13_heardBy.1.2.2.2.2.1 0 rfl ?_
        refine V_callV0 (ci := 13) (a := a0) (As := []) (st := []) rfl rfl (X13_works_s G l s9 a0) cal_X13_works rfl ml_X13_342 rfl rfl dec_X13_heardBy.1.2.2.2.2.2 (k_void rfl fun r10 s11 => ?_)
        refine V_aload_n dec_X13_heardBy.2.1.1.1.1 0 rfl ?_
        refine V_iload_n dec_X13_heardBy.2.1.1.1.2.1 2 rfl ?_
        refine V_putI (host := "") 13 32 nf_13_32 ty_13_32 (Or.inl ⟨fl_X13_458, Or.inl rfl⟩) dec_X13_heardBy.2.1.1.1.2.2 ?_
        refine V_lets fun s12 => ?_
        refine V_iconst dec_X13_heardBy.2.1.1.2.1.1 rfl ?_
        refine V_istore (lv' := [(4, (0, 0)), (0, (2, a0)), (1, (0, a1)), (2, (0, a2)), (3, (0, a3))]) dec_X13_heardBy.2.1.1.2.1.2 (by decide) rfl ?_
        refine V_iload_n dec_X13_heardBy.2.1.1.2.2.1 4 rfl ?_
        refine V_aload_n dec_X13_heardBy.2.1.1.2.2.2 1 rfl ?_
        refine V_getR 13 3 nf_13_3 ft_13_3 fl_X13_303 dec_X13_heardBy.2.1.2.1.1 ?_
        refine V_getIN RX13 12 3 nf_12_3 ft_12_3 fl_X13_241 dec_X13_heardBy.2.1.2.1.2.1 ?_
        refine V_imul dec_X13_heardBy.2.1.2.1.2.2 ?_
        refine V_iload_n dec_X13_heardBy.2.1.2.2.1.1 2 rfl ?_
        refine V_iadd dec_X13_heardBy.2.1.2.2.1.2 ?_
        refine V_letv fun y13 => ?_
        refine V_istore (lv' := [(5, (0, y13)), (4, (0, 0)), (0, (2, a0)), (1, (0, a1)), (2, (0, a2)), (3, (0, a3))]) dec_X13_heardBy.2.1.2.2.2.1 (by decide) rfl ?_
        exact V_pick [2, 3, 5, 1, 0] rfl (X13_heardBy_b71_s G l FU s12 a0 a1 a3 0 y13)
      · exact V_pick [0] rfl (X13_heardBy_b40_s G l s9 a0)
  · refine V_aload_n dec_X13_heardBy.1.1.2.1.2.1 0 rfl ?_
    refine V_iconst dec_X13_heardBy.1.1.2.1.2.2 rfl ?_
    refine V_callV0 (ci := 13) (a := a0) (As := [(0, 1)]) (st := []) rfl rfl (X13_refused_s G l s3 a0 1) cal_X13_refused rfl ml_X13_55 rfl rfl dec_X13_heardBy.1.1.2.2.1.1 (k_tag (tag := 0) rfl fun r20 s21 => ?_)
    exact V_iret rfl dec_X13_heardBy.1.1.2.2.1.2
theorem dec_X13_heardOf : ((((decode cX13_heardOf 0 = .ok (.iconst 0, 1) ∧ (decode cX13_heardOf 1 = .ok (.istore_n 3, 1) ∧ decode cX13_heardOf 2 = .ok (.iconst 0, 1))) ∧ (decode cX13_heardOf 3 = .ok (.istore 4, 2) ∧ (decode cX13_heardOf 5 = .ok (.iload 4, 2) ∧ decode cX13_heardOf 7 = .ok (.aload_n 0, 1)))) ∧ ((decode cX13_heardOf 8 = .ok (.getfield 303, 3) ∧ (decode cX13_heardOf 11 = .ok (.getfield 241, 3) ∧ decode cX13_heardOf 14 = .ok (.if_icmp .ge 31, 3))) ∧ ((decode cX13_heardOf 17 = .ok (.iload_n 3, 1) ∧ decode cX13_heardOf 18 = .ok (.aload_n 0, 1)) ∧ (decode cX13_heardOf 19 = .ok (.iload 4, 2) ∧ decode cX13_heardOf 21 = .ok (.iload_n 2, 1))))) ∧ (((decode cX13_heardOf 22 = .ok (.invokevirtual 333, 3) ∧ (decode cX13_heardOf 25 = .ok (.iload_n 1, 1) ∧ decode cX13_heardOf 26 = .ok (.if_icmp .ne 10, 3))) ∧ ((decode cX13_heardOf 29 = .ok (.iconst 1, 1) ∧ decode cX13_heardOf 30 = .ok (.iload 4, 2)) ∧ (decode cX13_heardOf 32 = .ok (.ishl, 1) ∧ decode cX13_heardOf 33 = .ok (.goto 4, 3)))) ∧ ((decode cX13_heardOf 36 = .ok (.iconst 0, 1) ∧ (decode cX13_heardOf 37 = .ok (.ior, 1) ∧ decode cX13_heardOf 38 = .ok (.istore_n 3, 1))) ∧ ((decode cX13_heardOf 39 = .ok (.iinc 4 1, 3) ∧ decode cX13_heardOf 42 = .ok (.goto (-37), 3)) ∧ (decode cX13_heardOf 45 = .ok (.iload_n 3, 1) ∧ decode cX13_heardOf 46 = .ok (.ireturn, 1)))))) := ⟨⟨by decide +kernel, by decide +kernel⟩, ⟨by decide +kernel, by decide +kernel⟩⟩
def X13_heardOf_b37 (rk5 : St → Int → Int → Int → Int → Int → Rs) (s : St) (x0 x1 x2 x4 k0 k1 : Int) : Rs :=
  rk5 s x0 x1 x2 (or32 k1 k0) (w32 (x4 + 1))
set_option maxRecDepth 100000 in
set_option maxHeartbeats 4000000 in
theorem X13_heardOf_b37_s (G : Gx) (l : Launch) (rk5 : St → Int → Int → Int → Int → Int → Rs) (hk5 : ∀ (s : St) (x0 x1 x2 x3 x4 : Int), V G l mX13_heardOf 5 [(0, (2, x0)), (1, (0, x1)), (2, (0, x2)), (3, (0, x3)), (4, (0, x4))] [] s (rk5 s x0 x1 x2 x3 x4)) (s : St) (x0 x1 x2 x4 k0 k1 : Int) : V G l mX13_heardOf 37 [(0, (2, x0)), (1, (0, x1)), (2, (0, x2)), (4, (0, x4))] [(0, k0), (0, k1)] s (X13_heardOf_b37 rk5 s x0 x1 x2 x4 k0 k1) := by
  unfold X13_heardOf_b37
  refine V_ior dec_X13_heardOf.2.2.1.2.1 ?_
  refine V_istore_n (lv' := [(3, (0, (or32 k1 k0))), (0, (2, x0)), (1, (0, x1)), (2, (0, x2)), (4, (0, x4))]) dec_X13_heardOf.2.2.1.2.2 (by decide) rfl ?_
  refine V_iinc (lv' := [(4, (0, (w32 (x4 + 1)))), (3, (0, (or32 k1 k0))), (0, (2, x0)), (1, (0, x1)), (2, (0, x2))]) dec_X13_heardOf.2.2.2.1.1 4 rfl (by decide) rfl ?_
  refine V_goto (tgt := 5) dec_X13_heardOf.2.2.2.1.2 (by decide) ?_
  exact V_pick [2, 3, 4, 1, 0] rfl (hk5 s x0 x1 x2 (or32 k1 k0) (w32 (x4 + 1)))
def X13_heardOf_b5_body (rk5 : St → Int → Int → Int → Int → Int → Rs) (s : St) (x0 x1 x2 x3 x4 : Int) : Rs :=
  grd (isK s 23 x0) (grd (isK s 22 (gR s x0 3)) (if (gI s (gR s x0 3) 3) ≤ x4 then (some (x3, s)) else (grd (isK s 23 x0) (bnd (X13_whoHears s x0 x4 x2) (fun r1 s2 => if ¬ r1 = x1 then (X13_heardOf_b37 rk5 s2 x0 x1 x2 x4 0 x3) else (X13_heardOf_b37 rk5 s2 x0 x1 x2 x4 (shl32 1 x4) x3))))))
def X13_heardOf_b5 (n : Nat) (s : St) (x0 x1 x2 x3 x4 : Int) : Rs := iter (fun (rec : St × Int × Int × Int × Int × Int → Rs) (a : St × Int × Int × Int × Int × Int) => X13_heardOf_b5_body (fun (s : St) (x0 x1 x2 x3 x4 : Int) => rec (s, x0, x1, x2, x3, x4)) a.1 a.2.1 a.2.2.1 a.2.2.2.1 a.2.2.2.2.1 a.2.2.2.2.2) n (s, x0, x1, x2, x3, x4)
theorem X13_heardOf_b5_0 (s : St) (x0 x1 x2 x3 x4 : Int) : X13_heardOf_b5 0 s x0 x1 x2 x3 x4 = none := rfl
theorem X13_heardOf_b5_1 (n : Nat) (s : St) (x0 x1 x2 x3 x4 : Int) : X13_heardOf_b5 (n + 1) s x0 x1 x2 x3 x4 = X13_heardOf_b5_body (X13_heardOf_b5 n) s x0 x1 x2 x3 x4 := rfl
set_option maxRecDepth 100000 in
set_option maxHeartbeats 4000000 in
theorem X13_heardOf_b5_body_s (G : Gx) (l : Launch) (rk5 : St → Int → Int → Int → Int → Int → Rs) (hk5 : ∀ (s : St) (x0 x1 x2 x3 x4 : Int), V G l mX13_heardOf 5 [(0, (2, x0)), (1, (0, x1)), (2, (0, x2)), (3, (0, x3)), (4, (0, x4))] [] s (rk5 s x0 x1 x2 x3 x4)) (s : St) (x0 x1 x2 x3 x4 : Int) : V G l mX13_heardOf 5 [(0, (2, x0)), (1, (0, x1)), (2, (0, x2)), (3, (0, x3)), (4, (0, x4))] [] s (X13_heardOf_b5_body rk5 s x0 x1 x2 x3 x4) := by
  unfold X13_heardOf_b5_body
  refine V_iload dec_X13_heardOf.1.1.2.2.1 4 rfl ?_
  refine V_aload_n dec_X13_heardOf.1.1.2.2.2 0 rfl ?_
  refine V_getR 13 3 nf_13_3 ft_13_3 fl_X13_303 dec_X13_heardOf.1.2.1.1 ?_
  refine V_getIN RX13 12 3 nf_12_3 ft_12_3 fl_X13_241 dec_X13_heardOf.1.2.1.2.1 ?_
  refine V_icmp_ge (tgt := 45) dec_X13_heardOf.1.2.1.2.2 (by decide) ?_ ?_
  · refine V_iload_n dec_X13_heardOf.2.2.2.2.1 3 rfl ?_
    exact V_iret rfl dec_X13_heardOf.2.2.2.2.2
  · refine V_iload_n dec_X13_heardOf.1.2.2.1.1 3 rfl ?_
    refine V_aload_n dec_X13_heardOf.1.2.2.1.2 0 rfl ?_
    refine V_iload dec_X13_heardOf.1.2.2.2.1 4 rfl ?_
    refine V_iload_n dec_X13_heardOf.1.2.2.2.2 2 rfl ?_
    refine V_callV0 (ci := 13) (a := x0) (As := [(0, x4), (0, x2)]) (st := [(0, x3)]) rfl rfl (X13_whoHears_s G l s x0 x4 x2) cal_X13_whoHears rfl ml_X13_333 rfl rfl dec_X13_heardOf.2.1.1.1 (k_tag (tag := 0) rfl fun r1 s2 => ?_)
    refine V_iload_n dec_X13_heardOf.2.1.1.2.1 1 rfl ?_
    refine V_icmp_ne (tgt := 36) dec_X13_heardOf.2.1.1.2.2 (by decide) ?_ ?_
    · refine V_iconst dec_X13_heardOf.2.2.1.1 rfl ?_
      exact V_pick [0, 1, 2, 4] rfl (X13_heardOf_b37_s G l rk5 hk5 s2 x0 x1 x2 x4 0 x3)
    · refine V_iconst dec_X13_heardOf.2.1.2.1.1 rfl ?_
      refine V_iload dec_X13_heardOf.2.1.2.1.2 4 rfl ?_
      refine V_ishl dec_X13_heardOf.2.1.2.2.1 ?_
      refine V_goto (tgt := 37) dec_X13_heardOf.2.1.2.2.2 (by decide) ?_
      exact V_pick [0, 1, 2, 4] rfl (X13_heardOf_b37_s G l rk5 hk5 s2 x0 x1 x2 x4 (shl32 1 x4) x3)
theorem X13_heardOf_b5_s (G : Gx) (l : Launch) (n : Nat) (s : St) (x0 x1 x2 x3 x4 : Int) : V G l mX13_heardOf 5 [(0, (2, x0)), (1, (0, x1)), (2, (0, x2)), (3, (0, x3)), (4, (0, x4))] [] s (X13_heardOf_b5 n s x0 x1 x2 x3 x4) :=
  V_iter (LV := fun a : St × Int × Int × Int × Int × Int => [(0, (2, a.2.1)), (1, (0, a.2.2.1)), (2, (0, a.2.2.2.1)), (3, (0, a.2.2.2.2.1)), (4, (0, a.2.2.2.2.2))]) (ST := fun a : St × Int × Int × Int × Int × Int => []) (SS := fun a : St × Int × Int × Int × Int × Int => a.1) (fun rec hrec a => X13_heardOf_b5_body_s G l (fun (s : St) (x0 x1 x2 x3 x4 : Int) => rec (s, x0, x1, x2, x3, x4)) (fun (s : St) (x0 x1 x2 x3 x4 : Int) => hrec (s, x0, x1, x2, x3, x4)) a.1 a.2.1 a.2.2.1 a.2.2.2.1 a.2.2.2.2.1 a.2.2.2.2.2) n (s, x0, x1, x2, x3, x4)
def X13_heardOf (s : St) (a0 a1 a2 : Int) : Rs :=
  X13_heardOf_b5 FU s a0 a1 a2 0 0
set_option maxRecDepth 100000 in
set_option maxHeartbeats 4000000 in
theorem X13_heardOf_s (G : Gx) (l : Launch) (s : St) (a0 a1 a2 : Int) : Snd G l mX13_heardOf [(2, a0), (0, a1), (0, a2)] s (X13_heardOf s a0 a1 a2) := by
  refine Snd.of (by decide +kernel) rfl ?_
  show V G l mX13_heardOf 0 [(0, (2, a0)), (1, (0, a1)), (2, (0, a2))] [] s _
  unfold X13_heardOf
  refine V_iconst dec_X13_heardOf.1.1.1.1 rfl ?_
  refine V_istore_n (lv' := [(3, (0, 0)), (0, (2, a0)), (1, (0, a1)), (2, (0, a2))]) dec_X13_heardOf.1.1.1.2.1 (by decide) rfl ?_
  refine V_iconst dec_X13_heardOf.1.1.1.2.2 rfl ?_
  refine V_istore (lv' := [(4, (0, 0)), (3, (0, 0)), (0, (2, a0)), (1, (0, a1)), (2, (0, a2))]) dec_X13_heardOf.1.1.2.1 (by decide) rfl ?_
  exact V_pick [2, 3, 4, 1, 0] rfl (X13_heardOf_b5_s G l FU s a0 a1 a2 0 0)
theorem dec_X13_hears : ((((decode cX13_hears 0 = .ok (.aload_n 0, 1) ∧ (decode cX13_hears 1 = .ok (.iconst 0, 1) ∧ decode cX13_hears 2 = .ok (.putfield 49, 3))) ∧ (decode cX13_hears 5 = .ok (.aload_n 0, 1) ∧ (decode cX13_hears 6 = .ok (.aload_n 0, 1) ∧ decode cX13_hears 7 = .ok (.iload_n 1, 1)))) ∧ ((decode cX13_hears 8 = .ok (.invokevirtual 348, 3) ∧ (decode cX13_hears 11 = .ok (.iload_n 2, 1) ∧ decode cX13_hears 12 = .ok (.invokevirtual 354, 3))) ∧ (decode cX13_hears 15 = .ok (.istore_n 3, 1) ∧ (decode cX13_hears 16 = .ok (.iload_n 3, 1) ∧ decode cX13_hears 17 = .ok (.ifCond .le 9, 3))))) ∧ (((decode cX13_hears 20 = .ok (.aload_n 0, 1) ∧ (decode cX13_hears 21 = .ok (.iload_n 3, 1) ∧ decode cX13_hears 22 = .ok (.invokevirtual 55, 3))) ∧ (decode cX13_hears 25 = .ok (.ireturn, 1) ∧ (decode cX13_hears 26 = .ok (.aload_n 0, 1) ∧ decode cX13_hears 27 = .ok (.invokevirtual 342, 3)))) ∧ ((decode cX13_hears 30 = .ok (.aload_n 0, 1) ∧ (decode cX13_hears 31 = .ok (.aload_n 0, 1) ∧ decode cX13_hears 32 = .ok (.iload_n 1, 1))) ∧ ((decode cX13_hears 33 = .ok (.iload_n 2, 1) ∧ decode cX13_hears 34 = .ok (.invokevirtual 333, 3)) ∧ (decode cX13_hears 37 = .ok (.invokevirtual 59, 3) ∧ decode cX13_hears 40 = .ok (.ireturn, 1)))))) := ⟨by decide +kernel, ⟨by decide +kernel, by decide +kernel⟩⟩
def X13_hears (s : St) (a0 a1 a2 : Int) : Rs :=
  grd (isK s 23 a0) (lets (pI s a0 0 0) (fun s1 => grd (isK s1 23 a0) (bnd (X13_isDead s1 a0 a1) (fun r2 s3 => grd (isK s3 23 a0) (bnd (X13_refusesNight s3 a0 r2 a2) (fun r4 s5 => if r4 ≤ 0 then (grd (isK s5 23 a0) (bnd (X13_works s5 a0) (fun r6 s7 => grd (isK s7 23 a0) (bnd (X13_whoHears s7 a0 a1 a2) (fun r8 s9 => grd (isK s9 23 a0) (bnd (X13_good s9 a0 r8) (fun r10 s11 => some (r10, s11)))))))) else (grd (isK s5 23 a0) (bnd (X13_refused s5 a0 r4) (fun r12 s13 => some (r12, s13))))))))))
set_option maxRecDepth 100000 in
set_option maxHeartbeats 4000000 in
theorem X13_hears_s (G : Gx) (l : Launch) (s : St) (a0 a1 a2 : Int) : Snd G l mX13_hears [(2, a0), (0, a1), (0, a2)] s (X13_hears s a0 a1 a2) := by
  refine Snd.of (by decide +kernel) rfl ?_
  show V G l mX13_hears 0 [(0, (2, a0)), (1, (0, a1)), (2, (0, a2))] [] s _
  unfold X13_hears
  refine V_aload_n dec_X13_hears.1.1.1.1 0 rfl ?_
  refine V_iconst dec_X13_hears.1.1.1.2.1 rfl ?_
  refine V_putI (host := "") 13 0 nf_13_0 ty_13_0 (Or.inl ⟨fl_X13_49, Or.inl rfl⟩) dec_X13_hears.1.1.1.2.2 ?_
  refine V_lets fun s1 => ?_
  refine V_aload_n dec_X13_hears.1.1.2.1 0 rfl ?_
  refine V_aload_n dec_X13_hears.1.1.2.2.1 0 rfl ?_
  refine V_iload_n dec_X13_hears.1.1.2.2.2 1 rfl ?_
  refine V_callV0 (ci := 13) (a := a0) (As := [(0, a1)]) (st := [(2, a0)]) rfl rfl (X13_isDead_s G l s1 a0 a1) cal_X13_isDead rfl ml_X13_348 rfl rfl dec_X13_hears.1.2.1.1 (k_tag (tag := 0) rfl fun r2 s3 => ?_)
  refine V_iload_n dec_X13_hears.1.2.1.2.1 2 rfl ?_
  refine V_callV0 (ci := 13) (a := a0) (As := [(0, r2), (0, a2)]) (st := []) rfl rfl (X13_refusesNight_s G l s3 a0 r2 a2) cal_X13_refusesNight rfl ml_X13_354 rfl rfl dec_X13_hears.1.2.1.2.2 (k_tag (tag := 0) rfl fun r4 s5 => ?_)
  refine V_istore_n (lv' := [(3, (0, r4)), (0, (2, a0)), (1, (0, a1)), (2, (0, a2))]) dec_X13_hears.1.2.2.1 (by decide) rfl ?_
  refine V_iload_n dec_X13_hears.1.2.2.2.1 0 rfl ?_
  refine V_if_le (tgt := 26) dec_X13_hears.1.2.2.2.2 (by decide) ?_ ?_
  · refine V_aload_n dec_X13_hears.2.1.2.2.1 1 rfl ?_
    refine V_callV0 (ci := 13) (a := a0) (As := []) (st := []) rfl rfl (X13_works_s G l s5 a0) cal_X13_works rfl ml_X13_342 rfl rfl dec_X13_hears.2.1.2.2.2 (k_void rfl fun r6 s7 => ?_)
    refine V_aload_n dec_X13_hears.2.2.1.1 1 rfl ?_
    refine V_aload_n dec_X13_hears.2.2.1.2.1 1 rfl ?_
    refine V_iload_n dec_X13_hears.2.2.1.2.2 2 rfl ?_
    refine V_iload_n dec_X13_hears.2.2.2.1.1 3 rfl ?_
    refine V_callV0 (ci := 13) (a := a0) (As := [(0, a1), (0, a2)]) (st := [(2, a0)]) rfl rfl (X13_whoHears_s G l s7 a0 a1 a2) cal_X13_whoHears rfl ml_X13_333 rfl rfl dec_X13_hears.2.2.2.1.2 (k_tag (tag := 0) rfl fun r8 s9 => ?_)
    refine V_callV0 (ci := 13) (a := a0) (As := [(0, r8)]) (st := []) rfl rfl (X13_good_s G l s9 a0 r8) cal_X13_good rfl ml_X13_59 rfl rfl dec_X13_hears.2.2.2.2.1 (k_tag (tag := 0) rfl fun r10 s11 => ?_)
    exact V_iret rfl dec_X13_hears.2.2.2.2.2
  · refine V_aload_n dec_X13_hears.2.1.1.1 1 rfl ?_
    refine V_iload_n dec_X13_hears.2.1.1.2.1 0 rfl ?_
    refine V_callV0 (ci := 13) (a := a0) (As := [(0, r4)]) (st := []) rfl rfl (X13_refused_s G l s5 a0 r4) cal_X13_refused rfl ml_X13_55 rfl rfl dec_X13_hears.2.1.1.2.2 (k_tag (tag := 0) rfl fun r12 s13 => ?_)
    exact V_iret rfl dec_X13_hears.2.1.2.1
theorem dec_X13_house : ((((decode cX13_house 0 = .ok (.aload_n 0, 1) ∧ decode cX13_house 1 = .ok (.iconst 0, 1)) ∧ (decode cX13_house 2 = .ok (.putfield 49, 3) ∧ decode cX13_house 5 = .ok (.aload_n 0, 1))) ∧ ((decode cX13_house 6 = .ok (.iload_n 1, 1) ∧ decode cX13_house 7 = .ok (.invokevirtual 351, 3)) ∧ (decode cX13_house 10 = .ok (.ifCond .ne 9, 3) ∧ (decode cX13_house 13 = .ok (.aload_n 0, 1) ∧ decode cX13_house 14 = .ok (.iconst 1, 1))))) ∧ (((decode cX13_house 15 = .ok (.invokevirtual 55, 3) ∧ decode cX13_house 18 = .ok (.ireturn, 1)) ∧ (decode cX13_house 19 = .ok (.aload_n 0, 1) ∧ (decode cX13_house 20 = .ok (.invokevirtual 342, 3) ∧ decode cX13_house 23 = .ok (.aload_n 0, 1)))) ∧ ((decode cX13_house 24 = .ok (.aload_n 0, 1) ∧ decode cX13_house 25 = .ok (.iload_n 1, 1)) ∧ (decode cX13_house 26 = .ok (.invokevirtual 320, 3) ∧ (decode cX13_house 29 = .ok (.invokevirtual 59, 3) ∧ decode cX13_house 32 = .ok (.ireturn, 1)))))) := ⟨by decide +kernel, by decide +kernel⟩
def X13_house (s : St) (a0 a1 : Int) : Rs :=
  grd (isK s 23 a0) (lets (pI s a0 0 0) (fun s1 => grd (isK s1 23 a0) (bnd (X13_isHouse s1 a0 a1) (fun r2 s3 => if ¬ r2 = 0 then (grd (isK s3 23 a0) (bnd (X13_works s3 a0) (fun r4 s5 => grd (isK s5 23 a0) (bnd (X13_whoIn s5 a0 a1) (fun r6 s7 => grd (isK s7 23 a0) (bnd (X13_good s7 a0 r6) (fun r8 s9 => some (r8, s9)))))))) else (grd (isK s3 23 a0) (bnd (X13_refused s3 a0 1) (fun r10 s11 => some (r10, s11))))))))
set_option maxRecDepth 100000 in
set_option maxHeartbeats 4000000 in
theorem X13_house_s (G : Gx) (l : Launch) (s : St) (a0 a1 : Int) : Snd G l mX13_house [(2, a0), (0, a1)] s (X13_house s a0 a1) := by
  refine Snd.of (by decide +kernel) rfl ?_
  show V G l mX13_house 0 [(0, (2, a0)), (1, (0, a1))] [] s _
  unfold X13_house
  refine V_aload_n dec_X13_house.1.1.1.1 0 rfl ?_
  refine V_iconst dec_X13_house.1.1.1.2 rfl ?_
  refine V_putI (host := "") 13 0 nf_13_0 ty_13_0 (Or.inl ⟨fl_X13_49, Or.inl rfl⟩) dec_X13_house.1.1.2.1 ?_
  refine V_lets fun s1 => ?_
  refine V_aload_n dec_X13_house.1.1.2.2 0 rfl ?_
  refine V_iload_n dec_X13_house.1.2.1.1 1 rfl ?_
  refine V_callV0 (ci := 13) (a := a0) (As := [(0, a1)]) (st := []) rfl rfl (X13_isHouse_s G l s1 a0 a1) cal_X13_isHouse rfl ml_X13_351 rfl rfl dec_X13_house.1.2.1.2 (k_tag (tag := 0) rfl fun r2 s3 => ?_)
  refine V_if_ne (tgt := 19) dec_X13_house.1.2.2.1 (by decide) ?_ ?_
  · refine V_aload_n dec_X13_house.2.1.2.1 0 rfl ?_
    refine V_callV0 (ci := 13) (a := a0) (As := []) (st := []) rfl rfl (X13_works_s G l s3 a0) cal_X13_works rfl ml_X13_342 rfl rfl dec_X13_house.2.1.2.2.1 (k_void rfl fun r4 s5 => ?_)
    refine V_aload_n dec_X13_house.2.1.2.2.2 0 rfl ?_
    refine V_aload_n dec_X13_house.2.2.1.1 0 rfl ?_
    refine V_iload_n dec_X13_house.2.2.1.2 1 rfl ?_
    refine V_callV0 (ci := 13) (a := a0) (As := [(0, a1)]) (st := [(2, a0)]) rfl rfl (X13_whoIn_s G l s5 a0 a1) cal_X13_whoIn rfl ml_X13_320 rfl rfl dec_X13_house.2.2.2.1 (k_tag (tag := 0) rfl fun r6 s7 => ?_)
    refine V_callV0 (ci := 13) (a := a0) (As := [(0, r6)]) (st := []) rfl rfl (X13_good_s G l s7 a0 r6) cal_X13_good rfl ml_X13_59 rfl rfl dec_X13_house.2.2.2.2.1 (k_tag (tag := 0) rfl fun r8 s9 => ?_)
    exact V_iret rfl dec_X13_house.2.2.2.2.2
  · refine V_aload_n dec_X13_house.1.2.2.2.1 0 rfl ?_
    refine V_iconst dec_X13_house.1.2.2.2.2 rfl ?_
    refine V_callV0 (ci := 13) (a := a0) (As := [(0, 1)]) (st := []) rfl rfl (X13_refused_s G l s3 a0 1) cal_X13_refused rfl ml_X13_55 rfl rfl dec_X13_house.2.1.1.1 (k_tag (tag := 0) rfl fun r10 s11 => ?_)
    exact V_iret rfl dec_X13_house.2.1.1.2
theorem dec_X13_image : (((((decode cX13_image 0 = .ok (.aload_n 0, 1) ∧ (decode cX13_image 1 = .ok (.iconst 0, 1) ∧ decode cX13_image 2 = .ok (.putfield 49, 3))) ∧ (decode cX13_image 5 = .ok (.aload_n 0, 1) ∧ (decode cX13_image 6 = .ok (.getfield 303, 3) ∧ decode cX13_image 9 = .ok (.ifnonnull 9, 3)))) ∧ ((decode cX13_image 12 = .ok (.aload_n 0, 1) ∧ (decode cX13_image 13 = .ok (.iconst 1, 1) ∧ decode cX13_image 14 = .ok (.invokevirtual 55, 3))) ∧ (decode cX13_image 17 = .ok (.ireturn, 1) ∧ (decode cX13_image 18 = .ok (.aload_n 0, 1) ∧ decode cX13_image 19 = .ok (.getfield 311, 3))))) ∧ (((decode cX13_image 22 = .ok (.iconst 3, 1) ∧ (decode cX13_image 23 = .ok (.if_icmp .ne 9, 3) ∧ decode cX13_image 26 = .ok (.aload_n 0, 1))) ∧ (decode cX13_image 27 = .ok (.iconst 3, 1) ∧ (decode cX13_image 28 = .ok (.invokevirtual 55, 3) ∧ decode cX13_image 31 = .ok (.ireturn, 1)))) ∧ ((decode cX13_image 32 = .ok (.iconst 0, 1) ∧ (decode cX13_image 33 = .ok (.istore_n 1, 1) ∧ decode cX13_image 34 = .ok (.iload_n 1, 1))) ∧ ((decode cX13_image 35 = .ok (.bipush 19, 2) ∧ decode cX13_image 37 = .ok (.if_icmp .ge 29, 3)) ∧ (decode cX13_image 40 = .ok (.aload_n 0, 1) ∧ decode cX13_image 41 = .ok (.getfield 27, 3)))))) ∧ ((((decode cX13_image 44 = .ok (.bipush 19, 2) ∧ (decode cX13_image 46 = .ok (.aload_n 0, 1) ∧ decode cX13_image 47 = .ok (.getfield 311, 3))) ∧ (decode cX13_image 50 = .ok (.imul, 1) ∧ (decode cX13_image 51 = .ok (.iload_n 1, 1) ∧ decode cX13_image 52 = .ok (.iadd, 1)))) ∧ ((decode cX13_image 53 = .ok (.aload_n 0, 1) ∧ (decode cX13_image 54 = .ok (.getfield 17, 3) ∧ decode cX13_image 57 = .ok (.iload_n 1, 1))) ∧ ((decode cX13_image 58 = .ok (.iaload, 1) ∧ decode cX13_image 59 = .ok (.iastore, 1)) ∧ (decode cX13_image 60 = .ok (.iinc 1 1, 3) ∧ decode cX13_image 63 = .ok (.goto (-29), 3))))) ∧ (((decode cX13_image 66 = .ok (.aload_n 0, 1) ∧ (decode cX13_image 67 = .ok (.dup, 1) ∧ decode cX13_image 68 = .ok (.getfield 311, 3))) ∧ (decode cX13_image 71 = .ok (.iconst 1, 1) ∧ (decode cX13_image 72 = .ok (.iadd, 1) ∧ decode cX13_image 73 = .ok (.putfield 311, 3)))) ∧ ((decode cX13_image 76 = .ok (.aload_n 0, 1) ∧ (decode cX13_image 77 = .ok (.aload_n 0, 1) ∧ decode cX13_image 78 = .ok (.getfield 311, 3))) ∧ ((decode cX13_image 81 = .ok (.iconst 1, 1) ∧ decode cX13_image 82 = .ok (.isub, 1)) ∧ (decode cX13_image 83 = .ok (.invokevirtual 59, 3) ∧ decode cX13_image 86 = .ok (.ireturn, 1))))))) := ⟨⟨by decide +kernel, ⟨by decide +kernel, by decide +kernel⟩⟩, ⟨⟨by decide +kernel, by decide +kernel⟩, ⟨by decide +kernel, by decide +kernel⟩⟩⟩
def X13_image_b34_body (rk34 : St → Int → Int → Rs) (s : St) (x0 x1 : Int) : Rs :=
  if (19 : Int) ≤ x1 then (grd (isK s 23 x0) (grd (isK s 23 x0) (lets (pI s x0 20 (w32 ((gI s x0 20) + 1))) (fun s2 => grd (isK s2 23 x0) (grd (isK s2 23 x0) (bnd (X13_good s2 x0 (w32 ((gI s2 x0 20) - 1))) (fun r3 s4 => some (r3, s4)))))))) else (grd (isK s 23 x0) (grd (isK s 23 x0) (grd (isK s 23 x0) (grd (isK s 1 (gR s x0 15) ∧ 0 ≤ x1 ∧ x1 < ln s (gR s x0 15)) (grd (isK s 1 (gR s x0 18) ∧ 0 ≤ (w32 ((w32 (19 * (gI s x0 20))) + x1)) ∧ (w32 ((w32 (19 * (gI s x0 20))) + x1)) < ln s (gR s x0 18)) (lets (pI s (gR s x0 18) (w32 ((w32 (19 * (gI s x0 20))) + x1)).toNat (gI s (gR s x0 15) x1.toNat)) (fun s5 => rk34 s5 x0 (w32 (x1 + 1)))))))))
def X13_image_b34 (n : Nat) (s : St) (x0 x1 : Int) : Rs := iter (fun (rec : St × Int × Int → Rs) (a : St × Int × Int) => X13_image_b34_body (fun (s : St) (x0 x1 : Int) => rec (s, x0, x1)) a.1 a.2.1 a.2.2) n (s, x0, x1)
theorem X13_image_b34_0 (s : St) (x0 x1 : Int) : X13_image_b34 0 s x0 x1 = none := rfl
theorem X13_image_b34_1 (n : Nat) (s : St) (x0 x1 : Int) : X13_image_b34 (n + 1) s x0 x1 = X13_image_b34_body (X13_image_b34 n) s x0 x1 := rfl
set_option maxRecDepth 100000 in
set_option maxHeartbeats 4000000 in
theorem X13_image_b34_body_s (G : Gx) (l : Launch) (rk34 : St → Int → Int → Rs) (hk34 : ∀ (s : St) (x0 x1 : Int), V G l mX13_image 34 [(0, (2, x0)), (1, (0, x1))] [] s (rk34 s x0 x1)) (s : St) (x0 x1 : Int) : V G l mX13_image 34 [(0, (2, x0)), (1, (0, x1))] [] s (X13_image_b34_body rk34 s x0 x1) := by
  unfold X13_image_b34_body
  refine V_iload_n dec_X13_image.1.2.2.1.2.2 1 rfl ?_
  refine V_bipush dec_X13_image.1.2.2.2.1.1 rfl ?_
  refine V_icmp_ge (tgt := 66) dec_X13_image.1.2.2.2.1.2 (by decide) ?_ ?_
  · refine V_aload_n dec_X13_image.2.2.1.1.1 0 rfl ?_
    refine V_dup (nl2 _) dec_X13_image.2.2.1.1.2.1 ?_
    refine V_getI 13 20 nf_13_20 ft_13_20 fl_X13_311 dec_X13_image.2.2.1.1.2.2 ?_
    refine V_iconst dec_X13_image.2.2.1.2.1 rfl ?_
    refine V_iadd dec_X13_image.2.2.1.2.2.1 ?_
    refine V_putI (host := "") 13 20 nf_13_20 ty_13_20 (Or.inl ⟨fl_X13_311, Or.inl rfl⟩) dec_X13_image.2.2.1.2.2.2 ?_
    refine V_lets fun s2 => ?_
    refine V_aload_n dec_X13_image.2.2.2.1.1 0 rfl ?_
    refine V_aload_n dec_X13_image.2.2.2.1.2.1 0 rfl ?_
    refine V_getI 13 20 nf_13_20 ft_13_20 fl_X13_311 dec_X13_image.2.2.2.1.2.2 ?_
    refine V_iconst dec_X13_image.2.2.2.2.1.1 rfl ?_
    refine V_isub dec_X13_image.2.2.2.2.1.2 ?_
    refine V_callV0 (ci := 13) (a := x0) (As := [(0, (w32 ((gI s2 x0 20) - 1)))]) (st := []) rfl rfl (X13_good_s G l s2 x0 (w32 ((gI s2 x0 20) - 1))) cal_X13_good rfl ml_X13_59 rfl rfl dec_X13_image.2.2.2.2.2.1 (k_tag (tag := 0) rfl fun r3 s4 => ?_)
    exact V_iret rfl dec_X13_image.2.2.2.2.2.2
  · refine V_aload_n dec_X13_image.1.2.2.2.2.1 0 rfl ?_
    refine V_getR 13 18 nf_13_18 ft_13_18 fl_X13_27 dec_X13_image.1.2.2.2.2.2 ?_
    refine V_bipush dec_X13_image.2.1.1.1.1 rfl ?_
    refine V_aload_n dec_X13_image.2.1.1.1.2.1 0 rfl ?_
    refine V_getI 13 20 nf_13_20 ft_13_20 fl_X13_311 dec_X13_image.2.1.1.1.2.2 ?_
    refine V_imul dec_X13_image.2.1.1.2.1 ?_
    refine V_iload_n dec_X13_image.2.1.1.2.2.1 1 rfl ?_
    refine V_iadd dec_X13_image.2.1.1.2.2.2 ?_
    refine V_aload_n dec_X13_image.2.1.2.1.1 0 rfl ?_
    refine V_getR 13 15 nf_13_15 ft_13_15 fl_X13_17 dec_X13_image.2.1.2.1.2.1 ?_
    refine V_iload_n dec_X13_image.2.1.2.1.2.2 1 rfl ?_
    refine V_iald dec_X13_image.2.1.2.2.1.1 ?_
    refine V_iast dec_X13_image.2.1.2.2.1.2 ?_
    refine V_lets fun s5 => ?_
    refine V_iinc (lv' := [(1, (0, (w32 (x1 + 1)))), (0, (2, x0))]) dec_X13_image.2.1.2.2.2.1 1 rfl (by decide) rfl ?_
    refine V_goto (tgt := 34) dec_X13_image.2.1.2.2.2.2 (by decide) ?_
    exact V_pick [1, 0] rfl (hk34 s5 x0 (w32 (x1 + 1)))
theorem X13_image_b34_s (G : Gx) (l : Launch) (n : Nat) (s : St) (x0 x1 : Int) : V G l mX13_image 34 [(0, (2, x0)), (1, (0, x1))] [] s (X13_image_b34 n s x0 x1) :=
  V_iter (LV := fun a : St × Int × Int => [(0, (2, a.2.1)), (1, (0, a.2.2))]) (ST := fun a : St × Int × Int => []) (SS := fun a : St × Int × Int => a.1) (fun rec hrec a => X13_image_b34_body_s G l (fun (s : St) (x0 x1 : Int) => rec (s, x0, x1)) (fun (s : St) (x0 x1 : Int) => hrec (s, x0, x1)) a.1 a.2.1 a.2.2) n (s, x0, x1)
def X13_image (s : St) (a0 : Int) : Rs :=
  grd (isK s 23 a0) (lets (pI s a0 0 0) (fun s1 => grd (isK s1 23 a0) (if (gR s1 a0 3) < 0 then (grd (isK s1 23 a0) (bnd (X13_refused s1 a0 1) (fun r8 s9 => some (r8, s9)))) else (grd (isK s1 23 a0) (if ¬ (gI s1 a0 20) = (3 : Int) then (X13_image_b34 FU s1 a0 0) else (grd (isK s1 23 a0) (bnd (X13_refused s1 a0 3) (fun r6 s7 => some (r6, s7)))))))))
set_option maxRecDepth 100000 in
set_option maxHeartbeats 4000000 in
theorem X13_image_s (G : Gx) (l : Launch) (s : St) (a0 : Int) : Snd G l mX13_image [(2, a0)] s (X13_image s a0) := by
  refine Snd.of (by decide +kernel) rfl ?_
  show V G l mX13_image 0 [(0, (2, a0))] [] s _
  unfold X13_image
  refine V_aload_n dec_X13_image.1.1.1.1.1 0 rfl ?_
  refine V_iconst dec_X13_image.1.1.1.1.2.1 rfl ?_
  refine V_putI (host := "") 13 0 nf_13_0 ty_13_0 (Or.inl ⟨fl_X13_49, Or.inl rfl⟩) dec_X13_image.1.1.1.1.2.2 ?_
  refine V_lets fun s1 => ?_
  refine V_aload_n dec_X13_image.1.1.1.2.1 0 rfl ?_
  refine V_getR 13 3 nf_13_3 ft_13_3 fl_X13_303 dec_X13_image.1.1.1.2.2.1 ?_
  refine V_ifnonnull (tgt := 18) dec_X13_image.1.1.1.2.2.2 (by decide) ?_ ?_
  · refine V_aload_n dec_X13_image.1.1.2.1.1 0 rfl ?_
    refine V_iconst dec_X13_image.1.1.2.1.2.1 rfl ?_
    refine V_callV0 (ci := 13) (a := a0) (As := [(0, 1)]) (st := []) rfl rfl (X13_refused_s G l s1 a0 1) cal_X13_refused rfl ml_X13_55 rfl rfl dec_X13_image.1.1.2.1.2.2 (k_tag (tag := 0) rfl fun r8 s9 => ?_)
    exact V_iret rfl dec_X13_image.1.1.2.2.1
  · refine V_aload_n dec_X13_image.1.1.2.2.2.1 0 rfl ?_
    refine V_getI 13 20 nf_13_20 ft_13_20 fl_X13_311 dec_X13_image.1.1.2.2.2.2 ?_
    refine V_iconst dec_X13_image.1.2.1.1.1 rfl ?_
    refine V_icmp_ne (tgt := 32) dec_X13_image.1.2.1.1.2.1 (by decide) ?_ ?_
    · refine V_iconst dec_X13_image.1.2.2.1.1 rfl ?_
      refine V_istore_n (lv' := [(1, (0, 0)), (0, (2, a0))]) dec_X13_image.1.2.2.1.2.1 (by decide) rfl ?_
      exact V_pick [1, 0] rfl (X13_image_b34_s G l FU s1 a0 0)
    · refine V_aload_n dec_X13_image.1.2.1.1.2.2 0 rfl ?_
      refine V_iconst dec_X13_image.1.2.1.2.1 rfl ?_
      refine V_callV0 (ci := 13) (a := a0) (As := [(0, 3)]) (st := []) rfl rfl (X13_refused_s G l s1 a0 3) cal_X13_refused rfl ml_X13_55 rfl rfl dec_X13_image.1.2.1.2.2.1 (k_tag (tag := 0) rfl fun r6 s7 => ?_)
      exact V_iret rfl dec_X13_image.1.2.1.2.2.2
theorem dec_X13_init : (((((decode cX13_init 0 = .ok (.aload_n 0, 1) ∧ (decode cX13_init 1 = .ok (.invokespecial 3, 3) ∧ decode cX13_init 4 = .ok (.aload_n 0, 1))) ∧ (decode cX13_init 5 = .ok (.iconst (-1), 1) ∧ (decode cX13_init 6 = .ok (.putfield 9, 3) ∧ decode cX13_init 9 = .ok (.aload_n 0, 1)))) ∧ ((decode cX13_init 10 = .ok (.sipush 800, 3) ∧ (decode cX13_init 13 = .ok (.newarray .byte, 2) ∧ decode cX13_init 15 = .ok (.putfield 13, 3))) ∧ (decode cX13_init 18 = .ok (.aload_n 0, 1) ∧ (decode cX13_init 19 = .ok (.bipush 19, 2) ∧ decode cX13_init 21 = .ok (.newarray .int, 2))))) ∧ (((decode cX13_init 23 = .ok (.putfield 17, 3) ∧ (decode cX13_init 26 = .ok (.aload_n 0, 1) ∧ decode cX13_init 27 = .ok (.bipush 19, 2))) ∧ (decode cX13_init 29 = .ok (.newarray .int, 2) ∧ (decode cX13_init 31 = .ok (.putfield 21, 3) ∧ decode cX13_init 34 = .ok (.aload_n 0, 1)))) ∧ ((decode cX13_init 35 = .ok (.sipush 304, 3) ∧ (decode cX13_init 38 = .ok (.newarray .int, 2) ∧ decode cX13_init 40 = .ok (.putfield 24, 3))) ∧ ((decode cX13_init 43 = .ok (.aload_n 0, 1) ∧ decode cX13_init 44 = .ok (.bipush 57, 2)) ∧ (decode cX13_init 46 = .ok (.newarray .int, 2) ∧ decode cX13_init 48 = .ok (.putfield 27, 3)))))) ∧ ((((decode cX13_init 51 = .ok (.aload_n 0, 1) ∧ (decode cX13_init 52 = .ok (.bipush 6, 2) ∧ decode cX13_init 54 = .ok (.newarray .int, 2))) ∧ (decode cX13_init 56 = .ok (.putfield 30, 3) ∧ (decode cX13_init 59 = .ok (.aload_n 0, 1) ∧ decode cX13_init 60 = .ok (.bipush 6, 2)))) ∧ ((decode cX13_init 62 = .ok (.newarray .int, 2) ∧ (decode cX13_init 64 = .ok (.putfield 33, 3) ∧ decode cX13_init 67 = .ok (.aload_n 0, 1))) ∧ (decode cX13_init 68 = .ok (.sipush 5103, 3) ∧ (decode cX13_init 71 = .ok (.newarray .int, 2) ∧ decode cX13_init 73 = .ok (.putfield 36, 3))))) ∧ (((decode cX13_init 76 = .ok (.aload_n 0, 1) ∧ (decode cX13_init 77 = .ok (.bipush 6, 2) ∧ decode cX13_init 79 = .ok (.newarray .int, 2))) ∧ (decode cX13_init 81 = .ok (.putfield 39, 3) ∧ (decode cX13_init 84 = .ok (.aload_n 0, 1) ∧ decode cX13_init 85 = .ok (.iconst 4, 1)))) ∧ ((decode cX13_init 86 = .ok (.newarray .int, 2) ∧ (decode cX13_init 88 = .ok (.putfield 42, 3) ∧ decode cX13_init 91 = .ok (.aload_n 0, 1))) ∧ ((decode cX13_init 92 = .ok (.bipush 7, 2) ∧ decode cX13_init 94 = .ok (.newarray .long, 2)) ∧ (decode cX13_init 96 = .ok (.putfield 45, 3) ∧ decode cX13_init 99 = .ok (.return_, 1))))))) := ⟨⟨by decide +kernel, ⟨by decide +kernel, by decide +kernel⟩⟩, ⟨by decide +kernel, ⟨by decide +kernel, by decide +kernel⟩⟩⟩
def X13_init (s : St) (a0 : Int) : Rs :=
  grd (isK s 23 a0) (grd (isK s 23 a0) (lets (pI s a0 2 (-1)) (fun s1 => grd (s1.1.1 < 1000000 ∧ 0 ≤ (800 : Int) ∧ (800 : Int) ≤ 100000) (lets (nw s1 2 (800 : Int).toNat) (fun s2 => grd (isK s2 23 a0) (lets (pR s2 a0 5 (s1.1.1 : Int)) (fun s3 => grd (s3.1.1 < 1000000 ∧ 0 ≤ (19 : Int) ∧ (19 : Int) ≤ 100000) (lets (nw s3 1 (19 : Int).toNat) (fun s4 => grd (isK s4 23 a0) (lets (pR s4 a0 15 (s3.1.1 : Int)) (fun s5 => grd (s5.1.1 < 1000000 ∧ 0 ≤ (19 : Int) ∧ (19 : Int) ≤ 100000) (lets (nw s5 1 (19 : Int).toNat) (fun s6 => grd (isK s6 23 a0) (lets (pR s6 a0 16 (s5.1.1 : Int)) (fun s7 => grd (s7.1.1 < 1000000 ∧ 0 ≤ (304 : Int) ∧ (304 : Int) ≤ 100000) (lets (nw s7 1 (304 : Int).toNat) (fun s8 => grd (isK s8 23 a0) (lets (pR s8 a0 17 (s7.1.1 : Int)) (fun s9 => grd (s9.1.1 < 1000000 ∧ 0 ≤ (57 : Int) ∧ (57 : Int) ≤ 100000) (lets (nw s9 1 (57 : Int).toNat) (fun s10 => grd (isK s10 23 a0) (lets (pR s10 a0 18 (s9.1.1 : Int)) (fun s11 => grd (s11.1.1 < 1000000 ∧ 0 ≤ (6 : Int) ∧ (6 : Int) ≤ 100000) (lets (nw s11 1 (6 : Int).toNat) (fun s12 => grd (isK s12 23 a0) (lets (pR s12 a0 21 (s11.1.1 : Int)) (fun s13 => grd (s13.1.1 < 1000000 ∧ 0 ≤ (6 : Int) ∧ (6 : Int) ≤ 100000) (lets (nw s13 1 (6 : Int).toNat) (fun s14 => grd (isK s14 23 a0) (lets (pR s14 a0 22 (s13.1.1 : Int)) (fun s15 => grd (s15.1.1 < 1000000 ∧ 0 ≤ (5103 : Int) ∧ (5103 : Int) ≤ 100000) (lets (nw s15 1 (5103 : Int).toNat) (fun s16 => grd (isK s16 23 a0) (lets (pR s16 a0 24 (s15.1.1 : Int)) (fun s17 => grd (s17.1.1 < 1000000 ∧ 0 ≤ (6 : Int) ∧ (6 : Int) ≤ 100000) (lets (nw s17 1 (6 : Int).toNat) (fun s18 => grd (isK s18 23 a0) (lets (pR s18 a0 25 (s17.1.1 : Int)) (fun s19 => grd (s19.1.1 < 1000000 ∧ 0 ≤ (4 : Int) ∧ (4 : Int) ≤ 100000) (lets (nw s19 1 (4 : Int).toNat) (fun s20 => grd (isK s20 23 a0) (lets (pR s20 a0 29 (s19.1.1 : Int)) (fun s21 => grd (s21.1.1 < 1000000 ∧ 0 ≤ (7 : Int) ∧ (7 : Int) ≤ 100000) (lets (nw s21 3 (7 : Int).toNat) (fun s22 => grd (isK s22 23 a0) (lets (pR s22 a0 31 (s21.1.1 : Int)) (fun s23 => some (0, s23))))))))))))))))))))))))))))))))))))))))))))))))
set_option maxRecDepth 100000 in
set_option maxHeartbeats 4000000 in
theorem X13_init_s (G : Gx) (l : Launch) (s : St) (a0 : Int) : Snd G l mX13_init [(2, a0)] s (X13_init s a0) := by
  refine Snd.of (by decide +kernel) rfl ?_
  show V G l mX13_init 0 [(0, (2, a0))] [] s _
  unfold X13_init
  refine V_aload_n dec_X13_init.1.1.1.1.1 0 rfl ?_
  refine V_objInit (ci := 13) ml_X13_3 oi_inst oi_code rfl rfl dec_X13_init.1.1.1.1.2.1 ?_
  refine V_aload_n dec_X13_init.1.1.1.1.2.2 0 rfl ?_
  refine V_iconst dec_X13_init.1.1.1.2.1 rfl ?_
  refine V_putI (host := "") 13 2 nf_13_2 ty_13_2 (Or.inl ⟨fl_X13_9, Or.inl rfl⟩) dec_X13_init.1.1.1.2.2.1 ?_
  refine V_lets fun s1 => ?_
  refine V_aload_n dec_X13_init.1.1.1.2.2.2 0 rfl ?_
  refine V_sipush dec_X13_init.1.1.2.1.1 rfl ?_
  refine V_newarr (at0 := .byte) (by decide) ac_byte dec_X13_init.1.1.2.1.2.1 ?_
  refine V_lets fun s2 => ?_
  refine V_putR (host := "") 13 5 nf_13_5 ty_13_5 (Or.inl ⟨fl_X13_13, Or.inr ⟨rfl, rfl, rfl⟩⟩) dec_X13_init.1.1.2.1.2.2 ?_
  refine V_lets fun s3 => ?_
  refine V_aload_n dec_X13_init.1.1.2.2.1 0 rfl ?_
  refine V_bipush dec_X13_init.1.1.2.2.2.1 rfl ?_
  refine V_newarr (at0 := .int) (by decide) ac_int dec_X13_init.1.1.2.2.2.2 ?_
  refine V_lets fun s4 => ?_
  refine V_putR (host := "") 13 15 nf_13_15 ty_13_15 (Or.inl ⟨fl_X13_17, Or.inr ⟨rfl, rfl, rfl⟩⟩) dec_X13_init.1.2.1.1.1 ?_
  refine V_lets fun s5 => ?_
  refine V_aload_n dec_X13_init.1.2.1.1.2.1 0 rfl ?_
  refine V_bipush dec_X13_init.1.2.1.1.2.2 rfl ?_
  refine V_newarr (at0 := .int) (by decide) ac_int dec_X13_init.1.2.1.2.1 ?_
  refine V_lets fun s6 => ?_
  refine V_putR (host := "") 13 16 nf_13_16 ty_13_16 (Or.inl ⟨fl_X13_21, Or.inr ⟨rfl, rfl, rfl⟩⟩) dec_X13_init.1.2.1.2.2.1 ?_
  refine V_lets fun s7 => ?_
  refine V_aload_n dec_X13_init.1.2.1.2.2.2 0 rfl ?_
  refine V_sipush dec_X13_init.1.2.2.1.1 rfl ?_
  refine V_newarr (at0 := .int) (by decide) ac_int dec_X13_init.1.2.2.1.2.1 ?_
  refine V_lets fun s8 => ?_
  refine V_putR (host := "") 13 17 nf_13_17 ty_13_17 (Or.inl ⟨fl_X13_24, Or.inr ⟨rfl, rfl, rfl⟩⟩) dec_X13_init.1.2.2.1.2.2 ?_
  refine V_lets fun s9 => ?_
  refine V_aload_n dec_X13_init.1.2.2.2.1.1 0 rfl ?_
  refine V_bipush dec_X13_init.1.2.2.2.1.2 rfl ?_
  refine V_newarr (at0 := .int) (by decide) ac_int dec_X13_init.1.2.2.2.2.1 ?_
  refine V_lets fun s10 => ?_
  refine V_putR (host := "") 13 18 nf_13_18 ty_13_18 (Or.inl ⟨fl_X13_27, Or.inr ⟨rfl, rfl, rfl⟩⟩) dec_X13_init.1.2.2.2.2.2 ?_
  refine V_lets fun s11 => ?_
  refine V_aload_n dec_X13_init.2.1.1.1.1 0 rfl ?_
  refine V_bipush dec_X13_init.2.1.1.1.2.1 rfl ?_
  refine V_newarr (at0 := .int) (by decide) ac_int dec_X13_init.2.1.1.1.2.2 ?_
  refine V_lets fun s12 => ?_
  refine V_putR (host := "") 13 21 nf_13_21 ty_13_21 (Or.inl ⟨fl_X13_30, Or.inr ⟨rfl, rfl, rfl⟩⟩) dec_X13_init.2.1.1.2.1 ?_
  refine V_lets fun s13 => ?_
  refine V_aload_n dec_X13_init.2.1.1.2.2.1 0 rfl ?_
  refine V_bipush dec_X13_init.2.1.1.2.2.2 rfl ?_
  refine V_newarr (at0 := .int) (by decide) ac_int dec_X13_init.2.1.2.1.1 ?_
  refine V_lets fun s14 => ?_
  refine V_putR (host := "") 13 22 nf_13_22 ty_13_22 (Or.inl ⟨fl_X13_33, Or.inr ⟨rfl, rfl, rfl⟩⟩) dec_X13_init.2.1.2.1.2.1 ?_
  refine V_lets fun s15 => ?_
  refine V_aload_n dec_X13_init.2.1.2.1.2.2 0 rfl ?_
  refine V_sipush dec_X13_init.2.1.2.2.1 rfl ?_
  refine V_newarr (at0 := .int) (by decide) ac_int dec_X13_init.2.1.2.2.2.1 ?_
  refine V_lets fun s16 => ?_
  refine V_putR (host := "") 13 24 nf_13_24 ty_13_24 (Or.inl ⟨fl_X13_36, Or.inr ⟨rfl, rfl, rfl⟩⟩) dec_X13_init.2.1.2.2.2.2 ?_
  refine V_lets fun s17 => ?_
  refine V_aload_n dec_X13_init.2.2.1.1.1 0 rfl ?_
  refine V_bipush dec_X13_init.2.2.1.1.2.1 rfl ?_
  refine V_newarr (at0 := .int) (by decide) ac_int dec_X13_init.2.2.1.1.2.2 ?_
  refine V_lets fun s18 => ?_
  refine V_putR (host := "") 13 25 nf_13_25 ty_13_25 (Or.inl ⟨fl_X13_39, Or.inr ⟨rfl, rfl, rfl⟩⟩) dec_X13_init.2.2.1.2.1 ?_
  refine V_lets fun s19 => ?_
  refine V_aload_n dec_X13_init.2.2.1.2.2.1 0 rfl ?_
  refine V_iconst dec_X13_init.2.2.1.2.2.2 rfl ?_
  refine V_newarr (at0 := .int) (by decide) ac_int dec_X13_init.2.2.2.1.1 ?_
  refine V_lets fun s20 => ?_
  refine V_putR (host := "") 13 29 nf_13_29 ty_13_29 (Or.inl ⟨fl_X13_42, Or.inr ⟨rfl, rfl, rfl⟩⟩) dec_X13_init.2.2.2.1.2.1 ?_
  refine V_lets fun s21 => ?_
  refine V_aload_n dec_X13_init.2.2.2.1.2.2 0 rfl ?_
  refine V_bipush dec_X13_init.2.2.2.2.1.1 rfl ?_
  refine V_newarr (at0 := .long) (by decide) ac_long dec_X13_init.2.2.2.2.1.2 ?_
  refine V_lets fun s22 => ?_
  refine V_putR (host := "") 13 31 nf_13_31 ty_13_31 (Or.inl ⟨fl_X13_45, Or.inr ⟨rfl, rfl, rfl⟩⟩) dec_X13_init.2.2.2.2.2.1 ?_
  refine V_lets fun s23 => ?_
  exact V_vret rfl dec_X13_init.2.2.2.2.2.2
theorem dec_X13_rightFor : (((((decode cX13_rightFor 0 = .ok (.iconst 0, 1) ∧ decode cX13_rightFor 1 = .ok (.istore 4, 2)) ∧ (decode cX13_rightFor 3 = .ok (.iconst 0, 1) ∧ decode cX13_rightFor 4 = .ok (.istore 5, 2))) ∧ ((decode cX13_rightFor 6 = .ok (.iload 5, 2) ∧ decode cX13_rightFor 8 = .ok (.aload_n 0, 1)) ∧ (decode cX13_rightFor 9 = .ok (.getfield 303, 3) ∧ (decode cX13_rightFor 12 = .ok (.getfield 241, 3) ∧ decode cX13_rightFor 15 = .ok (.if_icmp .ge 57, 3))))) ∧ (((decode cX13_rightFor 18 = .ok (.iload 4, 2) ∧ decode cX13_rightFor 20 = .ok (.aload_n 0, 1)) ∧ (decode cX13_rightFor 21 = .ok (.getfield 303, 3) ∧ (decode cX13_rightFor 24 = .ok (.getfield 263, 3) ∧ decode cX13_rightFor 27 = .ok (.iload 5, 2)))) ∧ ((decode cX13_rightFor 29 = .ok (.iaload, 1) ∧ decode cX13_rightFor 30 = .ok (.iload_n 1, 1)) ∧ (decode cX13_rightFor 31 = .ok (.if_icmp .eq 17, 3) ∧ (decode cX13_rightFor 34 = .ok (.aload_n 0, 1) ∧ decode cX13_rightFor 35 = .ok (.getfield 303, 3)))))) ∧ ((((decode cX13_rightFor 38 = .ok (.getfield 263, 3) ∧ decode cX13_rightFor 41 = .ok (.iload 5, 2)) ∧ (decode cX13_rightFor 43 = .ok (.iaload, 1) ∧ decode cX13_rightFor 44 = .ok (.iload_n 2, 1))) ∧ ((decode cX13_rightFor 45 = .ok (.if_icmp .ne 17, 3) ∧ decode cX13_rightFor 48 = .ok (.aload_n 0, 1)) ∧ (decode cX13_rightFor 49 = .ok (.iload 5, 2) ∧ (decode cX13_rightFor 51 = .ok (.iload_n 3, 1) ∧ decode cX13_rightFor 52 = .ok (.invokevirtual 336, 3))))) ∧ (((decode cX13_rightFor 55 = .ok (.ifCond .eq 7, 3) ∧ decode cX13_rightFor 58 = .ok (.iconst 1, 1)) ∧ (decode cX13_rightFor 59 = .ok (.goto 4, 3) ∧ (decode cX13_rightFor 62 = .ok (.iconst 0, 1) ∧ decode cX13_rightFor 63 = .ok (.iadd, 1)))) ∧ ((decode cX13_rightFor 64 = .ok (.istore 4, 2) ∧ decode cX13_rightFor 66 = .ok (.iinc 5 1, 3)) ∧ (decode cX13_rightFor 69 = .ok (.goto (-63), 3) ∧ (decode cX13_rightFor 72 = .ok (.iload 4, 2) ∧ decode cX13_rightFor 74 = .ok (.ireturn, 1))))))) := ⟨⟨by decide +kernel, by decide +kernel⟩, ⟨by decide +kernel, by decide +kernel⟩⟩
def X13_rightFor_b63 (rk6 : St → Int → Int → Int → Int → Int → Int → Rs) (s : St) (x0 x1 x2 x3 x5 k0 k1 : Int) : Rs :=
  rk6 s x0 x1 x2 x3 (w32 (k1 + k0)) (w32 (x5 + 1))
set_option maxRecDepth 100000 in
set_option maxHeartbeats 4000000 in
theorem X13_rightFor_b63_s (G : Gx) (l : Launch) (rk6 : St → Int → Int → Int → Int → Int → Int → Rs) (hk6 : ∀ (s : St) (x0 x1 x2 x3 x4 x5 : Int), V G l mX13_rightFor 6 [(0, (2, x0)), (1, (0, x1)), (2, (0, x2)), (3, (0, x3)), (4, (0, x4)), (5, (0, x5))] [] s (rk6 s x0 x1 x2 x3 x4 x5)) (s : St) (x0 x1 x2 x3 x5 k0 k1 : Int) : V G l mX13_rightFor 63 [(0, (2, x0)), (1, (0, x1)), (2, (0, x2)), (3, (0, x3)), (5, (0, x5))] [(0, k0), (0, k1)] s (X13_rightFor_b63 rk6 s x0 x1 x2 x3 x5 k0 k1) := by
  unfold X13_rightFor_b63
  refine V_iadd dec_X13_rightFor.2.2.1.2.2.2 ?_
  refine V_istore (lv' := [(4, (0, (w32 (k1 + k0)))), (0, (2, x0)), (1, (0, x1)), (2, (0, x2)), (3, (0, x3)), (5, (0, x5))]) dec_X13_rightFor.2.2.2.1.1 (by decide) rfl ?_
  refine V_iinc (lv' := [(5, (0, (w32 (x5 + 1)))), (4, (0, (w32 (k1 + k0)))), (0, (2, x0)), (1, (0, x1)), (2, (0, x2)), (3, (0, x3))]) dec_X13_rightFor.2.2.2.1.2 5 rfl (by decide) rfl ?_
  refine V_goto (tgt := 6) dec_X13_rightFor.2.2.2.2.1 (by decide) ?_
  exact V_pick [2, 3, 4, 5, 1, 0] rfl (hk6 s x0 x1 x2 x3 (w32 (k1 + k0)) (w32 (x5 + 1)))
def X13_rightFor_b62 (rk6 : St → Int → Int → Int → Int → Int → Int → Rs) (s : St) (x0 x1 x2 x3 x5 k0 : Int) : Rs :=
  X13_rightFor_b63 rk6 s x0 x1 x2 x3 x5 0 k0
set_option maxRecDepth 100000 in
set_option maxHeartbeats 4000000 in
theorem X13_rightFor_b62_s (G : Gx) (l : Launch) (rk6 : St → Int → Int → Int → Int → Int → Int → Rs) (hk6 : ∀ (s : St) (x0 x1 x2 x3 x4 x5 : Int), V G l mX13_rightFor 6 [(0, (2, x0)), (1, (0, x1)), (2, (0, x2)), (3, (0, x3)), (4, (0, x4)), (5, (0, x5))] [] s (rk6 s x0 x1 x2 x3 x4 x5)) (s : St) (x0 x1 x2 x3 x5 k0 : Int) : V G l mX13_rightFor 62 [(0, (2, x0)), (1, (0, x1)), (2, (0, x2)), (3, (0, x3)), (5, (0, x5))] [(0, k0)] s (X13_rightFor_b62 rk6 s x0 x1 x2 x3 x5 k0) := by
  unfold X13_rightFor_b62
  refine V_iconst dec_X13_rightFor.2.2.1.2.2.1 rfl ?_
  exact V_pick [0, 1, 2, 3, 4] rfl (X13_rightFor_b63_s G l rk6 hk6 s x0 x1 x2 x3 x5 0 k0)
def X13_rightFor_b48 (rk6 : St → Int → Int → Int → Int → Int → Int → Rs) (s : St) (x0 x1 x2 x3 x5 k0 : Int) : Rs :=
  grd (isK s 23 x0) (bnd (X13_isRight s x0 x5 x3) (fun r1 s2 => if r1 = 0 then (X13_rightFor_b62 rk6 s2 x0 x1 x2 x3 x5 k0) else (X13_rightFor_b63 rk6 s2 x0 x1 x2 x3 x5 1 k0)))
set_option maxRecDepth 100000 in
set_option maxHeartbeats 4000000 in
theorem X13_rightFor_b48_s (G : Gx) (l : Launch) (rk6 : St → Int → Int → Int → Int → Int → Int → Rs) (hk6 : ∀ (s : St) (x0 x1 x2 x3 x4 x5 : Int), V G l mX13_rightFor 6 [(0, (2, x0)), (1, (0, x1)), (2, (0, x2)), (3, (0, x3)), (4, (0, x4)), (5, (0, x5))] [] s (rk6 s x0 x1 x2 x3 x4 x5)) (s : St) (x0 x1 x2 x3 x5 k0 : Int) : V G l mX13_rightFor 48 [(0, (2, x0)), (1, (0, x1)), (2, (0, x2)), (3, (0, x3)), (5, (0, x5))] [(0, k0)] s (X13_rightFor_b48 rk6 s x0 x1 x2 x3 x5 k0) := by
  unfold X13_rightFor_b48
  refine V_aload_n dec_X13_rightFor.2.1.2.1.2 0 rfl ?_
  refine V_iload dec_X13_rightFor.2.1.2.2.1 4 rfl ?_
  refine V_iload_n dec_X13_rightFor.2.1.2.2.2.1 3 rfl ?_
  refine V_callV0 (ci := 13) (a := x0) (As := [(0, x5), (0, x3)]) (st := [(0, k0)]) rfl rfl (X13_isRight_s G l s x0 x5 x3) cal_X13_isRight rfl ml_X13_336 rfl rfl dec_X13_rightFor.2.1.2.2.2.2 (k_tag (tag := 0) rfl fun r1 s2 => ?_)
  refine V_if_eq (tgt := 62) dec_X13_rightFor.2.2.1.1.1 (by decide) ?_ ?_
  · exact V_pick [0, 1, 2, 3, 4] rfl (X13_rightFor_b62_s G l rk6 hk6 s2 x0 x1 x2 x3 x5 k0)
  · refine V_iconst dec_X13_rightFor.2.2.1.1.2 rfl ?_
    refine V_goto (tgt := 63) dec_X13_rightFor.2.2.1.2.1 (by decide) ?_
    exact V_pick [0, 1, 2, 3, 4] rfl (X13_rightFor_b63_s G l rk6 hk6 s2 x0 x1 x2 x3 x5 1 k0)
def X13_rightFor_b6_body (rk6 : St → Int → Int → Int → Int → Int → Int → Rs) (s : St) (x0 x1 x2 x3 x4 x5 : Int) : Rs :=
  grd (isK s 23 x0) (grd (isK s 22 (gR s x0 3)) (if (gI s (gR s x0 3) 3) ≤ x5 then (some (x4, s)) else (grd (isK s 23 x0) (grd (isK s 22 (gR s x0 3)) (grd (isK s 1 (gR s (gR s x0 3) 11) ∧ 0 ≤ x5 ∧ x5 < ln s (gR s (gR s x0 3) 11)) (if (gI s (gR s (gR s x0 3) 11) x5.toNat) = x1 then (X13_rightFor_b48 rk6 s x0 x1 x2 x3 x5 x4) else (grd (isK s 23 x0) (grd (isK s 22 (gR s x0 3)) (grd (isK s 1 (gR s (gR s x0 3) 11) ∧ 0 ≤ x5 ∧ x5 < ln s (gR s (gR s x0 3) 11)) (if ¬ (gI s (gR s (gR s x0 3) 11) x5.toNat) = x2 then (X13_rightFor_b62 rk6 s x0 x1 x2 x3 x5 x4) else (X13_rightFor_b48 rk6 s x0 x1 x2 x3 x5 x4)))))))))))
def X13_rightFor_b6 (n : Nat) (s : St) (x0 x1 x2 x3 x4 x5 : Int) : Rs := iter (fun (rec : St × Int × Int × Int × Int × Int × Int → Rs) (a : St × Int × Int × Int × Int × Int × Int) => X13_rightFor_b6_body (fun (s : St) (x0 x1 x2 x3 x4 x5 : Int) => rec (s, x0, x1, x2, x3, x4, x5)) a.1 a.2.1 a.2.2.1 a.2.2.2.1 a.2.2.2.2.1 a.2.2.2.2.2.1 a.2.2.2.2.2.2) n (s, x0, x1, x2, x3, x4, x5)
theorem X13_rightFor_b6_0 (s : St) (x0 x1 x2 x3 x4 x5 : Int) : X13_rightFor_b6 0 s x0 x1 x2 x3 x4 x5 = none := rfl
theorem X13_rightFor_b6_1 (n : Nat) (s : St) (x0 x1 x2 x3 x4 x5 : Int) : X13_rightFor_b6 (n + 1) s x0 x1 x2 x3 x4 x5 = X13_rightFor_b6_body (X13_rightFor_b6 n) s x0 x1 x2 x3 x4 x5 := rfl
set_option maxRecDepth 100000 in
set_option maxHeartbeats 4000000 in
theorem X13_rightFor_b6_body_s (G : Gx) (l : Launch) (rk6 : St → Int → Int → Int → Int → Int → Int → Rs) (hk6 : ∀ (s : St) (x0 x1 x2 x3 x4 x5 : Int), V G l mX13_rightFor 6 [(0, (2, x0)), (1, (0, x1)), (2, (0, x2)), (3, (0, x3)), (4, (0, x4)), (5, (0, x5))] [] s (rk6 s x0 x1 x2 x3 x4 x5)) (s : St) (x0 x1 x2 x3 x4 x5 : Int) : V G l mX13_rightFor 6 [(0, (2, x0)), (1, (0, x1)), (2, (0, x2)), (3, (0, x3)), (4, (0, x4)), (5, (0, x5))] [] s (X13_rightFor_b6_body rk6 s x0 x1 x2 x3 x4 x5) := by
  unfold X13_rightFor_b6_body
  refine V_iload dec_X13_rightFor.1.1.2.1.1 5 rfl ?_
  refine V_aload_n dec_X13_rightFor.1.1.2.1.2 0 rfl ?_
  refine V_getR 13 3 nf_13_3 ft_13_3 fl_X13_303 dec_X13_rightFor.1.1.2.2.1 ?_
  refine V_getIN RX13 12 3 nf_12_3 ft_12_3 fl_X13_241 dec_X13_rightFor.1.1.2.2.2.1 ?_
  refine V_icmp_ge (tgt := 72) dec_X13_rightFor.1.1.2.2.2.2 (by decide) ?_ ?_
  · refine V_iload dec_X13_rightFor.2.2.2.2.2.1 4 rfl ?_
    exact V_iret rfl dec_X13_rightFor.2.2.2.2.2.2
  · refine V_iload dec_X13_rightFor.1.2.1.1.1 4 rfl ?_
    refine V_aload_n dec_X13_rightFor.1.2.1.1.2 0 rfl ?_
    refine V_getR 13 3 nf_13_3 ft_13_3 fl_X13_303 dec_X13_rightFor.1.2.1.2.1 ?_
    refine V_getRN RX13 12 11 nf_12_11 ft_12_11 fl_X13_263 dec_X13_rightFor.1.2.1.2.2.1 ?_
    refine V_iload dec_X13_rightFor.1.2.1.2.2.2 5 rfl ?_
    refine V_iald dec_X13_rightFor.1.2.2.1.1 ?_
    refine V_iload_n dec_X13_rightFor.1.2.2.1.2 1 rfl ?_
    refine V_icmp_eq (tgt := 48) dec_X13_rightFor.1.2.2.2.1 (by decide) ?_ ?_
    · exact V_pick [0, 1, 2, 3, 5] rfl (X13_rightFor_b48_s G l rk6 hk6 s x0 x1 x2 x3 x5 x4)
    · refine V_aload_n dec_X13_rightFor.1.2.2.2.2.1 0 rfl ?_
      refine V_getR 13 3 nf_13_3 ft_13_3 fl_X13_303 dec_X13_rightFor.1.2.2.2.2.2 ?_
      refine V_getRN RX13 12 11 nf_12_11 ft_12_11 fl_X13_263 dec_X13_rightFor.2.1.1.1.1 ?_
      refine V_iload dec_X13_rightFor.2.1.1.1.2 5 rfl ?_
      refine V_iald dec_X13_rightFor.2.1.1.2.1 ?_
      refine V_iload_n dec_X13_rightFor.2.1.1.2.2 2 rfl ?_
      refine V_icmp_ne (tgt := 62) dec_X13_rightFor.2.1.2.1.1 (by decide) ?_ ?_
      · exact V_pick [0, 1, 2, 3, 5] rfl (X13_rightFor_b62_s G l rk6 hk6 s x0 x1 x2 x3 x5 x4)
      · exact V_pick [0, 1, 2, 3, 5] rfl (X13_rightFor_b48_s G l rk6 hk6 s x0 x1 x2 x3 x5 x4)
theorem X13_rightFor_b6_s (G : Gx) (l : Launch) (n : Nat) (s : St) (x0 x1 x2 x3 x4 x5 : Int) : V G l mX13_rightFor 6 [(0, (2, x0)), (1, (0, x1)), (2, (0, x2)), (3, (0, x3)), (4, (0, x4)), (5, (0, x5))] [] s (X13_rightFor_b6 n s x0 x1 x2 x3 x4 x5) :=
  V_iter (LV := fun a : St × Int × Int × Int × Int × Int × Int => [(0, (2, a.2.1)), (1, (0, a.2.2.1)), (2, (0, a.2.2.2.1)), (3, (0, a.2.2.2.2.1)), (4, (0, a.2.2.2.2.2.1)), (5, (0, a.2.2.2.2.2.2))]) (ST := fun a : St × Int × Int × Int × Int × Int × Int => []) (SS := fun a : St × Int × Int × Int × Int × Int × Int => a.1) (fun rec hrec a => X13_rightFor_b6_body_s G l (fun (s : St) (x0 x1 x2 x3 x4 x5 : Int) => rec (s, x0, x1, x2, x3, x4, x5)) (fun (s : St) (x0 x1 x2 x3 x4 x5 : Int) => hrec (s, x0, x1, x2, x3, x4, x5)) a.1 a.2.1 a.2.2.1 a.2.2.2.1 a.2.2.2.2.1 a.2.2.2.2.2.1 a.2.2.2.2.2.2) n (s, x0, x1, x2, x3, x4, x5)
def X13_rightFor (s : St) (a0 a1 a2 a3 : Int) : Rs :=
  X13_rightFor_b6 FU s a0 a1 a2 a3 0 0
set_option maxRecDepth 100000 in
set_option maxHeartbeats 4000000 in
theorem X13_rightFor_s (G : Gx) (l : Launch) (s : St) (a0 a1 a2 a3 : Int) : Snd G l mX13_rightFor [(2, a0), (0, a1), (0, a2), (0, a3)] s (X13_rightFor s a0 a1 a2 a3) := by
  refine Snd.of (by decide +kernel) rfl ?_
  show V G l mX13_rightFor 0 [(0, (2, a0)), (1, (0, a1)), (2, (0, a2)), (3, (0, a3))] [] s _
  unfold X13_rightFor
  refine V_iconst dec_X13_rightFor.1.1.1.1.1 rfl ?_
  refine V_istore (lv' := [(4, (0, 0)), (0, (2, a0)), (1, (0, a1)), (2, (0, a2)), (3, (0, a3))]) dec_X13_rightFor.1.1.1.1.2 (by decide) rfl ?_
  refine V_iconst dec_X13_rightFor.1.1.1.2.1 rfl ?_
  refine V_istore (lv' := [(5, (0, 0)), (4, (0, 0)), (0, (2, a0)), (1, (0, a1)), (2, (0, a2)), (3, (0, a3))]) dec_X13_rightFor.1.1.1.2.2 (by decide) rfl ?_
  exact V_pick [2, 3, 4, 5, 1, 0] rfl (X13_rightFor_b6_s G l FU s a0 a1 a2 a3 0 0)
theorem dec_X13_isLiked : (((((decode cX13_isLiked 0 = .ok (.aload_n 0, 1) ∧ decode cX13_isLiked 1 = .ok (.invokevirtual 342, 3)) ∧ (decode cX13_isLiked 4 = .ok (.aload_n 0, 1) ∧ decode cX13_isLiked 5 = .ok (.iload_n 1, 1))) ∧ ((decode cX13_isLiked 6 = .ok (.iload_n 2, 1) ∧ decode cX13_isLiked 7 = .ok (.iload_n 3, 1)) ∧ (decode cX13_isLiked 8 = .ok (.invokevirtual 379, 3) ∧ decode cX13_isLiked 11 = .ok (.istore 4, 2)))) ∧ (((decode cX13_isLiked 13 = .ok (.aload_n 0, 1) ∧ decode cX13_isLiked 14 = .ok (.getfield 21, 3)) ∧ (decode cX13_isLiked 17 = .ok (.iload_n 1, 1) ∧ decode cX13_isLiked 18 = .ok (.aload_n 0, 1))) ∧ ((decode cX13_isLiked 19 = .ok (.getfield 17, 3) ∧ decode cX13_isLiked 22 = .ok (.iload_n 2, 1)) ∧ (decode cX13_isLiked 23 = .ok (.iaload, 1) ∧ (decode cX13_isLiked 24 = .ok (.iastore, 1) ∧ decode cX13_isLiked 25 = .ok (.aload_n 0, 1)))))) ∧ ((((decode cX13_isLiked 26 = .ok (.getfield 21, 3) ∧ decode cX13_isLiked 29 = .ok (.iload_n 2, 1)) ∧ (decode cX13_isLiked 30 = .ok (.aload_n 0, 1) ∧ decode cX13_isLiked 31 = .ok (.getfield 17, 3))) ∧ ((decode cX13_isLiked 34 = .ok (.iload_n 1, 1) ∧ decode cX13_isLiked 35 = .ok (.iaload, 1)) ∧ (decode cX13_isLiked 36 = .ok (.iastore, 1) ∧ (decode cX13_isLiked 37 = .ok (.aload_n 0, 1) ∧ decode cX13_isLiked 38 = .ok (.iload_n 1, 1))))) ∧ (((decode cX13_isLiked 39 = .ok (.iload_n 2, 1) ∧ decode cX13_isLiked 40 = .ok (.iload_n 3, 1)) ∧ (decode cX13_isLiked 41 = .ok (.invokevirtual 379, 3) ∧ decode cX13_isLiked 44 = .ok (.iload 4, 2))) ∧ ((decode cX13_isLiked 46 = .ok (.if_icmp .le 7, 3) ∧ decode cX13_isLiked 49 = .ok (.iconst 1, 1)) ∧ (decode cX13_isLiked 50 = .ok (.goto 4, 3) ∧ (decode cX13_isLiked 53 = .ok (.iconst 0, 1) ∧ decode cX13_isLiked 54 = .ok (.ireturn, 1))))))) := ⟨⟨by decide +kernel, by decide +kernel⟩, ⟨by decide +kernel, by decide +kernel⟩⟩
def X13_isLiked_b54 (s : St) (k0 : Int) : Rs :=
  grd (k0 = 0 ∨ k0 = 1) (some (k0, s))
set_option maxRecDepth 100000 in
set_option maxHeartbeats 4000000 in
theorem X13_isLiked_b54_s (G : Gx) (l : Launch) (s : St) (k0 : Int) : V G l mX13_isLiked 54 [] [(0, k0)] s (X13_isLiked_b54 s k0) := by
  unfold X13_isLiked_b54
  exact V_zret rfl dec_X13_isLiked.2.2.2.2.2.2
def X13_isLiked (s : St) (a0 a1 a2 a3 : Int) : Rs :=
  grd (isK s 23 a0) (bnd (X13_works s a0) (fun r1 s2 => grd (isK s2 23 a0) (bnd (X13_rightFor s2 a0 a1 a2 a3) (fun r3 s4 => grd (isK s4 23 a0) (grd (isK s4 23 a0) (grd (isK s4 1 (gR s4 a0 15) ∧ 0 ≤ a2 ∧ a2 < ln s4 (gR s4 a0 15)) (grd (isK s4 1 (gR s4 a0 16) ∧ 0 ≤ a1 ∧ a1 < ln s4 (gR s4 a0 16)) (lets (pI s4 (gR s4 a0 16) a1.toNat (gI s4 (gR s4 a0 15) a2.toNat)) (fun s5 => grd (isK s5 23 a0) (grd (isK s5 23 a0) (grd (isK s5 1 (gR s5 a0 15) ∧ 0 ≤ a1 ∧ a1 < ln s5 (gR s5 a0 15)) (grd (isK s5 1 (gR s5 a0 16) ∧ 0 ≤ a2 ∧ a2 < ln s5 (gR s5 a0 16)) (lets (pI s5 (gR s5 a0 16) a2.toNat (gI s5 (gR s5 a0 15) a1.toNat)) (fun s6 => grd (isK s6 23 a0) (bnd (X13_rightFor s6 a0 a1 a2 a3) (fun r7 s8 => if r7 ≤ r3 then (X13_isLiked_b54 s8 0) else (X13_isLiked_b54 s8 1)))))))))))))))))
set_option maxRecDepth 100000 in
set_option maxHeartbeats 4000000 in
theorem X13_isLiked_s (G : Gx) (l : Launch) (s : St) (a0 a1 a2 a3 : Int) : Snd G l mX13_isLiked [(2, a0), (0, a1), (0, a2), (0, a3)] s (X13_isLiked s a0 a1 a2 a3) := by
  refine Snd.of (by decide +kernel) rfl ?_
  show V G l mX13_isLiked 0 [(0, (2, a0)), (1, (0, a1)), (2, (0, a2)), (3, (0, a3))] [] s _
  unfold X13_isLiked
  refine V_aload_n dec_X13_isLiked.1.1.1.1.1 0 rfl ?_
  refine V_callV0 (ci := 13) (a := a0) (As := []) (st := []) rfl rfl (X13_works_s G l s a0) cal_X13_works rfl ml_X13_342 rfl rfl dec_X13_isLiked.1.1.1.1.2 (k_void rfl fun r1 s2 => ?_)
  refine V_aload_n dec_X13_isLiked.1.1.1.2.1 0 rfl ?_
  refine V_iload_n dec_X13_isLiked.1.1.1.2.2 1 rfl ?_
  refine V_iload_n dec_X13_isLiked.1.1.2.1.1 2 rfl ?_
  refine V_iload_n dec_X13_isLiked.1.1.2.1.2 3 rfl ?_
  refine V_callV0 (ci := 13) (a := a0) (As := [(0, a1), (0, a2), (0, a3)]) (st := []) rfl rfl (X13_rightFor_s G l s2 a0 a1 a2 a3) cal_X13_rightFor rfl ml_X13_379 rfl rfl dec_X13_isLiked.1.1.2.2.1 (k_tag (tag := 0) rfl fun r3 s4 => ?_)
  refine V_istore (lv' := [(4, (0, r3)), (0, (2, a0)), (1, (0, a1)), (2, (0, a2)), (3, (0, a3))]) dec_X13_isLiked.1.1.2.2.2 (by decide) rfl ?_
  refine V_aload_n dec_X13_isLiked.1.2.1.1.1 1 rfl ?_
  refine V_getR 13 16 nf_13_16 ft_13_16 fl_X13_21 dec_X13_isLiked.1.2.1.1.2 ?_
  refine V_iload_n dec_X13_isLiked.1.2.1.2.1 2 rfl ?_
  refine V_aload_n dec_X13_isLiked.1.2.1.2.2 1 rfl ?_
  refine V_getR 13 15 nf_13_15 ft_13_15 fl_X13_17 dec_X13_isLiked.1.2.2.1.1 ?_
  refine V_iload_n dec_X13_isLiked.1.2.2.1.2 3 rfl ?_
  refine V_iald dec_X13_isLiked.1.2.2.2.1 ?_
  refine V_iast dec_X13_isLiked.1.2.2.2.2.1 ?_
  refine V_lets fun s5 => ?_
  refine V_aload_n dec_X13_isLiked.1.2.2.2.2.2 1 rfl ?_
  refine V_getR 13 16 nf_13_16 ft_13_16 fl_X13_21 dec_X13_isLiked.2.1.1.1.1 ?_
  refine V_iload_n dec_X13_isLiked.2.1.1.1.2 3 rfl ?_
  refine V_aload_n dec_X13_isLiked.2.1.1.2.1 1 rfl ?_
  refine V_getR 13 15 nf_13_15 ft_13_15 fl_X13_17 dec_X13_isLiked.2.1.1.2.2 ?_
  refine V_iload_n dec_X13_isLiked.2.1.2.1.1 2 rfl ?_
  refine V_iald dec_X13_isLiked.2.1.2.1.2 ?_
  refine V_iast dec_X13_isLiked.2.1.2.2.1 ?_
  refine V_lets fun s6 => ?_
  refine V_aload_n dec_X13_isLiked.2.1.2.2.2.1 1 rfl ?_
  refine V_iload_n dec_X13_isLiked.2.1.2.2.2.2 2 rfl ?_
  refine V_iload_n dec_X13_isLiked.2.2.1.1.1 3 rfl ?_
  refine V_iload_n dec_X13_isLiked.2.2.1.1.2 4 rfl ?_
  refine V_callV0 (ci := 13) (a := a0) (As := [(0, a1), (0, a2), (0, a3)]) (st := []) rfl rfl (X13_rightFor_s G l s6 a0 a1 a2 a3) cal_X13_rightFor rfl ml_X13_379 rfl rfl dec_X13_isLiked.2.2.1.2.1 (k_tag (tag := 0) rfl fun r7 s8 => ?_)
  refine V_iload dec_X13_isLiked.2.2.1.2.2 0 rfl ?_
  refine V_icmp_le (tgt := 53) dec_X13_isLiked.2.2.2.1.1 (by decide) ?_ ?_
  · refine V_iconst dec_X13_isLiked.2.2.2.2.2.1 rfl ?_
    exact V_pick [] rfl (X13_isLiked_b54_s G l s8 0)
  · refine V_iconst dec_X13_isLiked.2.2.2.1.2 rfl ?_
    refine V_goto (tgt := 54) dec_X13_isLiked.2.2.2.2.1 (by decide) ?_
    exact V_pick [] rfl (X13_isLiked_b54_s G l s8 1)
theorem dec_X13_packed : ((((decode cX13_packed 0 = .ok (.lconst 0, 1) ∧ (decode cX13_packed 1 = .ok (.lstore_n 1, 1) ∧ decode cX13_packed 2 = .ok (.iconst 0, 1))) ∧ (decode cX13_packed 3 = .ok (.istore_n 3, 1) ∧ (decode cX13_packed 4 = .ok (.iload_n 3, 1) ∧ decode cX13_packed 5 = .ok (.aload_n 0, 1)))) ∧ ((decode cX13_packed 6 = .ok (.invokevirtual 69, 3) ∧ (decode cX13_packed 9 = .ok (.if_icmp .ge 27, 3) ∧ decode cX13_packed 12 = .ok (.ldc2_w 75, 3))) ∧ (decode cX13_packed 15 = .ok (.lload_n 1, 1) ∧ (decode cX13_packed 16 = .ok (.lmul, 1) ∧ decode cX13_packed 17 = .ok (.aload_n 0, 1))))) ∧ (((decode cX13_packed 18 = .ok (.iload_n 3, 1) ∧ (decode cX13_packed 19 = .ok (.invokevirtual 77, 3) ∧ decode cX13_packed 22 = .ok (.bipush 97, 2))) ∧ (decode cX13_packed 24 = .ok (.isub, 1) ∧ (decode cX13_packed 25 = .ok (.iconst 1, 1) ∧ decode cX13_packed 26 = .ok (.iadd, 1)))) ∧ ((decode cX13_packed 27 = .ok (.i2l, 1) ∧ (decode cX13_packed 28 = .ok (.ladd, 1) ∧ decode cX13_packed 29 = .ok (.lstore_n 1, 1))) ∧ ((decode cX13_packed 30 = .ok (.iinc 3 1, 3) ∧ decode cX13_packed 33 = .ok (.goto (-29), 3)) ∧ (decode cX13_packed 36 = .ok (.lload_n 1, 1) ∧ decode cX13_packed 37 = .ok (.lreturn, 1)))))) := ⟨by decide +kernel, ⟨by decide +kernel, by decide +kernel⟩⟩
def X13_packed_b4_body (rk4 : St → Int → Int → Int → Rs) (s : St) (x0 x1 x3 : Int) : Rs :=
  grd (isStr x0) (bnd (J0_length_8abf5 s x0) (fun r1 s2 => if r1 ≤ x3 then (some (x1, s2)) else (grd (isStr x0) (bnd (J0_charAt_5068e s2 x0 x3) (fun r3 s4 => letv (w64 ((w64 (32 * x1)) + (w32 ((w32 (r3 - 97)) + 1)))) (fun y5 => rk4 s4 x0 y5 (w32 (x3 + 1))))))))
def X13_packed_b4 (n : Nat) (s : St) (x0 x1 x3 : Int) : Rs := iter (fun (rec : St × Int × Int × Int → Rs) (a : St × Int × Int × Int) => X13_packed_b4_body (fun (s : St) (x0 x1 x3 : Int) => rec (s, x0, x1, x3)) a.1 a.2.1 a.2.2.1 a.2.2.2) n (s, x0, x1, x3)
theorem X13_packed_b4_0 (s : St) (x0 x1 x3 : Int) : X13_packed_b4 0 s x0 x1 x3 = none := rfl
theorem X13_packed_b4_1 (n : Nat) (s : St) (x0 x1 x3 : Int) : X13_packed_b4 (n + 1) s x0 x1 x3 = X13_packed_b4_body (X13_packed_b4 n) s x0 x1 x3 := rfl
set_option maxRecDepth 100000 in
set_option maxHeartbeats 4000000 in
theorem X13_packed_b4_body_s (G : Gx) (l : Launch) (rk4 : St → Int → Int → Int → Rs) (hk4 : ∀ (s : St) (x0 x1 x3 : Int), V G l mX13_packed 4 [(0, (2, x0)), (1, (1, x1)), (3, (0, x3))] [] s (rk4 s x0 x1 x3)) (s : St) (x0 x1 x3 : Int) : V G l mX13_packed 4 [(0, (2, x0)), (1, (1, x1)), (3, (0, x3))] [] s (X13_packed_b4_body rk4 s x0 x1 x3) := by
  unfold X13_packed_b4_body
  refine V_iload_n dec_X13_packed.1.1.2.2.1 2 rfl ?_
  refine V_aload_n dec_X13_packed.1.1.2.2.2 0 rfl ?_
  refine V_callVs (a := x0) (As := []) (st := [(0, x3)]) rfl rfl (J0_length_8abf5_s G l s x0) cal_J0_length_8abf5 rfl ml_X13_69 rfl rfl dec_X13_packed.1.2.1.1 (k_tag (tag := 0) rfl fun r1 s2 => ?_)
  refine V_icmp_ge (tgt := 36) dec_X13_packed.1.2.1.2.1 (by decide) ?_ ?_
  · refine V_lload_n dec_X13_packed.2.2.2.2.1 1 rfl ?_
    exact V_lret rfl dec_X13_packed.2.2.2.2.2
  · refine V_ldc2 (n := 32) cw_X13_75 (by decide) dec_X13_packed.1.2.1.2.2 ?_
    refine V_lload_n dec_X13_packed.1.2.2.1 1 rfl ?_
    refine V_lmul dec_X13_packed.1.2.2.2.1 ?_
    refine V_aload_n dec_X13_packed.1.2.2.2.2 0 rfl ?_
    refine V_iload_n dec_X13_packed.2.1.1.1 2 rfl ?_
    refine V_callVs (a := x0) (As := [(0, x3)]) (st := [(1, (w64 (32 * x1)))]) rfl rfl (J0_charAt_5068e_s G l s2 x0 x3) cal_J0_charAt_5068e rfl ml_X13_77 rfl rfl dec_X13_packed.2.1.1.2.1 (k_tag (tag := 0) rfl fun r3 s4 => ?_)
    refine V_bipush dec_X13_packed.2.1.1.2.2 rfl ?_
    refine V_isub dec_X13_packed.2.1.2.1 ?_
    refine V_iconst dec_X13_packed.2.1.2.2.1 rfl ?_
    refine V_iadd dec_X13_packed.2.1.2.2.2 ?_
    refine V_i2l dec_X13_packed.2.2.1.1 ?_
    refine V_ladd dec_X13_packed.2.2.1.2.1 ?_
    refine V_letv fun y5 => ?_
    refine V_lstore_n (lv' := [(1, (1, y5)), (0, (2, x0)), (3, (0, x3))]) dec_X13_packed.2.2.1.2.2 (by decide) rfl ?_
    refine V_iinc (lv' := [(3, (0, (w32 (x3 + 1)))), (1, (1, y5)), (0, (2, x0))]) dec_X13_packed.2.2.2.1.1 2 rfl (by decide) rfl ?_
    refine V_goto (tgt := 4) dec_X13_packed.2.2.2.1.2 (by decide) ?_
    exact V_pick [2, 1, 0] rfl (hk4 s4 x0 y5 (w32 (x3 + 1)))
theorem X13_packed_b4_s (G : Gx) (l : Launch) (n : Nat) (s : St) (x0 x1 x3 : Int) : V G l mX13_packed 4 [(0, (2, x0)), (1, (1, x1)), (3, (0, x3))] [] s (X13_packed_b4 n s x0 x1 x3) :=
  V_iter (LV := fun a : St × Int × Int × Int => [(0, (2, a.2.1)), (1, (1, a.2.2.1)), (3, (0, a.2.2.2))]) (ST := fun a : St × Int × Int × Int => []) (SS := fun a : St × Int × Int × Int => a.1) (fun rec hrec a => X13_packed_b4_body_s G l (fun (s : St) (x0 x1 x3 : Int) => rec (s, x0, x1, x3)) (fun (s : St) (x0 x1 x3 : Int) => hrec (s, x0, x1, x3)) a.1 a.2.1 a.2.2.1 a.2.2.2) n (s, x0, x1, x3)
def X13_packed (s : St) (a0 : Int) : Rs :=
  X13_packed_b4 FU s a0 0 0
set_option maxRecDepth 100000 in
set_option maxHeartbeats 4000000 in
theorem X13_packed_s (G : Gx) (l : Launch) (s : St) (a0 : Int) : Snd G l mX13_packed [(2, a0)] s (X13_packed s a0) := by
  refine Snd.of (by decide +kernel) rfl ?_
  show V G l mX13_packed 0 [(0, (2, a0))] [] s _
  unfold X13_packed
  refine V_lconst (n := 0) dec_X13_packed.1.1.1.1 (by decide) ?_
  refine V_lstore_n (lv' := [(1, (1, 0)), (0, (2, a0))]) dec_X13_packed.1.1.1.2.1 (by decide) rfl ?_
  refine V_iconst dec_X13_packed.1.1.1.2.2 rfl ?_
  refine V_istore_n (lv' := [(3, (0, 0)), (1, (1, 0)), (0, (2, a0))]) dec_X13_packed.1.1.2.1 (by decide) rfl ?_
  exact V_pick [2, 1, 0] rfl (X13_packed_b4_s G l FU s a0 0 0)
theorem dec_X13_isWord : (((decode cX13_isWord 0 = .ok (.aload_n 0, 1) ∧ (decode cX13_isWord 1 = .ok (.getfield 81, 3) ∧ decode cX13_isWord 4 = .ok (.iconst 2, 1))) ∧ ((decode cX13_isWord 5 = .ok (.if_icmp .ne 19, 3) ∧ decode cX13_isWord 8 = .ok (.aload_n 0, 1)) ∧ (decode cX13_isWord 9 = .ok (.getfield 97, 3) ∧ decode cX13_isWord 12 = .ok (.aload_n 1, 1)))) ∧ ((decode cX13_isWord 13 = .ok (.invokestatic 113, 3) ∧ (decode cX13_isWord 16 = .ok (.lcmp, 1) ∧ decode cX13_isWord 17 = .ok (.ifCond .ne 7, 3))) ∧ ((decode cX13_isWord 20 = .ok (.iconst 1, 1) ∧ decode cX13_isWord 21 = .ok (.goto 4, 3)) ∧ (decode cX13_isWord 24 = .ok (.iconst 0, 1) ∧ decode cX13_isWord 25 = .ok (.ireturn, 1))))) := ⟨by decide +kernel, by decide +kernel⟩
def X13_isWord_b25 (s : St) (k0 : Int) : Rs :=
  grd (k0 = 0 ∨ k0 = 1) (some (k0, s))
set_option maxRecDepth 100000 in
set_option maxHeartbeats 4000000 in
theorem X13_isWord_b25_s (G : Gx) (l : Launch) (s : St) (k0 : Int) : V G l mX13_isWord 25 [] [(0, k0)] s (X13_isWord_b25 s k0) := by
  unfold X13_isWord_b25
  exact V_zret rfl dec_X13_isWord.2.2.2.2
def X13_isWord_b24 (s : St) : Rs :=
  X13_isWord_b25 s 0
set_option maxRecDepth 100000 in
set_option maxHeartbeats 4000000 in
theorem X13_isWord_b24_s (G : Gx) (l : Launch) (s : St) : V G l mX13_isWord 24 [] [] s (X13_isWord_b24 s) := by
  unfold X13_isWord_b24
  refine V_iconst dec_X13_isWord.2.2.2.1 rfl ?_
  exact V_pick [] rfl (X13_isWord_b25_s G l s 0)
def X13_isWord (s : St) (a0 a1 : Int) : Rs :=
  grd (isK s 23 a0) (if ¬ (gI s a0 9) = (2 : Int) then (X13_isWord_b24 s) else (grd (isK s 23 a0) (bnd (X13_packed s a1) (fun r1 s2 => if ¬ (cmp3 (gI s a0 14) r1) = 0 then (X13_isWord_b24 s2) else (X13_isWord_b25 s2 1)))))
set_option maxRecDepth 100000 in
set_option maxHeartbeats 4000000 in
theorem X13_isWord_s (G : Gx) (l : Launch) (s : St) (a0 a1 : Int) : Snd G l mX13_isWord [(2, a0), (2, a1)] s (X13_isWord s a0 a1) := by
  refine Snd.of (by decide +kernel) rfl ?_
  show V G l mX13_isWord 0 [(0, (2, a0)), (1, (2, a1))] [] s _
  unfold X13_isWord
  refine V_aload_n dec_X13_isWord.1.1.1 0 rfl ?_
  refine V_getI 13 9 nf_13_9 ft_13_9 fl_X13_81 dec_X13_isWord.1.1.2.1 ?_
  refine V_iconst dec_X13_isWord.1.1.2.2 rfl ?_
  refine V_icmp_ne (tgt := 24) dec_X13_isWord.1.2.1.1 (by decide) ?_ ?_
  · exact V_pick [] rfl (X13_isWord_b24_s G l s)
  · refine V_aload_n dec_X13_isWord.1.2.1.2 0 rfl ?_
    refine V_getL 13 14 nf_13_14 ft_13_14 fl_X13_97 dec_X13_isWord.1.2.2.1 ?_
    refine V_aload_n dec_X13_isWord.1.2.2.2 1 rfl ?_
    refine V_callS0 (As := [(2, a1)]) (st := [(1, (gI s a0 14))]) (host := "") rfl (X13_packed_s G l s a1) cal_X13_packed rfl (Or.inl ml_X13_113) rfl rfl dec_X13_isWord.2.1.1 (k_tag (tag := 1) rfl fun r1 s2 => ?_)
    refine V_lcmp dec_X13_isWord.2.1.2.1 ?_
    refine V_if_ne (tgt := 24) dec_X13_isWord.2.1.2.2 (by decide) ?_ ?_
    · exact V_pick [] rfl (X13_isWord_b24_s G l s2)
    · refine V_iconst dec_X13_isWord.2.2.1.1 rfl ?_
      refine V_goto (tgt := 25) dec_X13_isWord.2.2.1.2 (by decide) ?_
      exact V_pick [] rfl (X13_isWord_b25_s G l s2 1)
theorem dec_X13_isName : (((((decode cX13_isName 0 = .ok (.aload_n 0, 1) ∧ decode cX13_isName 1 = .ok (.getfield 81, 3)) ∧ (decode cX13_isName 4 = .ok (.iconst 2, 1) ∧ decode cX13_isName 5 = .ok (.if_icmp .ne 30, 3))) ∧ ((decode cX13_isName 8 = .ok (.aload_n 0, 1) ∧ decode cX13_isName 9 = .ok (.ldc 143, 2)) ∧ (decode cX13_isName 11 = .ok (.invokevirtual 120, 3) ∧ decode cX13_isName 14 = .ok (.ifCond .ne 21, 3)))) ∧ (((decode cX13_isName 17 = .ok (.aload_n 0, 1) ∧ decode cX13_isName 18 = .ok (.ldc 145, 2)) ∧ (decode cX13_isName 20 = .ok (.invokevirtual 120, 3) ∧ decode cX13_isName 23 = .ok (.ifCond .ne 12, 3))) ∧ ((decode cX13_isName 26 = .ok (.aload_n 0, 1) ∧ decode cX13_isName 27 = .ok (.ldc 147, 2)) ∧ (decode cX13_isName 29 = .ok (.invokevirtual 120, 3) ∧ (decode cX13_isName 32 = .ok (.ifCond .eq 5, 3) ∧ decode cX13_isName 35 = .ok (.iconst 0, 1)))))) ∧ ((((decode cX13_isName 36 = .ok (.ireturn, 1) ∧ decode cX13_isName 37 = .ok (.aload_n 0, 1)) ∧ (decode cX13_isName 38 = .ok (.ldc 149, 2) ∧ decode cX13_isName 40 = .ok (.invokevirtual 120, 3))) ∧ ((decode cX13_isName 43 = .ok (.ifCond .ne 25, 3) ∧ decode cX13_isName 46 = .ok (.aload_n 0, 1)) ∧ (decode cX13_isName 47 = .ok (.ldc 151, 2) ∧ decode cX13_isName 49 = .ok (.invokevirtual 120, 3)))) ∧ (((decode cX13_isName 52 = .ok (.ifCond .ne 16, 3) ∧ decode cX13_isName 55 = .ok (.aload_n 0, 1)) ∧ (decode cX13_isName 56 = .ok (.ldc 153, 2) ∧ decode cX13_isName 58 = .ok (.invokevirtual 120, 3))) ∧ ((decode cX13_isName 61 = .ok (.ifCond .ne 7, 3) ∧ decode cX13_isName 64 = .ok (.iconst 1, 1)) ∧ (decode cX13_isName 65 = .ok (.goto 4, 3) ∧ (decode cX13_isName 68 = .ok (.iconst 0, 1) ∧ decode cX13_isName 69 = .ok (.ireturn, 1))))))) := ⟨⟨by decide +kernel, by decide +kernel⟩, ⟨by decide +kernel, by decide +kernel⟩⟩
def X13_isName_b35 (s : St) : Rs :=
  grd ((0 : Int) = 0 ∨ (0 : Int) = 1) (some (0, s))
set_option maxRecDepth 100000 in
set_option maxHeartbeats 4000000 in
theorem X13_isName_b35_s (G : Gx) (l : Launch) (s : St) : V G l mX13_isName 35 [] [] s (X13_isName_b35 s) := by
  unfold X13_isName_b35
  refine V_iconst dec_X13_isName.1.2.2.2.2.2 rfl ?_
  exact V_zret rfl dec_X13_isName.2.1.1.1.1
def X13_isName_b69 (s : St) (k0 : Int) : Rs :=
  grd (k0 = 0 ∨ k0 = 1) (some (k0, s))
set_option maxRecDepth 100000 in
set_option maxHeartbeats 4000000 in
theorem X13_isName_b69_s (G : Gx) (l : Launch) (s : St) (k0 : Int) : V G l mX13_isName 69 [] [(0, k0)] s (X13_isName_b69 s k0) := by
  unfold X13_isName_b69
  exact V_zret rfl dec_X13_isName.2.2.2.2.2.2
def X13_isName_b68 (s : St) : Rs :=
  X13_isName_b69 s 0
set_option maxRecDepth 100000 in
set_option maxHeartbeats 4000000 in
theorem X13_isName_b68_s (G : Gx) (l : Launch) (s : St) : V G l mX13_isName 68 [] [] s (X13_isName_b68 s) := by
  unfold X13_isName_b68
  refine V_iconst dec_X13_isName.2.2.2.2.2.1 rfl ?_
  exact V_pick [] rfl (X13_isName_b69_s G l s 0)
def X13_isName (s : St) (a0 : Int) : Rs :=
  grd (isK s 23 a0) (if ¬ (gI s a0 9) = (2 : Int) then (X13_isName_b35 s) else (grd (isK s 23 a0) (bnd (X13_isWord s a0 (1000000 + ((17 : Nat) : Int))) (fun r1 s2 => if ¬ r1 = 0 then (X13_isName_b35 s2) else (grd (isK s2 23 a0) (bnd (X13_isWord s2 a0 (1000000 + ((20 : Nat) : Int))) (fun r3 s4 => if ¬ r3 = 0 then (X13_isName_b35 s4) else (grd (isK s4 23 a0) (bnd (X13_isWord s4 a0 (1000000 + ((21 : Nat) : Int))) (fun r5 s6 => if r5 = 0 then (grd (isK s6 23 a0) (bnd (X13_isWord s6 a0 (1000000 + ((22 : Nat) : Int))) (fun r7 s8 => if ¬ r7 = 0 then (X13_isName_b68 s8) else (grd (isK s8 23 a0) (bnd (X13_isWord s8 a0 (1000000 + ((23 : Nat) : Int))) (fun r9 s10 => if ¬ r9 = 0 then (X13_isName_b68 s10) else (grd (isK s10 23 a0) (bnd (X13_isWord s10 a0 (1000000 + ((24 : Nat) : Int))) (fun r11 s12 => if ¬ r11 = 0 then (X13_isName_b68 s12) else (X13_isName_b69 s12 1)))))))))) else (X13_isName_b35 s6)))))))))))
set_option maxRecDepth 100000 in
set_option maxHeartbeats 4000000 in
theorem X13_isName_s (G : Gx) (l : Launch) (s : St) (a0 : Int) : Snd G l mX13_isName [(2, a0)] s (X13_isName s a0) := by
  refine Snd.of (by decide +kernel) rfl ?_
  show V G l mX13_isName 0 [(0, (2, a0))] [] s _
  unfold X13_isName
  refine V_aload_n dec_X13_isName.1.1.1.1.1 0 rfl ?_
  refine V_getI 13 9 nf_13_9 ft_13_9 fl_X13_81 dec_X13_isName.1.1.1.1.2 ?_
  refine V_iconst dec_X13_isName.1.1.1.2.1 rfl ?_
  refine V_icmp_ne (tgt := 35) dec_X13_isName.1.1.1.2.2 (by decide) ?_ ?_
  · exact V_pick [] rfl (X13_isName_b35_s G l s)
  · refine V_aload_n dec_X13_isName.1.1.2.1.1 0 rfl ?_
    refine V_ldcS 17 _ rfl rfl rfl dec_X13_isName.1.1.2.1.2 ?_
    refine V_callV0 (ci := 13) (a := a0) (As := [(2, (1000000 + ((17 : Nat) : Int)))]) (st := []) rfl rfl (X13_isWord_s G l s a0 (1000000 + ((17 : Nat) : Int))) cal_X13_isWord rfl ml_X13_120 rfl rfl dec_X13_isName.1.1.2.2.1 (k_tag (tag := 0) rfl fun r1 s2 => ?_)
    refine V_if_ne (tgt := 35) dec_X13_isName.1.1.2.2.2 (by decide) ?_ ?_
    · exact V_pick [] rfl (X13_isName_b35_s G l s2)
    · refine V_aload_n dec_X13_isName.1.2.1.1.1 0 rfl ?_
      refine V_ldcS 20 _ rfl rfl rfl dec_X13_isName.1.2.1.1.2 ?_
      refine V_callV0 (ci := 13) (a := a0) (As := [(2, (1000000 + ((20 : Nat) : Int)))]) (st := []) rfl rfl (X13_isWord_s G l s2 a0 (1000000 + ((20 : Nat) : Int))) cal_X13_isWord rfl ml_X13_120 rfl rfl dec_X13_isName.1.2.1.2.1 (k_tag (tag := 0) rfl fun r3 s4 => ?_)
      refine V_if_ne (tgt := 35) dec_X13_isName.1.2.1.2.2 (by decide) ?_ ?_
      · exact V_pick [] rfl (X13_isName_b35_s G l s4)
      · refine V_aload_n dec_X13_isName.1.2.2.1.1 0 rfl ?_
        refine V_ldcS 21 _ rfl rfl rfl dec_X13_isName.1.2.2.1.2 ?_
        refine V_callV0 (ci := 13) (a := a0) (As := [(2, (1000000 + ((21 : Nat) : Int)))]) (st := []) rfl rfl (X13_isWord_s G l s4 a0 (1000000 + ((21 : Nat) : Int))) cal_X13_isWord rfl ml_X13_120 rfl rfl dec_X13_isName.1.2.2.2.1 (k_tag (tag := 0) rfl fun r5 s6 => ?_)
        refine V_if_eq (tgt := 37) dec_X13_isName.1.2.2.2.2.1 (by decide) ?_ ?_
        · refine V_aload_n dec_X13_isName.2.1.1.1.2 0 rfl ?_
          refine V_ldcS 22 _ rfl rfl rfl dec_X13_isName.2.1.1.2.1 ?_
          refine V_callV0 (ci := 13) (a := a0) (As := [(2, (1000000 + ((22 : Nat) : Int)))]) (st := []) rfl rfl (X13_isWord_s G l s6 a0 (1000000 + ((22 : Nat) : Int))) cal_X13_isWord rfl ml_X13_120 rfl rfl dec_X13_isName.2.1.1.2.2 (k_tag (tag := 0) rfl fun r7 s8 => ?_)
          refine V_if_ne (tgt := 68) dec_X13_isName.2.1.2.1.1 (by decide) ?_ ?_
          · exact V_pick [] rfl (X13_isName_b68_s G l s8)
          · refine V_aload_n dec_X13_isName.2.1.2.1.2 0 rfl ?_
            refine V_ldcS 23 _ rfl rfl rfl dec_X13_isName.2.1.2.2.1 ?_
            refine V_callV0 (ci := 13) (a := a0) (As := [(2, (1000000 + ((23 : Nat) : Int)))]) (st := []) rfl rfl (X13_isWord_s G l s8 a0 (1000000 + ((23 : Nat) : Int))) cal_X13_isWord rfl ml_X13_120 rfl rfl dec_X13_isName.2.1.2.2.2 (k_tag (tag := 0) rfl fun r9 s10 => ?_)
            refine V_if_ne (tgt := 68) dec_X13_isName.2.2.1.1.1 (by decide) ?_ ?_
            · exact V_pick [] rfl (X13_isName_b68_s G l s10)
            · refine V_aload_n dec_X13_isName.2.2.1.1.2 0 rfl ?_
              refine V_ldcS 24 _ rfl rfl rfl dec_X13_isName.2.2.1.2.1 ?_
              refine V_callV0 (ci := 13) (a := a0) (As := [(2, (1000000 + ((24 : Nat) : Int)))]) (st := []) rfl rfl (X13_isWord_s G l s10 a0 (1000000 + ((24 : Nat) : Int))) cal_X13_isWord rfl ml_X13_120 rfl rfl dec_X13_isName.2.2.1.2.2 (k_tag (tag := 0) rfl fun r11 s12 => ?_)
              refine V_if_ne (tgt := 68) dec_X13_isName.2.2.2.1.1 (by decide) ?_ ?_
              · exact V_pick [] rfl (X13_isName_b68_s G l s12)
              · refine V_iconst dec_X13_isName.2.2.2.1.2 rfl ?_
                refine V_goto (tgt := 69) dec_X13_isName.2.2.2.2.1 (by decide) ?_
                exact V_pick [] rfl (X13_isName_b69_s G l s12 1)
        · exact V_pick [] rfl (X13_isName_b35_s G l s6)
theorem dec_X13_isRest : (((((decode cX13_isRest 0 = .ok (.iload_n 1, 1) ∧ decode cX13_isRest 1 = .ok (.iconst 1, 1)) ∧ (decode cX13_isRest 2 = .ok (.if_icmp .le 7, 3) ∧ (decode cX13_isRest 5 = .ok (.iconst 1, 1) ∧ decode cX13_isRest 6 = .ok (.goto 4, 3)))) ∧ ((decode cX13_isRest 9 = .ok (.iconst 0, 1) ∧ (decode cX13_isRest 10 = .ok (.istore_n 2, 1) ∧ decode cX13_isRest 11 = .ok (.iload_n 1, 1))) ∧ (decode cX13_isRest 12 = .ok (.iconst 2, 1) ∧ (decode cX13_isRest 13 = .ok (.irem, 1) ∧ decode cX13_isRest 14 = .ok (.iconst 1, 1))))) ∧ (((decode cX13_isRest 15 = .ok (.if_icmp .ne 7, 3) ∧ (decode cX13_isRest 18 = .ok (.iconst 1, 1) ∧ decode cX13_isRest 19 = .ok (.goto 4, 3))) ∧ (decode cX13_isRest 22 = .ok (.iconst 0, 1) ∧ (decode cX13_isRest 23 = .ok (.istore_n 3, 1) ∧ decode cX13_isRest 24 = .ok (.iload_n 0, 1)))) ∧ ((decode cX13_isRest 25 = .ok (.iload_n 2, 1) ∧ (decode cX13_isRest 26 = .ok (.ifCond .ne 7, 3) ∧ decode cX13_isRest 29 = .ok (.iconst 1, 1))) ∧ (decode cX13_isRest 30 = .ok (.goto 4, 3) ∧ (decode cX13_isRest 33 = .ok (.iconst 0, 1) ∧ decode cX13_isRest 34 = .ok (.iload_n 3, 1)))))) ∧ ((((decode cX13_isRest 35 = .ok (.invokestatic 437, 3) ∧ decode cX13_isRest 38 = .ok (.iload_n 0, 1)) ∧ (decode cX13_isRest 39 = .ok (.iload_n 2, 1) ∧ (decode cX13_isRest 40 = .ok (.iload_n 3, 1) ∧ decode cX13_isRest 41 = .ok (.invokestatic 437, 3)))) ∧ ((decode cX13_isRest 44 = .ok (.if_icmp .gt 30, 3) ∧ (decode cX13_isRest 47 = .ok (.iload_n 0, 1) ∧ decode cX13_isRest 48 = .ok (.iload_n 3, 1))) ∧ (decode cX13_isRest 49 = .ok (.ifCond .ne 7, 3) ∧ (decode cX13_isRest 52 = .ok (.iconst 1, 1) ∧ decode cX13_isRest 53 = .ok (.goto 4, 3))))) ∧ (((decode cX13_isRest 56 = .ok (.iconst 0, 1) ∧ (decode cX13_isRest 57 = .ok (.iload_n 2, 1) ∧ decode cX13_isRest 58 = .ok (.invokestatic 437, 3))) ∧ (decode cX13_isRest 61 = .ok (.iload_n 0, 1) ∧ (decode cX13_isRest 62 = .ok (.iload_n 3, 1) ∧ decode cX13_isRest 63 = .ok (.iload_n 2, 1)))) ∧ ((decode cX13_isRest 64 = .ok (.invokestatic 437, 3) ∧ (decode cX13_isRest 67 = .ok (.if_icmp .gt 7, 3) ∧ decode cX13_isRest 70 = .ok (.iconst 1, 1))) ∧ (decode cX13_isRest 71 = .ok (.goto 4, 3) ∧ (decode cX13_isRest 74 = .ok (.iconst 0, 1) ∧ decode cX13_isRest 75 = .ok (.ireturn, 1))))))) := ⟨⟨by decide +kernel, by decide +kernel⟩, ⟨by decide +kernel, by decide +kernel⟩⟩
def X13_isRest_b75 (s : St) (k0 : Int) : Rs :=
  grd (k0 = 0 ∨ k0 = 1) (some (k0, s))
set_option maxRecDepth 100000 in
set_option maxHeartbeats 4000000 in
theorem X13_isRest_b75_s (G : Gx) (l : Launch) (s : St) (k0 : Int) : V G l mX13_isRest 75 [] [(0, k0)] s (X13_isRest_b75 s k0) := by
  unfold X13_isRest_b75
  exact V_zret rfl dec_X13_isRest.2.2.2.2.2.2
def X13_isRest_b74 (s : St) : Rs :=
  X13_isRest_b75 s 0
set_option maxRecDepth 100000 in
set_option maxHeartbeats 4000000 in
theorem X13_isRest_b74_s (G : Gx) (l : Launch) (s : St) : V G l mX13_isRest 74 [] [] s (X13_isRest_b74 s) := by
  unfold X13_isRest_b74
  refine V_iconst dec_X13_isRest.2.2.2.2.2.1 rfl ?_
  exact V_pick [] rfl (X13_isRest_b75_s G l s 0)
def X13_isRest_b57 (s : St) (x0 x2 x3 k0 k1 : Int) : Rs :=
  bnd (X13_chatted s k1 k0 x2) (fun r5 s6 => bnd (X13_chatted s6 x0 x3 x2) (fun r7 s8 => if r7 < r5 then (X13_isRest_b74 s8) else (X13_isRest_b75 s8 1)))
set_option maxRecDepth 100000 in
set_option maxHeartbeats 4000000 in
theorem X13_isRest_b57_s (G : Gx) (l : Launch) (s : St) (x0 x2 x3 k0 k1 : Int) : V G l mX13_isRest 57 [(0, (0, x0)), (2, (0, x2)), (3, (0, x3))] [(0, k0), (0, k1)] s (X13_isRest_b57 s x0 x2 x3 k0 k1) := by
  unfold X13_isRest_b57
  refine V_iload_n dec_X13_isRest.2.2.1.1.2.1 1 rfl ?_
  refine V_callS0 (As := [(0, k1), (0, k0), (0, x2)]) (st := []) (host := "") rfl (X13_chatted_s G l s k1 k0 x2) cal_X13_chatted rfl (Or.inl ml_X13_437) rfl rfl dec_X13_isRest.2.2.1.1.2.2 (k_tag (tag := 0) rfl fun r5 s6 => ?_)
  refine V_iload_n dec_X13_isRest.2.2.1.2.1 0 rfl ?_
  refine V_iload_n dec_X13_isRest.2.2.1.2.2.1 2 rfl ?_
  refine V_iload_n dec_X13_isRest.2.2.1.2.2.2 1 rfl ?_
  refine V_callS0 (As := [(0, x0), (0, x3), (0, x2)]) (st := [(0, r5)]) (host := "") rfl (X13_chatted_s G l s6 x0 x3 x2) cal_X13_chatted rfl (Or.inl ml_X13_437) rfl rfl dec_X13_isRest.2.2.2.1.1 (k_tag (tag := 0) rfl fun r7 s8 => ?_)
  refine V_icmp_gt (tgt := 74) dec_X13_isRest.2.2.2.1.2.1 (by decide) ?_ ?_
  · exact V_pick [] rfl (X13_isRest_b74_s G l s8)
  · refine V_iconst dec_X13_isRest.2.2.2.1.2.2 rfl ?_
    refine V_goto (tgt := 75) dec_X13_isRest.2.2.2.2.1 (by decide) ?_
    exact V_pick [] rfl (X13_isRest_b75_s G l s8 1)
def X13_isRest_b34 (s : St) (x0 x2 x3 k0 k1 : Int) : Rs :=
  bnd (X13_chatted s k1 k0 x3) (fun r1 s2 => bnd (X13_chatted s2 x0 x2 x3) (fun r3 s4 => if r3 < r1 then (X13_isRest_b74 s4) else (if ¬ x3 = 0 then (X13_isRest_b57 s4 x0 x2 x3 0 x0) else (X13_isRest_b57 s4 x0 x2 x3 1 x0))))
set_option maxRecDepth 100000 in
set_option maxHeartbeats 4000000 in
theorem X13_isRest_b34_s (G : Gx) (l : Launch) (s : St) (x0 x2 x3 k0 k1 : Int) : V G l mX13_isRest 34 [(0, (0, x0)), (2, (0, x2)), (3, (0, x3))] [(0, k0), (0, k1)] s (X13_isRest_b34 s x0 x2 x3 k0 k1) := by
  unfold X13_isRest_b34
  refine V_iload_n dec_X13_isRest.1.2.2.2.2.2 2 rfl ?_
  refine V_callS0 (As := [(0, k1), (0, k0), (0, x3)]) (st := []) (host := "") rfl (X13_chatted_s G l s k1 k0 x3) cal_X13_chatted rfl (Or.inl ml_X13_437) rfl rfl dec_X13_isRest.2.1.1.1.1 (k_tag (tag := 0) rfl fun r1 s2 => ?_)
  refine V_iload_n dec_X13_isRest.2.1.1.1.2 0 rfl ?_
  refine V_iload_n dec_X13_isRest.2.1.1.2.1 1 rfl ?_
  refine V_iload_n dec_X13_isRest.2.1.1.2.2.1 2 rfl ?_
  refine V_callS0 (As := [(0, x0), (0, x2), (0, x3)]) (st := [(0, r1)]) (host := "") rfl (X13_chatted_s G l s2 x0 x2 x3) cal_X13_chatted rfl (Or.inl ml_X13_437) rfl rfl dec_X13_isRest.2.1.1.2.2.2 (k_tag (tag := 0) rfl fun r3 s4 => ?_)
  refine V_icmp_gt (tgt := 74) dec_X13_isRest.2.1.2.1.1 (by decide) ?_ ?_
  · exact V_pick [] rfl (X13_isRest_b74_s G l s4)
  · refine V_iload_n dec_X13_isRest.2.1.2.1.2.1 0 rfl ?_
    refine V_iload_n dec_X13_isRest.2.1.2.1.2.2 2 rfl ?_
    refine V_if_ne (tgt := 56) dec_X13_isRest.2.1.2.2.1 (by decide) ?_ ?_
    · refine V_iconst dec_X13_isRest.2.2.1.1.1 rfl ?_
      exact V_pick [0, 1, 2] rfl (X13_isRest_b57_s G l s4 x0 x2 x3 0 x0)
    · refine V_iconst dec_X13_isRest.2.1.2.2.2.1 rfl ?_
      refine V_goto (tgt := 57) dec_X13_isRest.2.1.2.2.2.2 (by decide) ?_
      exact V_pick [0, 1, 2] rfl (X13_isRest_b57_s G l s4 x0 x2 x3 1 x0)
def X13_isRest_b23 (s : St) (x0 x2 k0 : Int) : Rs :=
  if ¬ x2 = 0 then (X13_isRest_b34 s x0 x2 k0 0 x0) else (X13_isRest_b34 s x0 x2 k0 1 x0)
set_option maxRecDepth 100000 in
set_option maxHeartbeats 4000000 in
theorem X13_isRest_b23_s (G : Gx) (l : Launch) (s : St) (x0 x2 k0 : Int) : V G l mX13_isRest 23 [(0, (0, x0)), (2, (0, x2))] [(0, k0)] s (X13_isRest_b23 s x0 x2 k0) := by
  unfold X13_isRest_b23
  refine V_istore_n (lv' := [(3, (0, k0)), (0, (0, x0)), (2, (0, x2))]) dec_X13_isRest.1.2.1.2.2.1 (by decide) rfl ?_
  refine V_iload_n dec_X13_isRest.1.2.1.2.2.2 1 rfl ?_
  refine V_iload_n dec_X13_isRest.1.2.2.1.1 2 rfl ?_
  refine V_if_ne (tgt := 33) dec_X13_isRest.1.2.2.1.2.1 (by decide) ?_ ?_
  · refine V_iconst dec_X13_isRest.1.2.2.2.2.1 rfl ?_
    exact V_pick [1, 2, 0] rfl (X13_isRest_b34_s G l s x0 x2 k0 0 x0)
  · refine V_iconst dec_X13_isRest.1.2.2.1.2.2 rfl ?_
    refine V_goto (tgt := 34) dec_X13_isRest.1.2.2.2.1 (by decide) ?_
    exact V_pick [1, 2, 0] rfl (X13_isRest_b34_s G l s x0 x2 k0 1 x0)
def X13_isRest_b10 (s : St) (x0 x1 k0 : Int) : Rs :=
  grd ((2 : Int) ≠ 0) (if ¬ (Int.tmod x1 2) = (1 : Int) then (X13_isRest_b23 s x0 k0 0) else (X13_isRest_b23 s x0 k0 1))
set_option maxRecDepth 100000 in
set_option maxHeartbeats 4000000 in
theorem X13_isRest_b10_s (G : Gx) (l : Launch) (s : St) (x0 x1 k0 : Int) : V G l mX13_isRest 10 [(0, (0, x0)), (1, (0, x1))] [(0, k0)] s (X13_isRest_b10 s x0 x1 k0) := by
  unfold X13_isRest_b10
  refine V_istore_n (lv' := [(2, (0, k0)), (0, (0, x0)), (1, (0, x1))]) dec_X13_isRest.1.1.2.1.2.1 (by decide) rfl ?_
  refine V_iload_n dec_X13_isRest.1.1.2.1.2.2 2 rfl ?_
  refine V_iconst dec_X13_isRest.1.1.2.2.1 rfl ?_
  refine V_irem dec_X13_isRest.1.1.2.2.2.1 ?_
  refine V_iconst dec_X13_isRest.1.1.2.2.2.2 rfl ?_
  refine V_icmp_ne (tgt := 22) dec_X13_isRest.1.2.1.1.1 (by decide) ?_ ?_
  · refine V_iconst dec_X13_isRest.1.2.1.2.1 rfl ?_
    exact V_pick [1, 0] rfl (X13_isRest_b23_s G l s x0 k0 0)
  · refine V_iconst dec_X13_isRest.1.2.1.1.2.1 rfl ?_
    refine V_goto (tgt := 23) dec_X13_isRest.1.2.1.1.2.2 (by decide) ?_
    exact V_pick [1, 0] rfl (X13_isRest_b23_s G l s x0 k0 1)
def X13_isRest (s : St) (a0 a1 : Int) : Rs :=
  if a1 ≤ (1 : Int) then (X13_isRest_b10 s a0 a1 0) else (X13_isRest_b10 s a0 a1 1)
set_option maxRecDepth 100000 in
set_option maxHeartbeats 4000000 in
theorem X13_isRest_s (G : Gx) (l : Launch) (s : St) (a0 a1 : Int) : Snd G l mX13_isRest [(0, a0), (0, a1)] s (X13_isRest s a0 a1) := by
  refine Snd.of (by decide +kernel) rfl ?_
  show V G l mX13_isRest 0 [(0, (0, a0)), (1, (0, a1))] [] s _
  unfold X13_isRest
  refine V_iload_n dec_X13_isRest.1.1.1.1.1 1 rfl ?_
  refine V_iconst dec_X13_isRest.1.1.1.1.2 rfl ?_
  refine V_icmp_le (tgt := 9) dec_X13_isRest.1.1.1.2.1 (by decide) ?_ ?_
  · refine V_iconst dec_X13_isRest.1.1.2.1.1 rfl ?_
    exact V_pick [0, 1] rfl (X13_isRest_b10_s G l s a0 a1 0)
  · refine V_iconst dec_X13_isRest.1.1.1.2.2.1 rfl ?_
    refine V_goto (tgt := 10) dec_X13_isRest.1.1.1.2.2.2 (by decide) ?_
    exact V_pick [0, 1] rfl (X13_isRest_b10_s G l s a0 a1 1)
theorem dec_X13_judge : ((((decode cX13_judge 0 = .ok (.aload_n 0, 1) ∧ decode cX13_judge 1 = .ok (.iconst 0, 1)) ∧ (decode cX13_judge 2 = .ok (.putfield 49, 3) ∧ decode cX13_judge 5 = .ok (.aload_n 0, 1))) ∧ ((decode cX13_judge 6 = .ok (.getfield 303, 3) ∧ decode cX13_judge 9 = .ok (.ifnonnull 11, 3)) ∧ (decode cX13_judge 12 = .ok (.aload_n 0, 1) ∧ decode cX13_judge 13 = .ok (.iconst 1, 1)))) ∧ (((decode cX13_judge 14 = .ok (.invokevirtual 55, 3) ∧ decode cX13_judge 17 = .ok (.goto 12, 3)) ∧ (decode cX13_judge 20 = .ok (.aload_n 0, 1) ∧ decode cX13_judge 21 = .ok (.aload_n 0, 1))) ∧ ((decode cX13_judge 22 = .ok (.iconst 0, 1) ∧ decode cX13_judge 23 = .ok (.invokevirtual 419, 3)) ∧ (decode cX13_judge 26 = .ok (.invokevirtual 59, 3) ∧ decode cX13_judge 29 = .ok (.ireturn, 1))))) := ⟨by decide +kernel, by decide +kernel⟩
def X13_judge_b29 (s : St) (k0 : Int) : Rs :=
  some (k0, s)
set_option maxRecDepth 100000 in
set_option maxHeartbeats 4000000 in
theorem X13_judge_b29_s (G : Gx) (l : Launch) (s : St) (k0 : Int) : V G l mX13_judge 29 [] [(0, k0)] s (X13_judge_b29 s k0) := by
  unfold X13_judge_b29
  exact V_iret rfl dec_X13_judge.2.2.2.2
def X13_judge (s : St) (a0 : Int) : Rs :=
  grd (isK s 23 a0) (lets (pI s a0 0 0) (fun s1 => grd (isK s1 23 a0) (if (gR s1 a0 3) < 0 then (grd (isK s1 23 a0) (bnd (X13_refused s1 a0 1) (fun r6 s7 => X13_judge_b29 s7 r6))) else (grd (isK s1 23 a0) (bnd (X13_wrongHeard s1 a0 0) (fun r2 s3 => grd (isK s3 23 a0) (bnd (X13_good s3 a0 r2) (fun r4 s5 => X13_judge_b29 s5 r4))))))))
set_option maxRecDepth 100000 in
set_option maxHeartbeats 4000000 in
theorem X13_judge_s (G : Gx) (l : Launch) (s : St) (a0 : Int) : Snd G l mX13_judge [(2, a0)] s (X13_judge s a0) := by
  refine Snd.of (by decide +kernel) rfl ?_
  show V G l mX13_judge 0 [(0, (2, a0))] [] s _
  unfold X13_judge
  refine V_aload_n dec_X13_judge.1.1.1.1 0 rfl ?_
  refine V_iconst dec_X13_judge.1.1.1.2 rfl ?_
  refine V_putI (host := "") 13 0 nf_13_0 ty_13_0 (Or.inl ⟨fl_X13_49, Or.inl rfl⟩) dec_X13_judge.1.1.2.1 ?_
  refine V_lets fun s1 => ?_
  refine V_aload_n dec_X13_judge.1.1.2.2 0 rfl ?_
  refine V_getR 13 3 nf_13_3 ft_13_3 fl_X13_303 dec_X13_judge.1.2.1.1 ?_
  refine V_ifnonnull (tgt := 20) dec_X13_judge.1.2.1.2 (by decide) ?_ ?_
  · refine V_aload_n dec_X13_judge.1.2.2.1 0 rfl ?_
    refine V_iconst dec_X13_judge.1.2.2.2 rfl ?_
    refine V_callV0 (ci := 13) (a := a0) (As := [(0, 1)]) (st := []) rfl rfl (X13_refused_s G l s1 a0 1) cal_X13_refused rfl ml_X13_55 rfl rfl dec_X13_judge.2.1.1.1 (k_tag (tag := 0) rfl fun r6 s7 => ?_)
    refine V_goto (tgt := 29) dec_X13_judge.2.1.1.2 (by decide) ?_
    exact V_pick [] rfl (X13_judge_b29_s G l s7 r6)
  · refine V_aload_n dec_X13_judge.2.1.2.1 0 rfl ?_
    refine V_aload_n dec_X13_judge.2.1.2.2 0 rfl ?_
    refine V_iconst dec_X13_judge.2.2.1.1 rfl ?_
    refine V_callV0 (ci := 13) (a := a0) (As := [(0, 0)]) (st := [(2, a0)]) rfl rfl (X13_wrongHeard_s G l s1 a0 0) cal_X13_wrongHeard rfl ml_X13_419 rfl rfl dec_X13_judge.2.2.1.2 (k_tag (tag := 0) rfl fun r2 s3 => ?_)
    refine V_callV0 (ci := 13) (a := a0) (As := [(0, r2)]) (st := []) rfl rfl (X13_good_s G l s3 a0 r2) cal_X13_good rfl ml_X13_59 rfl rfl dec_X13_judge.2.2.2.1 (k_tag (tag := 0) rfl fun r4 s5 => ?_)
    exact V_pick [] rfl (X13_judge_b29_s G l s5 r4)
theorem dec_X13_knownOne : (((((decode cX13_knownOne 0 = .ok (.aload_n 0, 1) ∧ decode cX13_knownOne 1 = .ok (.invokevirtual 164, 3)) ∧ (decode cX13_knownOne 4 = .ok (.ifCond .ne 8, 3) ∧ decode cX13_knownOne 7 = .ok (.aload_n 0, 1))) ∧ ((decode cX13_knownOne 8 = .ok (.iconst 1, 1) ∧ decode cX13_knownOne 9 = .ok (.invokevirtual 124, 3)) ∧ (decode cX13_knownOne 12 = .ok (.aload_n 0, 1) ∧ (decode cX13_knownOne 13 = .ok (.getfield 155, 3) ∧ decode cX13_knownOne 16 = .ok (.aload_n 0, 1))))) ∧ (((decode cX13_knownOne 17 = .ok (.getfield 97, 3) ∧ decode cX13_knownOne 20 = .ok (.invokevirtual 168, 3)) ∧ (decode cX13_knownOne 23 = .ok (.istore_n 2, 1) ∧ decode cX13_knownOne 24 = .ok (.iload_n 2, 1))) ∧ ((decode cX13_knownOne 25 = .ok (.iconst (-1), 1) ∧ decode cX13_knownOne 26 = .ok (.if_icmp .eq 16, 3)) ∧ (decode cX13_knownOne 29 = .ok (.aload_n 0, 1) ∧ (decode cX13_knownOne 30 = .ok (.getfield 155, 3) ∧ decode cX13_knownOne 33 = .ok (.getfield 178, 3)))))) ∧ ((((decode cX13_knownOne 36 = .ok (.iload_n 2, 1) ∧ decode cX13_knownOne 37 = .ok (.iaload, 1)) ∧ (decode cX13_knownOne 38 = .ok (.iload_n 1, 1) ∧ decode cX13_knownOne 39 = .ok (.if_icmp .eq 8, 3))) ∧ ((decode cX13_knownOne 42 = .ok (.aload_n 0, 1) ∧ decode cX13_knownOne 43 = .ok (.iconst 2, 1)) ∧ (decode cX13_knownOne 44 = .ok (.invokevirtual 124, 3) ∧ (decode cX13_knownOne 47 = .ok (.aload_n 0, 1) ∧ decode cX13_knownOne 48 = .ok (.getfield 81, 3))))) ∧ (((decode cX13_knownOne 51 = .ok (.iconst 5, 1) ∧ decode cX13_knownOne 52 = .ok (.if_icmp .ne 7, 3)) ∧ (decode cX13_knownOne 55 = .ok (.iconst 0, 1) ∧ (decode cX13_knownOne 56 = .ok (.goto 12, 3) ∧ decode cX13_knownOne 59 = .ok (.aload_n 0, 1)))) ∧ ((decode cX13_knownOne 60 = .ok (.getfield 155, 3) ∧ decode cX13_knownOne 63 = .ok (.getfield 181, 3)) ∧ (decode cX13_knownOne 66 = .ok (.iload_n 2, 1) ∧ (decode cX13_knownOne 67 = .ok (.iaload, 1) ∧ decode cX13_knownOne 68 = .ok (.ireturn, 1))))))) := ⟨⟨by decide +kernel, by decide +kernel⟩, ⟨by decide +kernel, by decide +kernel⟩⟩
def X13_knownOne_b68 (s : St) (k0 : Int) : Rs :=
  some (k0, s)
set_option maxRecDepth 100000 in
set_option maxHeartbeats 4000000 in
theorem X13_knownOne_b68_s (G : Gx) (l : Launch) (s : St) (k0 : Int) : V G l mX13_knownOne 68 [] [(0, k0)] s (X13_knownOne_b68 s k0) := by
  unfold X13_knownOne_b68
  exact V_iret rfl dec_X13_knownOne.2.2.2.2.2.2
def X13_knownOne_b47 (s : St) (x0 x2 : Int) : Rs :=
  grd (isK s 23 x0) (if ¬ (gI s x0 9) = (5 : Int) then (grd (isK s 23 x0) (grd (isK s 22 (gR s x0 4)) (grd (isK s 1 (gR s (gR s x0 4) 20) ∧ 0 ≤ x2 ∧ x2 < ln s (gR s (gR s x0 4) 20)) (X13_knownOne_b68 s (gI s (gR s (gR s x0 4) 20) x2.toNat))))) else (X13_knownOne_b68 s 0))
set_option maxRecDepth 100000 in
set_option maxHeartbeats 4000000 in
theorem X13_knownOne_b47_s (G : Gx) (l : Launch) (s : St) (x0 x2 : Int) : V G l mX13_knownOne 47 [(0, (2, x0)), (2, (0, x2))] [] s (X13_knownOne_b47 s x0 x2) := by
  unfold X13_knownOne_b47
  refine V_aload_n dec_X13_knownOne.2.1.2.2.2.1 0 rfl ?_
  refine V_getI 13 9 nf_13_9 ft_13_9 fl_X13_81 dec_X13_knownOne.2.1.2.2.2.2 ?_
  refine V_iconst dec_X13_knownOne.2.2.1.1.1 rfl ?_
  refine V_icmp_ne (tgt := 59) dec_X13_knownOne.2.2.1.1.2 (by decide) ?_ ?_
  · refine V_aload_n dec_X13_knownOne.2.2.1.2.2.2 0 rfl ?_
    refine V_getR 13 4 nf_13_4 ft_13_4 fl_X13_155 dec_X13_knownOne.2.2.2.1.1 ?_
    refine V_getRN RX13 12 20 nf_12_20 ft_12_20 fl_X13_181 dec_X13_knownOne.2.2.2.1.2 ?_
    refine V_iload_n dec_X13_knownOne.2.2.2.2.1 1 rfl ?_
    refine V_iald dec_X13_knownOne.2.2.2.2.2.1 ?_
    exact V_pick [] rfl (X13_knownOne_b68_s G l s (gI s (gR s (gR s x0 4) 20) x2.toNat))
  · refine V_iconst dec_X13_knownOne.2.2.1.2.1 rfl ?_
    refine V_goto (tgt := 68) dec_X13_knownOne.2.2.1.2.2.1 (by decide) ?_
    exact V_pick [] rfl (X13_knownOne_b68_s G l s 0)
def X13_knownOne_b42 (s : St) (x0 x2 : Int) : Rs :=
  grd (isK s 23 x0) (bnd (X13_flaw s x0 2) (fun r5 s6 => X13_knownOne_b47 s6 x0 x2))
set_option maxRecDepth 100000 in
set_option maxHeartbeats 4000000 in
theorem X13_knownOne_b42_s (G : Gx) (l : Launch) (s : St) (x0 x2 : Int) : V G l mX13_knownOne 42 [(0, (2, x0)), (2, (0, x2))] [] s (X13_knownOne_b42 s x0 x2) := by
  unfold X13_knownOne_b42
  refine V_aload_n dec_X13_knownOne.2.1.2.1.1 0 rfl ?_
  refine V_iconst dec_X13_knownOne.2.1.2.1.2 rfl ?_
  refine V_callV0 (ci := 13) (a := x0) (As := [(0, 2)]) (st := []) rfl rfl (X13_flaw_s G l s x0 2) cal_X13_flaw rfl ml_X13_124 rfl rfl dec_X13_knownOne.2.1.2.2.1 (k_void rfl fun r5 s6 => ?_)
  exact V_pick [0, 1] rfl (X13_knownOne_b47_s G l s6 x0 x2)
def X13_knownOne_b12 (s : St) (x0 x1 : Int) : Rs :=
  grd (isK s 23 x0) (grd (isK s 23 x0) (grd (isK s 22 (gR s x0 4)) (bnd (X12_find s (gR s x0 4) (gI s x0 14)) (fun r3 s4 => if r3 = ((-1) : Int) then (X13_knownOne_b42 s4 x0 r3) else (grd (isK s4 23 x0) (grd (isK s4 22 (gR s4 x0 4)) (grd (isK s4 1 (gR s4 (gR s4 x0 4) 19) ∧ 0 ≤ r3 ∧ r3 < ln s4 (gR s4 (gR s4 x0 4) 19)) (if (gI s4 (gR s4 (gR s4 x0 4) 19) r3.toNat) = x1 then (X13_knownOne_b47 s4 x0 r3) else (X13_knownOne_b42 s4 x0 r3)))))))))
set_option maxRecDepth 100000 in
set_option maxHeartbeats 4000000 in
theorem X13_knownOne_b12_s (G : Gx) (l : Launch) (s : St) (x0 x1 : Int) : V G l mX13_knownOne 12 [(0, (2, x0)), (1, (0, x1))] [] s (X13_knownOne_b12 s x0 x1) := by
  unfold X13_knownOne_b12
  refine V_aload_n dec_X13_knownOne.1.1.2.2.1 0 rfl ?_
  refine V_getR 13 4 nf_13_4 ft_13_4 fl_X13_155 dec_X13_knownOne.1.1.2.2.2.1 ?_
  refine V_aload_n dec_X13_knownOne.1.1.2.2.2.2 0 rfl ?_
  refine V_getL 13 14 nf_13_14 ft_13_14 fl_X13_97 dec_X13_knownOne.1.2.1.1.1 ?_
  refine V_callV0 (ci := 12) (a := (gR s x0 4)) (As := [(1, (gI s x0 14))]) (st := []) rfl rfl (X12_find_s G l s (gR s x0 4) (gI s x0 14)) cal_X12_find rfl ml_X13_168 rfl rfl dec_X13_knownOne.1.2.1.1.2 (k_tag (tag := 0) rfl fun r3 s4 => ?_)
  refine V_istore_n (lv' := [(2, (0, r3)), (0, (2, x0)), (1, (0, x1))]) dec_X13_knownOne.1.2.1.2.1 (by decide) rfl ?_
  refine V_iload_n dec_X13_knownOne.1.2.1.2.2 0 rfl ?_
  refine V_iconst dec_X13_knownOne.1.2.2.1.1 rfl ?_
  refine V_icmp_eq (tgt := 42) dec_X13_knownOne.1.2.2.1.2 (by decide) ?_ ?_
  · exact V_pick [1, 0] rfl (X13_knownOne_b42_s G l s4 x0 r3)
  · refine V_aload_n dec_X13_knownOne.1.2.2.2.1 1 rfl ?_
    refine V_getR 13 4 nf_13_4 ft_13_4 fl_X13_155 dec_X13_knownOne.1.2.2.2.2.1 ?_
    refine V_getRN RX13 12 19 nf_12_19 ft_12_19 fl_X13_178 dec_X13_knownOne.1.2.2.2.2.2 ?_
    refine V_iload_n dec_X13_knownOne.2.1.1.1.1 0 rfl ?_
    refine V_iald dec_X13_knownOne.2.1.1.1.2 ?_
    refine V_iload_n dec_X13_knownOne.2.1.1.2.1 2 rfl ?_
    refine V_icmp_eq (tgt := 47) dec_X13_knownOne.2.1.1.2.2 (by decide) ?_ ?_
    · exact V_pick [1, 0] rfl (X13_knownOne_b47_s G l s4 x0 r3)
    · exact V_pick [1, 0] rfl (X13_knownOne_b42_s G l s4 x0 r3)
def X13_knownOne (s : St) (a0 a1 : Int) : Rs :=
  grd (isK s 23 a0) (bnd (X13_isName s a0) (fun r1 s2 => if ¬ r1 = 0 then (X13_knownOne_b12 s2 a0 a1) else (grd (isK s2 23 a0) (bnd (X13_flaw s2 a0 1) (fun r7 s8 => X13_knownOne_b12 s8 a0 a1)))))
set_option maxRecDepth 100000 in
set_option maxHeartbeats 4000000 in
theorem X13_knownOne_s (G : Gx) (l : Launch) (s : St) (a0 a1 : Int) : Snd G l mX13_knownOne [(2, a0), (0, a1)] s (X13_knownOne s a0 a1) := by
  refine Snd.of (by decide +kernel) rfl ?_
  show V G l mX13_knownOne 0 [(0, (2, a0)), (1, (0, a1))] [] s _
  unfold X13_knownOne
  refine V_aload_n dec_X13_knownOne.1.1.1.1.1 0 rfl ?_
  refine V_callV0 (ci := 13) (a := a0) (As := []) (st := []) rfl rfl (X13_isName_s G l s a0) cal_X13_isName rfl ml_X13_164 rfl rfl dec_X13_knownOne.1.1.1.1.2 (k_tag (tag := 0) rfl fun r1 s2 => ?_)
  refine V_if_ne (tgt := 12) dec_X13_knownOne.1.1.1.2.1 (by decide) ?_ ?_
  · exact V_pick [0, 1] rfl (X13_knownOne_b12_s G l s2 a0 a1)
  · refine V_aload_n dec_X13_knownOne.1.1.1.2.2 0 rfl ?_
    refine V_iconst dec_X13_knownOne.1.1.2.1.1 rfl ?_
    refine V_callV0 (ci := 13) (a := a0) (As := [(0, 1)]) (st := []) rfl rfl (X13_flaw_s G l s2 a0 1) cal_X13_flaw rfl ml_X13_124 rfl rfl dec_X13_knownOne.1.1.2.1.2 (k_void rfl fun r7 s8 => ?_)
    exact V_pick [0, 1] rfl (X13_knownOne_b12_s G l s8 a0 a1)
theorem dec_X13_led : (((((decode cX13_led 0 = .ok (.aload_n 0, 1) ∧ decode cX13_led 1 = .ok (.iconst 0, 1)) ∧ (decode cX13_led 2 = .ok (.putfield 49, 3) ∧ (decode cX13_led 5 = .ok (.iconst 0, 1) ∧ decode cX13_led 6 = .ok (.istore_n 2, 1)))) ∧ ((decode cX13_led 7 = .ok (.aload_n 0, 1) ∧ decode cX13_led 8 = .ok (.getfield 303, 3)) ∧ (decode cX13_led 11 = .ok (.ifnull 7, 3) ∧ (decode cX13_led 14 = .ok (.aload_n 0, 1) ∧ decode cX13_led 15 = .ok (.invokevirtual 342, 3))))) ∧ (((decode cX13_led 18 = .ok (.iconst 0, 1) ∧ decode cX13_led 19 = .ok (.istore_n 3, 1)) ∧ (decode cX13_led 20 = .ok (.aload_n 0, 1) ∧ (decode cX13_led 21 = .ok (.getfield 303, 3) ∧ decode cX13_led 24 = .ok (.ifnull 48, 3)))) ∧ ((decode cX13_led 27 = .ok (.iload_n 3, 1) ∧ (decode cX13_led 28 = .ok (.aload_n 0, 1) ∧ decode cX13_led 29 = .ok (.getfield 303, 3))) ∧ (decode cX13_led 32 = .ok (.getfield 241, 3) ∧ (decode cX13_led 35 = .ok (.if_icmp .ge 37, 3) ∧ decode cX13_led 38 = .ok (.aload_n 0, 1)))))) ∧ ((((decode cX13_led 39 = .ok (.iload_n 3, 1) ∧ decode cX13_led 40 = .ok (.aload_n 0, 1)) ∧ (decode cX13_led 41 = .ok (.getfield 17, 3) ∧ (decode cX13_led 44 = .ok (.bipush 18, 2) ∧ decode cX13_led 46 = .ok (.iaload, 1)))) ∧ ((decode cX13_led 47 = .ok (.invokevirtual 336, 3) ∧ decode cX13_led 50 = .ok (.ifCond .eq 6, 3)) ∧ (decode cX13_led 53 = .ok (.goto 13, 3) ∧ (decode cX13_led 56 = .ok (.iload_n 2, 1) ∧ decode cX13_led 57 = .ok (.iload_n 1, 1))))) ∧ (((decode cX13_led 58 = .ok (.if_icmp .ne 5, 3) ∧ decode cX13_led 61 = .ok (.iload_n 3, 1)) ∧ (decode cX13_led 62 = .ok (.ireturn, 1) ∧ (decode cX13_led 63 = .ok (.iinc 2 1, 3) ∧ decode cX13_led 66 = .ok (.iinc 3 1, 3)))) ∧ ((decode cX13_led 69 = .ok (.goto (-49), 3) ∧ (decode cX13_led 72 = .ok (.aload_n 0, 1) ∧ decode cX13_led 73 = .ok (.iconst 1, 1))) ∧ (decode cX13_led 74 = .ok (.putfield 49, 3) ∧ (decode cX13_led 77 = .ok (.iconst 0, 1) ∧ decode cX13_led 78 = .ok (.ireturn, 1))))))) := ⟨⟨by decide +kernel, by decide +kernel⟩, ⟨by decide +kernel, by decide +kernel⟩⟩
def X13_led_b72 (s : St) (x0 : Int) : Rs :=
  grd (isK s 23 x0) (lets (pI s x0 0 1) (fun s2 => some (0, s2)))
set_option maxRecDepth 100000 in
set_option maxHeartbeats 4000000 in
theorem X13_led_b72_s (G : Gx) (l : Launch) (s : St) (x0 : Int) : V G l mX13_led 72 [(0, (2, x0))] [] s (X13_led_b72 s x0) := by
  unfold X13_led_b72
  refine V_aload_n dec_X13_led.2.2.2.1.2.1 0 rfl ?_
  refine V_iconst dec_X13_led.2.2.2.1.2.2 rfl ?_
  refine V_putI (host := "") 13 0 nf_13_0 ty_13_0 (Or.inl ⟨fl_X13_49, Or.inl rfl⟩) dec_X13_led.2.2.2.2.1 ?_
  refine V_lets fun s2 => ?_
  refine V_iconst dec_X13_led.2.2.2.2.2.1 rfl ?_
  exact V_iret rfl dec_X13_led.2.2.2.2.2.2
def X13_led_b66 (rk20 : St → Int → Int → Int → Int → Rs) (s : St) (x0 x1 x2 x3 : Int) : Rs :=
  rk20 s x0 x1 x2 (w32 (x3 + 1))
set_option maxRecDepth 100000 in
set_option maxHeartbeats 4000000 in
theorem X13_led_b66_s (G : Gx) (l : Launch) (rk20 : St → Int → Int → Int → Int → Rs) (hk20 : ∀ (s : St) (x0 x1 x2 x3 : Int), V G l mX13_led 20 [(0, (2, x0)), (1, (0, x1)), (2, (0, x2)), (3, (0, x3))] [] s (rk20 s x0 x1 x2 x3)) (s : St) (x0 x1 x2 x3 : Int) : V G l mX13_led 66 [(0, (2, x0)), (1, (0, x1)), (2, (0, x2)), (3, (0, x3))] [] s (X13_led_b66 rk20 s x0 x1 x2 x3) := by
  unfold X13_led_b66
  refine V_iinc (lv' := [(3, (0, (w32 (x3 + 1)))), (0, (2, x0)), (1, (0, x1)), (2, (0, x2))]) dec_X13_led.2.2.1.2.2.2 3 rfl (by decide) rfl ?_
  refine V_goto (tgt := 20) dec_X13_led.2.2.2.1.1 (by decide) ?_
  exact V_pick [1, 2, 3, 0] rfl (hk20 s x0 x1 x2 (w32 (x3 + 1)))
def X13_led_b20_body (rk20 : St → Int → Int → Int → Int → Rs) (s : St) (x0 x1 x2 x3 : Int) : Rs :=
  grd (isK s 23 x0) (if (gR s x0 3) < 0 then (X13_led_b72 s x0) else (grd (isK s 23 x0) (grd (isK s 22 (gR s x0 3)) (if (gI s (gR s x0 3) 3) ≤ x3 then (X13_led_b72 s x0) else (grd (isK s 23 x0) (grd (isK s 1 (gR s x0 15) ∧ 0 ≤ (18 : Int) ∧ (18 : Int) < ln s (gR s x0 15)) (grd (isK s 23 x0) (bnd (X13_isRight s x0 x3 (gI s (gR s x0 15) (18 : Int).toNat)) (fun r3 s4 => if r3 = 0 then (if ¬ x2 = x1 then (X13_led_b66 rk20 s4 x0 x1 (w32 (x2 + 1)) x3) else (some (x3, s4))) else (X13_led_b66 rk20 s4 x0 x1 x2 x3))))))))))
def X13_led_b20 (n : Nat) (s : St) (x0 x1 x2 x3 : Int) : Rs := iter (fun (rec : St × Int × Int × Int × Int → Rs) (a : St × Int × Int × Int × Int) => X13_led_b20_body (fun (s : St) (x0 x1 x2 x3 : Int) => rec (s, x0, x1, x2, x3)) a.1 a.2.1 a.2.2.1 a.2.2.2.1 a.2.2.2.2) n (s, x0, x1, x2, x3)
theorem X13_led_b20_0 (s : St) (x0 x1 x2 x3 : Int) : X13_led_b20 0 s x0 x1 x2 x3 = none := rfl
theorem X13_led_b20_1 (n : Nat) (s : St) (x0 x1 x2 x3 : Int) : X13_led_b20 (n + 1) s x0 x1 x2 x3 = X13_led_b20_body (X13_led_b20 n) s x0 x1 x2 x3 := rfl
set_option maxRecDepth 100000 in
set_option maxHeartbeats 4000000 in
theorem X13_led_b20_body_s (G : Gx) (l : Launch) (rk20 : St → Int → Int → Int → Int → Rs) (hk20 : ∀ (s : St) (x0 x1 x2 x3 : Int), V G l mX13_led 20 [(0, (2, x0)), (1, (0, x1)), (2, (0, x2)), (3, (0, x3))] [] s (rk20 s x0 x1 x2 x3)) (s : St) (x0 x1 x2 x3 : Int) : V G l mX13_led 20 [(0, (2, x0)), (1, (0, x1)), (2, (0, x2)), (3, (0, x3))] [] s (X13_led_b20_body rk20 s x0 x1 x2 x3) := by
  unfold X13_led_b20_body
  refine V_aload_n dec_X13_led.1.2.1.2.1 0 rfl ?_
  refine V_getR 13 3 nf_13_3 ft_13_3 fl_X13_303 dec_X13_led.1.2.1.2.2.1 ?_
  refine V_ifnull (tgt := 72) dec_X13_led.1.2.1.2.2.2 (by decide) ?_ ?_
  · exact V_pick [0] rfl (X13_led_b72_s G l s x0)
  · refine V_iload_n dec_X13_led.1.2.2.1.1 3 rfl ?_
    refine V_aload_n dec_X13_led.1.2.2.1.2.1 0 rfl ?_
    refine V_getR 13 3 nf_13_3 ft_13_3 fl_X13_303 dec_X13_led.1.2.2.1.2.2 ?_
    refine V_getIN RX13 12 3 nf_12_3 ft_12_3 fl_X13_241 dec_X13_led.1.2.2.2.1 ?_
    refine V_icmp_ge (tgt := 72) dec_X13_led.1.2.2.2.2.1 (by decide) ?_ ?_
    · exact V_pick [0] rfl (X13_led_b72_s G l s x0)
    · refine V_aload_n dec_X13_led.1.2.2.2.2.2 0 rfl ?_
      refine V_iload_n dec_X13_led.2.1.1.1.1 3 rfl ?_
      refine V_aload_n dec_X13_led.2.1.1.1.2 0 rfl ?_
      refine V_getR 13 15 nf_13_15 ft_13_15 fl_X13_17 dec_X13_led.2.1.1.2.1 ?_
      refine V_bipush dec_X13_led.2.1.1.2.2.1 rfl ?_
      refine V_iald dec_X13_led.2.1.1.2.2.2 ?_
      refine V_callV0 (ci := 13) (a := x0) (As := [(0, x3), (0, (gI s (gR s x0 15) (18 : Int).toNat))]) (st := []) rfl rfl (X13_isRight_s G l s x0 x3 (gI s (gR s x0 15) (18 : Int).toNat)) cal_X13_isRight rfl ml_X13_336 rfl rfl dec_X13_led.2.1.2.1.1 (k_tag (tag := 0) rfl fun r3 s4 => ?_)
      refine V_if_eq (tgt := 56) dec_X13_led.2.1.2.1.2 (by decide) ?_ ?_
      · refine V_iload_n dec_X13_led.2.1.2.2.2.1 2 rfl ?_
        refine V_iload_n dec_X13_led.2.1.2.2.2.2 1 rfl ?_
        refine V_icmp_ne (tgt := 63) dec_X13_led.2.2.1.1.1 (by decide) ?_ ?_
        · refine V_iinc (lv' := [(2, (0, (w32 (x2 + 1)))), (0, (2, x0)), (1, (0, x1)), (3, (0, x3))]) dec_X13_led.2.2.1.2.2.1 2 rfl (by decide) rfl ?_
          exact V_pick [1, 2, 0, 3] rfl (X13_led_b66_s G l rk20 hk20 s4 x0 x1 (w32 (x2 + 1)) x3)
        · refine V_iload_n dec_X13_led.2.2.1.1.2 3 rfl ?_
          exact V_iret rfl dec_X13_led.2.2.1.2.1
      · refine V_goto (tgt := 66) dec_X13_led.2.1.2.2.1 (by decide) ?_
        exact V_pick [0, 1, 2, 3] rfl (X13_led_b66_s G l rk20 hk20 s4 x0 x1 x2 x3)
theorem X13_led_b20_s (G : Gx) (l : Launch) (n : Nat) (s : St) (x0 x1 x2 x3 : Int) : V G l mX13_led 20 [(0, (2, x0)), (1, (0, x1)), (2, (0, x2)), (3, (0, x3))] [] s (X13_led_b20 n s x0 x1 x2 x3) :=
  V_iter (LV := fun a : St × Int × Int × Int × Int => [(0, (2, a.2.1)), (1, (0, a.2.2.1)), (2, (0, a.2.2.2.1)), (3, (0, a.2.2.2.2))]) (ST := fun a : St × Int × Int × Int × Int => []) (SS := fun a : St × Int × Int × Int × Int => a.1) (fun rec hrec a => X13_led_b20_body_s G l (fun (s : St) (x0 x1 x2 x3 : Int) => rec (s, x0, x1, x2, x3)) (fun (s : St) (x0 x1 x2 x3 : Int) => hrec (s, x0, x1, x2, x3)) a.1 a.2.1 a.2.2.1 a.2.2.2.1 a.2.2.2.2) n (s, x0, x1, x2, x3)
def X13_led_b18 (s : St) (x0 x1 x2 : Int) : Rs :=
  X13_led_b20 FU s x0 x1 x2 0
set_option maxRecDepth 100000 in
set_option maxHeartbeats 4000000 in
theorem X13_led_b18_s (G : Gx) (l : Launch) (s : St) (x0 x1 x2 : Int) : V G l mX13_led 18 [(0, (2, x0)), (1, (0, x1)), (2, (0, x2))] [] s (X13_led_b18 s x0 x1 x2) := by
  unfold X13_led_b18
  refine V_iconst dec_X13_led.1.2.1.1.1 rfl ?_
  refine V_istore_n (lv' := [(3, (0, 0)), (0, (2, x0)), (1, (0, x1)), (2, (0, x2))]) dec_X13_led.1.2.1.1.2 (by decide) rfl ?_
  exact V_pick [1, 2, 3, 0] rfl (X13_led_b20_s G l FU s x0 x1 x2 0)
def X13_led (s : St) (a0 a1 : Int) : Rs :=
  grd (isK s 23 a0) (lets (pI s a0 0 0) (fun s1 => grd (isK s1 23 a0) (if (gR s1 a0 3) < 0 then (X13_led_b18 s1 a0 a1 0) else (grd (isK s1 23 a0) (bnd (X13_works s1 a0) (fun r5 s6 => X13_led_b18 s6 a0 a1 0))))))
set_option maxRecDepth 100000 in
set_option maxHeartbeats 4000000 in
theorem X13_led_s (G : Gx) (l : Launch) (s : St) (a0 a1 : Int) : Snd G l mX13_led [(2, a0), (0, a1)] s (X13_led s a0 a1) := by
  refine Snd.of (by decide +kernel) rfl ?_
  show V G l mX13_led 0 [(0, (2, a0)), (1, (0, a1))] [] s _
  unfold X13_led
  refine V_aload_n dec_X13_led.1.1.1.1.1 0 rfl ?_
  refine V_iconst dec_X13_led.1.1.1.1.2 rfl ?_
  refine V_putI (host := "") 13 0 nf_13_0 ty_13_0 (Or.inl ⟨fl_X13_49, Or.inl rfl⟩) dec_X13_led.1.1.1.2.1 ?_
  refine V_lets fun s1 => ?_
  refine V_iconst dec_X13_led.1.1.1.2.2.1 rfl ?_
  refine V_istore_n (lv' := [(2, (0, 0)), (0, (2, a0)), (1, (0, a1))]) dec_X13_led.1.1.1.2.2.2 (by decide) rfl ?_
  refine V_aload_n dec_X13_led.1.1.2.1.1 1 rfl ?_
  refine V_getR 13 3 nf_13_3 ft_13_3 fl_X13_303 dec_X13_led.1.1.2.1.2 ?_
  refine V_ifnull (tgt := 18) dec_X13_led.1.1.2.2.1 (by decide) ?_ ?_
  · exact V_pick [1, 2, 0] rfl (X13_led_b18_s G l s1 a0 a1 0)
  · refine V_aload_n dec_X13_led.1.1.2.2.2.1 1 rfl ?_
    refine V_callV0 (ci := 13) (a := a0) (As := []) (st := []) rfl rfl (X13_works_s G l s1 a0) cal_X13_works rfl ml_X13_342 rfl rfl dec_X13_led.1.1.2.2.2.2 (k_void rfl fun r5 s6 => ?_)
    exact V_pick [1, 2, 0] rfl (X13_led_b18_s G l s6 a0 a1 0)
theorem dec_X13_likes : ((((decode cX13_likes 0 = .ok (.aload_n 0, 1) ∧ (decode cX13_likes 1 = .ok (.iconst 0, 1) ∧ decode cX13_likes 2 = .ok (.putfield 49, 3))) ∧ ((decode cX13_likes 5 = .ok (.aload_n 0, 1) ∧ decode cX13_likes 6 = .ok (.aload_n 0, 1)) ∧ (decode cX13_likes 7 = .ok (.iload_n 1, 1) ∧ decode cX13_likes 8 = .ok (.iload_n 2, 1)))) ∧ ((decode cX13_likes 9 = .ok (.invokevirtual 382, 3) ∧ (decode cX13_likes 12 = .ok (.iload_n 3, 1) ∧ decode cX13_likes 13 = .ok (.invokevirtual 354, 3))) ∧ ((decode cX13_likes 16 = .ok (.istore 4, 2) ∧ decode cX13_likes 18 = .ok (.iload 4, 2)) ∧ (decode cX13_likes 20 = .ok (.ifCond .le 10, 3) ∧ decode cX13_likes 23 = .ok (.aload_n 0, 1))))) ∧ (((decode cX13_likes 24 = .ok (.iload 4, 2) ∧ (decode cX13_likes 26 = .ok (.invokevirtual 55, 3) ∧ decode cX13_likes 29 = .ok (.ireturn, 1))) ∧ ((decode cX13_likes 30 = .ok (.aload_n 0, 1) ∧ decode cX13_likes 31 = .ok (.aload_n 0, 1)) ∧ (decode cX13_likes 32 = .ok (.iload_n 1, 1) ∧ decode cX13_likes 33 = .ok (.iload_n 2, 1)))) ∧ (((decode cX13_likes 34 = .ok (.iload_n 3, 1) ∧ decode cX13_likes 35 = .ok (.invokevirtual 385, 3)) ∧ (decode cX13_likes 38 = .ok (.ifCond .eq 7, 3) ∧ decode cX13_likes 41 = .ok (.iconst 1, 1))) ∧ ((decode cX13_likes 42 = .ok (.goto 4, 3) ∧ decode cX13_likes 45 = .ok (.iconst 0, 1)) ∧ (decode cX13_likes 46 = .ok (.invokevirtual 59, 3) ∧ decode cX13_likes 49 = .ok (.ireturn, 1)))))) := ⟨⟨by decide +kernel, by decide +kernel⟩, ⟨by decide +kernel, by decide +kernel⟩⟩
def X13_likes_b46 (s : St) (k0 k1 : Int) : Rs :=
  grd (isK s 23 k1) (bnd (X13_good s k1 k0) (fun r8 s9 => some (r8, s9)))
set_option maxRecDepth 100000 in
set_option maxHeartbeats 4000000 in
theorem X13_likes_b46_s (G : Gx) (l : Launch) (s : St) (k0 k1 : Int) : V G l mX13_likes 46 [] [(0, k0), (2, k1)] s (X13_likes_b46 s k0 k1) := by
  unfold X13_likes_b46
  refine V_callV0 (ci := 13) (a := k1) (As := [(0, k0)]) (st := []) rfl rfl (X13_good_s G l s k1 k0) cal_X13_good rfl ml_X13_59 rfl rfl dec_X13_likes.2.2.2.2.1 (k_tag (tag := 0) rfl fun r8 s9 => ?_)
  exact V_iret rfl dec_X13_likes.2.2.2.2.2
def X13_likes (s : St) (a0 a1 a2 a3 : Int) : Rs :=
  grd (isK s 23 a0) (lets (pI s a0 0 0) (fun s1 => grd (isK s1 23 a0) (bnd (X13_areTwo s1 a0 a1 a2) (fun r2 s3 => grd (isK s3 23 a0) (bnd (X13_refusesNight s3 a0 r2 a3) (fun r4 s5 => if r4 ≤ 0 then (grd (isK s5 23 a0) (bnd (X13_isLiked s5 a0 a1 a2 a3) (fun r6 s7 => if r6 = 0 then (X13_likes_b46 s7 0 a0) else (X13_likes_b46 s7 1 a0)))) else (grd (isK s5 23 a0) (bnd (X13_refused s5 a0 r4) (fun r10 s11 => some (r10, s11))))))))))
set_option maxRecDepth 100000 in
set_option maxHeartbeats 4000000 in
theorem X13_likes_s (G : Gx) (l : Launch) (s : St) (a0 a1 a2 a3 : Int) : Snd G l mX13_likes [(2, a0), (0, a1), (0, a2), (0, a3)] s (X13_likes s a0 a1 a2 a3) := by
  refine Snd.of (by decide +kernel) rfl ?_
  show V G l mX13_likes 0 [(0, (2, a0)), (1, (0, a1)), (2, (0, a2)), (3, (0, a3))] [] s _
  unfold X13_likes
  refine V_aload_n dec_X13_likes.1.1.1.1 0 rfl ?_
  refine V_iconst dec_X13_likes.1.1.1.2.1 rfl ?_
  refine V_putI (host := "") 13 0 nf_13_0 ty_13_0 (Or.inl ⟨fl_X13_49, Or.inl rfl⟩) dec_X13_likes.1.1.1.2.2 ?_
  refine V_lets fun s1 => ?_
  refine V_aload_n dec_X13_likes.1.1.2.1.1 0 rfl ?_
  refine V_aload_n dec_X13_likes.1.1.2.1.2 0 rfl ?_
  refine V_iload_n dec_X13_likes.1.1.2.2.1 1 rfl ?_
  refine V_iload_n dec_X13_likes.1.1.2.2.2 2 rfl ?_
  refine V_callV0 (ci := 13) (a := a0) (As := [(0, a1), (0, a2)]) (st := [(2, a0)]) rfl rfl (X13_areTwo_s G l s1 a0 a1 a2) cal_X13_areTwo rfl ml_X13_382 rfl rfl dec_X13_likes.1.2.1.1 (k_tag (tag := 0) rfl fun r2 s3 => ?_)
  refine V_iload_n dec_X13_likes.1.2.1.2.1 3 rfl ?_
  refine V_callV0 (ci := 13) (a := a0) (As := [(0, r2), (0, a3)]) (st := []) rfl rfl (X13_refusesNight_s G l s3 a0 r2 a3) cal_X13_refusesNight rfl ml_X13_354 rfl rfl dec_X13_likes.1.2.1.2.2 (k_tag (tag := 0) rfl fun r4 s5 => ?_)
  refine V_istore (lv' := [(4, (0, r4)), (0, (2, a0)), (1, (0, a1)), (2, (0, a2)), (3, (0, a3))]) dec_X13_likes.1.2.2.1.1 (by decide) rfl ?_
  refine V_iload dec_X13_likes.1.2.2.1.2 0 rfl ?_
  refine V_if_le (tgt := 30) dec_X13_likes.1.2.2.2.1 (by decide) ?_ ?_
  · refine V_aload_n dec_X13_likes.2.1.2.1.1 1 rfl ?_
    refine V_aload_n dec_X13_likes.2.1.2.1.2 1 rfl ?_
    refine V_iload_n dec_X13_likes.2.1.2.2.1 2 rfl ?_
    refine V_iload_n dec_X13_likes.2.1.2.2.2 3 rfl ?_
    refine V_iload_n dec_X13_likes.2.2.1.1.1 4 rfl ?_
    refine V_callV0 (ci := 13) (a := a0) (As := [(0, a1), (0, a2), (0, a3)]) (st := [(2, a0)]) rfl rfl (X13_isLiked_s G l s5 a0 a1 a2 a3) cal_X13_isLiked rfl ml_X13_385 rfl rfl dec_X13_likes.2.2.1.1.2 (k_tag (tag := 0) rfl fun r6 s7 => ?_)
    refine V_if_eq (tgt := 45) dec_X13_likes.2.2.1.2.1 (by decide) ?_ ?_
    · refine V_iconst dec_X13_likes.2.2.2.1.2 rfl ?_
      exact V_pick [] rfl (X13_likes_b46_s G l s7 0 a0)
    · refine V_iconst dec_X13_likes.2.2.1.2.2 rfl ?_
      refine V_goto (tgt := 46) dec_X13_likes.2.2.2.1.1 (by decide) ?_
      exact V_pick [] rfl (X13_likes_b46_s G l s7 1 a0)
  · refine V_aload_n dec_X13_likes.1.2.2.2.2 1 rfl ?_
    refine V_iload dec_X13_likes.2.1.1.1 0 rfl ?_
    refine V_callV0 (ci := 13) (a := a0) (As := [(0, r4)]) (st := []) rfl rfl (X13_refused_s G l s5 a0 r4) cal_X13_refused rfl ml_X13_55 rfl rfl dec_X13_likes.2.1.1.2.1 (k_tag (tag := 0) rfl fun r10 s11 => ?_)
    exact V_iret rfl dec_X13_likes.2.1.1.2.2
theorem dec_X13_lineBegins : ((((decode cX13_lineBegins 0 = .ok (.iload_n 1, 1) ∧ decode cX13_lineBegins 1 = .ok (.iload_n 2, 1)) ∧ (decode cX13_lineBegins 2 = .ok (.if_icmp .ne 8, 3) ∧ decode cX13_lineBegins 5 = .ok (.aload_n 0, 1))) ∧ ((decode cX13_lineBegins 6 = .ok (.iconst 5, 1) ∧ decode cX13_lineBegins 7 = .ok (.invokevirtual 124, 3)) ∧ (decode cX13_lineBegins 10 = .ok (.aload_n 0, 1) ∧ decode cX13_lineBegins 11 = .ok (.getfield 155, 3)))) ∧ (((decode cX13_lineBegins 14 = .ok (.getfield 159, 3) ∧ decode cX13_lineBegins 17 = .ok (.ifCond .ne 9, 3)) ∧ (decode cX13_lineBegins 20 = .ok (.aload_n 0, 1) ∧ decode cX13_lineBegins 21 = .ok (.bipush 6, 2))) ∧ ((decode cX13_lineBegins 23 = .ok (.invokevirtual 124, 3) ∧ decode cX13_lineBegins 26 = .ok (.aload_n 0, 1)) ∧ (decode cX13_lineBegins 27 = .ok (.invokevirtual 117, 3) ∧ decode cX13_lineBegins 30 = .ok (.return_, 1))))) := ⟨by decide +kernel, by decide +kernel⟩
def X13_lineBegins_b26 (s : St) (x0 : Int) : Rs :=
  grd (isK s 23 x0) (bnd (X13_goesOn s x0) (fun r1 s2 => some (0, s2)))
set_option maxRecDepth 100000 in
set_option maxHeartbeats 4000000 in
theorem X13_lineBegins_b26_s (G : Gx) (l : Launch) (s : St) (x0 : Int) : V G l mX13_lineBegins 26 [(0, (2, x0))] [] s (X13_lineBegins_b26 s x0) := by
  unfold X13_lineBegins_b26
  refine V_aload_n dec_X13_lineBegins.2.2.1.2 0 rfl ?_
  refine V_callV0 (ci := 13) (a := x0) (As := []) (st := []) rfl rfl (X13_goesOn_s G l s x0) cal_X13_goesOn rfl ml_X13_117 rfl rfl dec_X13_lineBegins.2.2.2.1 (k_void rfl fun r1 s2 => ?_)
  exact V_vret rfl dec_X13_lineBegins.2.2.2.2
def X13_lineBegins_b10 (s : St) (x0 : Int) : Rs :=
  grd (isK s 23 x0) (grd (isK s 22 (gR s x0 4)) (if ¬ (gI s (gR s x0 4) 0) = 0 then (X13_lineBegins_b26 s x0) else (grd (isK s 23 x0) (bnd (X13_flaw s x0 6) (fun r3 s4 => X13_lineBegins_b26 s4 x0)))))
set_option maxRecDepth 100000 in
set_option maxHeartbeats 4000000 in
theorem X13_lineBegins_b10_s (G : Gx) (l : Launch) (s : St) (x0 : Int) : V G l mX13_lineBegins 10 [(0, (2, x0))] [] s (X13_lineBegins_b10 s x0) := by
  unfold X13_lineBegins_b10
  refine V_aload_n dec_X13_lineBegins.1.2.2.1 0 rfl ?_
  refine V_getR 13 4 nf_13_4 ft_13_4 fl_X13_155 dec_X13_lineBegins.1.2.2.2 ?_
  refine V_getIN RX13 12 0 nf_12_0 ft_12_0 fl_X13_159 dec_X13_lineBegins.2.1.1.1 ?_
  refine V_if_ne (tgt := 26) dec_X13_lineBegins.2.1.1.2 (by decide) ?_ ?_
  · exact V_pick [0] rfl (X13_lineBegins_b26_s G l s x0)
  · refine V_aload_n dec_X13_lineBegins.2.1.2.1 0 rfl ?_
    refine V_bipush dec_X13_lineBegins.2.1.2.2 rfl ?_
    refine V_callV0 (ci := 13) (a := x0) (As := [(0, 6)]) (st := []) rfl rfl (X13_flaw_s G l s x0 6) cal_X13_flaw rfl ml_X13_124 rfl rfl dec_X13_lineBegins.2.2.1.1 (k_void rfl fun r3 s4 => ?_)
    exact V_pick [0] rfl (X13_lineBegins_b26_s G l s4 x0)
def X13_lineBegins (s : St) (a0 a1 a2 : Int) : Rs :=
  if ¬ a1 = a2 then (X13_lineBegins_b10 s a0) else (grd (isK s 23 a0) (bnd (X13_flaw s a0 5) (fun r5 s6 => X13_lineBegins_b10 s6 a0)))
set_option maxRecDepth 100000 in
set_option maxHeartbeats 4000000 in
theorem X13_lineBegins_s (G : Gx) (l : Launch) (s : St) (a0 a1 a2 : Int) : Snd G l mX13_lineBegins [(2, a0), (0, a1), (0, a2)] s (X13_lineBegins s a0 a1 a2) := by
  refine Snd.of (by decide +kernel) rfl ?_
  show V G l mX13_lineBegins 0 [(0, (2, a0)), (1, (0, a1)), (2, (0, a2))] [] s _
  unfold X13_lineBegins
  refine V_iload_n dec_X13_lineBegins.1.1.1.1 1 rfl ?_
  refine V_iload_n dec_X13_lineBegins.1.1.1.2 2 rfl ?_
  refine V_icmp_ne (tgt := 10) dec_X13_lineBegins.1.1.2.1 (by decide) ?_ ?_
  · exact V_pick [0] rfl (X13_lineBegins_b10_s G l s a0)
  · refine V_aload_n dec_X13_lineBegins.1.1.2.2 0 rfl ?_
    refine V_iconst dec_X13_lineBegins.1.2.1.1 rfl ?_
    refine V_callV0 (ci := 13) (a := a0) (As := [(0, 5)]) (st := []) rfl rfl (X13_flaw_s G l s a0 5) cal_X13_flaw rfl ml_X13_124 rfl rfl dec_X13_lineBegins.1.2.1.2 (k_void rfl fun r5 s6 => ?_)
    exact V_pick [0] rfl (X13_lineBegins_b10_s G l s6 a0)
theorem dec_X13_mean : (((((decode cX13_mean 0 = .ok (.aload_n 0, 1) ∧ decode cX13_mean 1 = .ok (.iconst 0, 1)) ∧ (decode cX13_mean 2 = .ok (.putfield 49, 3) ∧ (decode cX13_mean 5 = .ok (.aload_n 0, 1) ∧ decode cX13_mean 6 = .ok (.aload_n 0, 1)))) ∧ ((decode cX13_mean 7 = .ok (.iload_n 1, 1) ∧ (decode cX13_mean 8 = .ok (.invokevirtual 339, 3) ∧ decode cX13_mean 11 = .ok (.iload_n 2, 1))) ∧ (decode cX13_mean 12 = .ok (.invokevirtual 354, 3) ∧ (decode cX13_mean 15 = .ok (.istore 4, 2) ∧ decode cX13_mean 17 = .ok (.iload 4, 2))))) ∧ (((decode cX13_mean 19 = .ok (.ifCond .le 11, 3) ∧ decode cX13_mean 22 = .ok (.aload_n 0, 1)) ∧ (decode cX13_mean 23 = .ok (.iload 4, 2) ∧ (decode cX13_mean 25 = .ok (.invokevirtual 55, 3) ∧ decode cX13_mean 28 = .ok (.i2l, 1)))) ∧ ((decode cX13_mean 29 = .ok (.lreturn, 1) ∧ (decode cX13_mean 30 = .ok (.aload_n 0, 1) ∧ decode cX13_mean 31 = .ok (.invokevirtual 342, 3))) ∧ (decode cX13_mean 34 = .ok (.lconst 0, 1) ∧ (decode cX13_mean 35 = .ok (.lstore 5, 2) ∧ decode cX13_mean 37 = .ok (.iconst 0, 1)))))) ∧ ((((decode cX13_mean 38 = .ok (.istore 7, 2) ∧ decode cX13_mean 40 = .ok (.iload 7, 2)) ∧ (decode cX13_mean 42 = .ok (.aload_n 0, 1) ∧ (decode cX13_mean 43 = .ok (.getfield 303, 3) ∧ decode cX13_mean 46 = .ok (.getfield 241, 3)))) ∧ ((decode cX13_mean 49 = .ok (.if_icmp .ge 23, 3) ∧ (decode cX13_mean 52 = .ok (.lload 5, 2) ∧ decode cX13_mean 54 = .ok (.aload_n 0, 1))) ∧ (decode cX13_mean 55 = .ok (.iload_n 1, 1) ∧ (decode cX13_mean 56 = .ok (.iload 7, 2) ∧ decode cX13_mean 58 = .ok (.iload_n 2, 1))))) ∧ (((decode cX13_mean 59 = .ok (.invokevirtual 447, 3) ∧ (decode cX13_mean 62 = .ok (.i2l, 1) ∧ decode cX13_mean 63 = .ok (.ladd, 1))) ∧ (decode cX13_mean 64 = .ok (.lstore 5, 2) ∧ (decode cX13_mean 66 = .ok (.iinc 7 1, 3) ∧ decode cX13_mean 69 = .ok (.goto (-29), 3)))) ∧ ((decode cX13_mean 72 = .ok (.aload_n 0, 1) ∧ (decode cX13_mean 73 = .ok (.lload 5, 2) ∧ decode cX13_mean 75 = .ok (.ldc2_w 450, 3))) ∧ (decode cX13_mean 78 = .ok (.iload_n 3, 1) ∧ (decode cX13_mean 79 = .ok (.invokevirtual 452, 3) ∧ decode cX13_mean 82 = .ok (.lreturn, 1))))))) := ⟨⟨by decide +kernel, by decide +kernel⟩, ⟨by decide +kernel, by decide +kernel⟩⟩
def X13_mean_b40_body (rk40 : St → Int → Int → Int → Int → Int → Int → Rs) (s : St) (x0 x1 x2 x3 x5 x7 : Int) : Rs :=
  grd (isK s 23 x0) (grd (isK s 22 (gR s x0 3)) (if (gI s (gR s x0 3) 3) ≤ x7 then (grd (isK s 23 x0) (bnd (X13_fraction s x0 x5 100 x3) (fun r8 s9 => some (r8, s9)))) else (grd (isK s 23 x0) (bnd (X13_chance s x0 x1 x7 x2) (fun r10 s11 => rk40 s11 x0 x1 x2 x3 (w64 (x5 + r10)) (w32 (x7 + 1)))))))
def X13_mean_b40 (n : Nat) (s : St) (x0 x1 x2 x3 x5 x7 : Int) : Rs := iter (fun (rec : St × Int × Int × Int × Int × Int × Int → Rs) (a : St × Int × Int × Int × Int × Int × Int) => X13_mean_b40_body (fun (s : St) (x0 x1 x2 x3 x5 x7 : Int) => rec (s, x0, x1, x2, x3, x5, x7)) a.1 a.2.1 a.2.2.1 a.2.2.2.1 a.2.2.2.2.1 a.2.2.2.2.2.1 a.2.2.2.2.2.2) n (s, x0, x1, x2, x3, x5, x7)
theorem X13_mean_b40_0 (s : St) (x0 x1 x2 x3 x5 x7 : Int) : X13_mean_b40 0 s x0 x1 x2 x3 x5 x7 = none := rfl
theorem X13_mean_b40_1 (n : Nat) (s : St) (x0 x1 x2 x3 x5 x7 : Int) : X13_mean_b40 (n + 1) s x0 x1 x2 x3 x5 x7 = X13_mean_b40_body (X13_mean_b40 n) s x0 x1 x2 x3 x5 x7 := rfl
set_option maxRecDepth 100000 in
set_option maxHeartbeats 4000000 in
theorem X13_mean_b40_body_s (G : Gx) (l : Launch) (rk40 : St → Int → Int → Int → Int → Int → Int → Rs) (hk40 : ∀ (s : St) (x0 x1 x2 x3 x5 x7 : Int), V G l mX13_mean 40 [(0, (2, x0)), (1, (0, x1)), (2, (0, x2)), (3, (0, x3)), (5, (1, x5)), (7, (0, x7))] [] s (rk40 s x0 x1 x2 x3 x5 x7)) (s : St) (x0 x1 x2 x3 x5 x7 : Int) : V G l mX13_mean 40 [(0, (2, x0)), (1, (0, x1)), (2, (0, x2)), (3, (0, x3)), (5, (1, x5)), (7, (0, x7))] [] s (X13_mean_b40_body rk40 s x0 x1 x2 x3 x5 x7) := by
  unfold X13_mean_b40_body
  refine V_iload dec_X13_mean.2.1.1.1.2 5 rfl ?_
  refine V_aload_n dec_X13_mean.2.1.1.2.1 0 rfl ?_
  refine V_getR 13 3 nf_13_3 ft_13_3 fl_X13_303 dec_X13_mean.2.1.1.2.2.1 ?_
  refine V_getIN RX13 12 3 nf_12_3 ft_12_3 fl_X13_241 dec_X13_mean.2.1.1.2.2.2 ?_
  refine V_icmp_ge (tgt := 72) dec_X13_mean.2.1.2.1.1 (by decide) ?_ ?_
  · refine V_aload_n dec_X13_mean.2.2.2.1.1 0 rfl ?_
    refine V_lload dec_X13_mean.2.2.2.1.2.1 4 rfl ?_
    refine V_ldc2 (n := 100) cw_X13_450 (by decide) dec_X13_mean.2.2.2.1.2.2 ?_
    refine V_iload_n dec_X13_mean.2.2.2.2.1 3 rfl ?_
    refine V_callV0 (ci := 13) (a := x0) (As := [(1, x5), (1, 100), (0, x3)]) (st := []) rfl rfl (X13_fraction_s G l s x0 x5 100 x3) cal_X13_fraction rfl ml_X13_452 rfl rfl dec_X13_mean.2.2.2.2.2.1 (k_tag (tag := 1) rfl fun r8 s9 => ?_)
    exact V_lret rfl dec_X13_mean.2.2.2.2.2.2
  · refine V_lload dec_X13_mean.2.1.2.1.2.1 4 rfl ?_
    refine V_aload_n dec_X13_mean.2.1.2.1.2.2 0 rfl ?_
    refine V_iload_n dec_X13_mean.2.1.2.2.1 1 rfl ?_
    refine V_iload dec_X13_mean.2.1.2.2.2.1 5 rfl ?_
    refine V_iload_n dec_X13_mean.2.1.2.2.2.2 2 rfl ?_
    refine V_callV0 (ci := 13) (a := x0) (As := [(0, x1), (0, x7), (0, x2)]) (st := [(1, x5)]) rfl rfl (X13_chance_s G l s x0 x1 x7 x2) cal_X13_chance rfl ml_X13_447 rfl rfl dec_X13_mean.2.2.1.1.1 (k_tag (tag := 0) rfl fun r10 s11 => ?_)
    refine V_i2l dec_X13_mean.2.2.1.1.2.1 ?_
    refine V_ladd dec_X13_mean.2.2.1.1.2.2 ?_
    refine V_lstore (lv' := [(5, (1, (w64 (x5 + r10)))), (0, (2, x0)), (1, (0, x1)), (2, (0, x2)), (3, (0, x3)), (7, (0, x7))]) dec_X13_mean.2.2.1.2.1 (by decide) rfl ?_
    refine V_iinc (lv' := [(7, (0, (w32 (x7 + 1)))), (5, (1, (w64 (x5 + r10)))), (0, (2, x0)), (1, (0, x1)), (2, (0, x2)), (3, (0, x3))]) dec_X13_mean.2.2.1.2.2.1 5 rfl (by decide) rfl ?_
    refine V_goto (tgt := 40) dec_X13_mean.2.2.1.2.2.2 (by decide) ?_
    exact V_pick [2, 3, 4, 5, 1, 0] rfl (hk40 s11 x0 x1 x2 x3 (w64 (x5 + r10)) (w32 (x7 + 1)))
theorem X13_mean_b40_s (G : Gx) (l : Launch) (n : Nat) (s : St) (x0 x1 x2 x3 x5 x7 : Int) : V G l mX13_mean 40 [(0, (2, x0)), (1, (0, x1)), (2, (0, x2)), (3, (0, x3)), (5, (1, x5)), (7, (0, x7))] [] s (X13_mean_b40 n s x0 x1 x2 x3 x5 x7) :=
  V_iter (LV := fun a : St × Int × Int × Int × Int × Int × Int => [(0, (2, a.2.1)), (1, (0, a.2.2.1)), (2, (0, a.2.2.2.1)), (3, (0, a.2.2.2.2.1)), (5, (1, a.2.2.2.2.2.1)), (7, (0, a.2.2.2.2.2.2))]) (ST := fun a : St × Int × Int × Int × Int × Int × Int => []) (SS := fun a : St × Int × Int × Int × Int × Int × Int => a.1) (fun rec hrec a => X13_mean_b40_body_s G l (fun (s : St) (x0 x1 x2 x3 x5 x7 : Int) => rec (s, x0, x1, x2, x3, x5, x7)) (fun (s : St) (x0 x1 x2 x3 x5 x7 : Int) => hrec (s, x0, x1, x2, x3, x5, x7)) a.1 a.2.1 a.2.2.1 a.2.2.2.1 a.2.2.2.2.1 a.2.2.2.2.2.1 a.2.2.2.2.2.2) n (s, x0, x1, x2, x3, x5, x7)
def X13_mean (s : St) (a0 a1 a2 a3 : Int) : Rs :=
  grd (isK s 23 a0) (lets (pI s a0 0 0) (fun s1 => grd (isK s1 23 a0) (bnd (X13_isPerson s1 a0 a1) (fun r2 s3 => grd (isK s3 23 a0) (bnd (X13_refusesNight s3 a0 r2 a2) (fun r4 s5 => if r4 ≤ 0 then (grd (isK s5 23 a0) (bnd (X13_works s5 a0) (fun r6 s7 => X13_mean_b40 FU s7 a0 a1 a2 a3 0 0))) else (grd (isK s5 23 a0) (bnd (X13_refused s5 a0 r4) (fun r12 s13 => some (r12, s13))))))))))
set_option maxRecDepth 100000 in
set_option maxHeartbeats 4000000 in
theorem X13_mean_s (G : Gx) (l : Launch) (s : St) (a0 a1 a2 a3 : Int) : Snd G l mX13_mean [(2, a0), (0, a1), (0, a2), (0, a3)] s (X13_mean s a0 a1 a2 a3) := by
  refine Snd.of (by decide +kernel) rfl ?_
  show V G l mX13_mean 0 [(0, (2, a0)), (1, (0, a1)), (2, (0, a2)), (3, (0, a3))] [] s _
  unfold X13_mean
  refine V_aload_n dec_X13_mean.1.1.1.1.1 0 rfl ?_
  refine V_iconst dec_X13_mean.1.1.1.1.2 rfl ?_
  refine V_putI (host := "") 13 0 nf_13_0 ty_13_0 (Or.inl ⟨fl_X13_49, Or.inl rfl⟩) dec_X13_mean.1.1.1.2.1 ?_
  refine V_lets fun s1 => ?_
  refine V_aload_n dec_X13_mean.1.1.1.2.2.1 0 rfl ?_
  refine V_aload_n dec_X13_mean.1.1.1.2.2.2 0 rfl ?_
  refine V_iload_n dec_X13_mean.1.1.2.1.1 1 rfl ?_
  refine V_callV0 (ci := 13) (a := a0) (As := [(0, a1)]) (st := [(2, a0)]) rfl rfl (X13_isPerson_s G l s1 a0 a1) cal_X13_isPerson rfl ml_X13_339 rfl rfl dec_X13_mean.1.1.2.1.2.1 (k_tag (tag := 0) rfl fun r2 s3 => ?_)
  refine V_iload_n dec_X13_mean.1.1.2.1.2.2 2 rfl ?_
  refine V_callV0 (ci := 13) (a := a0) (As := [(0, r2), (0, a2)]) (st := []) rfl rfl (X13_refusesNight_s G l s3 a0 r2 a2) cal_X13_refusesNight rfl ml_X13_354 rfl rfl dec_X13_mean.1.1.2.2.1 (k_tag (tag := 0) rfl fun r4 s5 => ?_)
  refine V_istore (lv' := [(4, (0, r4)), (0, (2, a0)), (1, (0, a1)), (2, (0, a2)), (3, (0, a3))]) dec_X13_mean.1.1.2.2.2.1 (by decide) rfl ?_
  refine V_iload dec_X13_mean.1.1.2.2.2.2 0 rfl ?_
  refine V_if_le (tgt := 30) dec_X13_mean.1.2.1.1.1 (by decide) ?_ ?_
  · refine V_aload_n dec_X13_mean.1.2.2.1.2.1 1 rfl ?_
    refine V_callV0 (ci := 13) (a := a0) (As := []) (st := []) rfl rfl (X13_works_s G l s5 a0) cal_X13_works rfl ml_X13_342 rfl rfl dec_X13_mean.1.2.2.1.2.2 (k_void rfl fun r6 s7 => ?_)
    refine V_lconst (n := 0) dec_X13_mean.1.2.2.2.1 (by decide) ?_
    refine V_lstore (lv' := [(5, (1, 0)), (4, (0, r4)), (0, (2, a0)), (1, (0, a1)), (2, (0, a2)), (3, (0, a3))]) dec_X13_mean.1.2.2.2.2.1 (by decide) rfl ?_
    refine V_iconst dec_X13_mean.1.2.2.2.2.2 rfl ?_
    refine V_istore (lv' := [(7, (0, 0)), (5, (1, 0)), (4, (0, r4)), (0, (2, a0)), (1, (0, a1)), (2, (0, a2)), (3, (0, a3))]) dec_X13_mean.2.1.1.1.1 (by decide) rfl ?_
    exact V_pick [3, 4, 5, 6, 1, 0] rfl (X13_mean_b40_s G l FU s7 a0 a1 a2 a3 0 0)
  · refine V_aload_n dec_X13_mean.1.2.1.1.2 1 rfl ?_
    refine V_iload dec_X13_mean.1.2.1.2.1 0 rfl ?_
    refine V_callV0 (ci := 13) (a := a0) (As := [(0, r4)]) (st := []) rfl rfl (X13_refused_s G l s5 a0 r4) cal_X13_refused rfl ml_X13_55 rfl rfl dec_X13_mean.1.2.1.2.2.1 (k_tag (tag := 0) rfl fun r12 s13 => ?_)
    refine V_i2l dec_X13_mean.1.2.1.2.2.2 ?_
    exact V_lret rfl dec_X13_mean.1.2.2.1.1
theorem dec_X13_medium : (((((decode cX13_medium 0 = .ok (.aload_n 0, 1) ∧ (decode cX13_medium 1 = .ok (.iconst 0, 1) ∧ decode cX13_medium 2 = .ok (.putfield 49, 3))) ∧ (decode cX13_medium 5 = .ok (.aload_n 0, 1) ∧ (decode cX13_medium 6 = .ok (.aload_n 0, 1) ∧ decode cX13_medium 7 = .ok (.getfield 303, 3)))) ∧ ((decode cX13_medium 10 = .ok (.ifnull 7, 3) ∧ (decode cX13_medium 13 = .ok (.iconst 1, 1) ∧ decode cX13_medium 14 = .ok (.goto 4, 3))) ∧ (decode cX13_medium 17 = .ok (.iconst 0, 1) ∧ (decode cX13_medium 18 = .ok (.iload_n 1, 1) ∧ decode cX13_medium 19 = .ok (.invokevirtual 354, 3))))) ∧ (((decode cX13_medium 22 = .ok (.istore_n 2, 1) ∧ (decode cX13_medium 23 = .ok (.iload_n 2, 1) ∧ decode cX13_medium 24 = .ok (.ifCond .le 9, 3))) ∧ (decode cX13_medium 27 = .ok (.aload_n 0, 1) ∧ (decode cX13_medium 28 = .ok (.iload_n 2, 1) ∧ decode cX13_medium 29 = .ok (.invokevirtual 55, 3)))) ∧ ((decode cX13_medium 32 = .ok (.ireturn, 1) ∧ (decode cX13_medium 33 = .ok (.aload_n 0, 1) ∧ decode cX13_medium 34 = .ok (.invokevirtual 342, 3))) ∧ (decode cX13_medium 37 = .ok (.iconst 0, 1) ∧ (decode cX13_medium 38 = .ok (.istore_n 3, 1) ∧ decode cX13_medium 39 = .ok (.iconst 1, 1)))))) ∧ ((((decode cX13_medium 40 = .ok (.istore 4, 2) ∧ (decode cX13_medium 42 = .ok (.iload 4, 2) ∧ decode cX13_medium 44 = .ok (.aload_n 0, 1))) ∧ (decode cX13_medium 45 = .ok (.getfield 303, 3) ∧ (decode cX13_medium 48 = .ok (.getfield 193, 3) ∧ decode cX13_medium 51 = .ok (.if_icmp .ge 34, 3)))) ∧ ((decode cX13_medium 54 = .ok (.aload_n 0, 1) ∧ (decode cX13_medium 55 = .ok (.iload 4, 2) ∧ decode cX13_medium 57 = .ok (.iload_n 1, 1))) ∧ (decode cX13_medium 58 = .ok (.invokevirtual 345, 3) ∧ (decode cX13_medium 61 = .ok (.invokestatic 361, 3) ∧ decode cX13_medium 64 = .ok (.aload_n 0, 1))))) ∧ (((decode cX13_medium 65 = .ok (.iload_n 3, 1) ∧ (decode cX13_medium 66 = .ok (.iload_n 1, 1) ∧ decode cX13_medium 67 = .ok (.invokevirtual 345, 3))) ∧ (decode cX13_medium 70 = .ok (.invokestatic 361, 3) ∧ (decode cX13_medium 73 = .ok (.if_icmp .le 6, 3) ∧ decode cX13_medium 76 = .ok (.iload 4, 2)))) ∧ ((decode cX13_medium 78 = .ok (.istore_n 3, 1) ∧ (decode cX13_medium 79 = .ok (.iinc 4 1, 3) ∧ decode cX13_medium 82 = .ok (.goto (-40), 3))) ∧ ((decode cX13_medium 85 = .ok (.aload_n 0, 1) ∧ decode cX13_medium 86 = .ok (.iload_n 3, 1)) ∧ (decode cX13_medium 87 = .ok (.invokevirtual 59, 3) ∧ decode cX13_medium 90 = .ok (.ireturn, 1))))))) := ⟨⟨by decide +kernel, by decide +kernel⟩, ⟨by decide +kernel, ⟨by decide +kernel, by decide +kernel⟩⟩⟩
def X13_medium_b79 (rk42 : St → Int → Int → Int → Int → Rs) (s : St) (x0 x1 x3 x4 : Int) : Rs :=
  rk42 s x0 x1 x3 (w32 (x4 + 1))
set_option maxRecDepth 100000 in
set_option maxHeartbeats 4000000 in
theorem X13_medium_b79_s (G : Gx) (l : Launch) (rk42 : St → Int → Int → Int → Int → Rs) (hk42 : ∀ (s : St) (x0 x1 x3 x4 : Int), V G l mX13_medium 42 [(0, (2, x0)), (1, (0, x1)), (3, (0, x3)), (4, (0, x4))] [] s (rk42 s x0 x1 x3 x4)) (s : St) (x0 x1 x3 x4 : Int) : V G l mX13_medium 79 [(0, (2, x0)), (1, (0, x1)), (3, (0, x3)), (4, (0, x4))] [] s (X13_medium_b79 rk42 s x0 x1 x3 x4) := by
  unfold X13_medium_b79
  refine V_iinc (lv' := [(4, (0, (w32 (x4 + 1)))), (0, (2, x0)), (1, (0, x1)), (3, (0, x3))]) dec_X13_medium.2.2.2.1.2.1 3 rfl (by decide) rfl ?_
  refine V_goto (tgt := 42) dec_X13_medium.2.2.2.1.2.2 (by decide) ?_
  exact V_pick [1, 2, 3, 0] rfl (hk42 s x0 x1 x3 (w32 (x4 + 1)))
def X13_medium_b42_body (rk42 : St → Int → Int → Int → Int → Rs) (s : St) (x0 x1 x3 x4 : Int) : Rs :=
  grd (isK s 23 x0) (grd (isK s 22 (gR s x0 3)) (if (gI s (gR s x0 3) 2) ≤ x4 then (grd (isK s 23 x0) (bnd (X13_good s x0 x3) (fun r6 s7 => some (r6, s7)))) else (grd (isK s 23 x0) (bnd (X13_heardOf s x0 x4 x1) (fun r8 s9 => bnd (X13_bits s9 r8) (fun r10 s11 => grd (isK s11 23 x0) (bnd (X13_heardOf s11 x0 x3 x1) (fun r12 s13 => bnd (X13_bits s13 r12) (fun r14 s15 => if r10 ≤ r14 then (X13_medium_b79 rk42 s15 x0 x1 x3 x4) else (X13_medium_b79 rk42 s15 x0 x1 x4 x4))))))))))
def X13_medium_b42 (n : Nat) (s : St) (x0 x1 x3 x4 : Int) : Rs := iter (fun (rec : St × Int × Int × Int × Int → Rs) (a : St × Int × Int × Int × Int) => X13_medium_b42_body (fun (s : St) (x0 x1 x3 x4 : Int) => rec (s, x0, x1, x3, x4)) a.1 a.2.1 a.2.2.1 a.2.2.2.1 a.2.2.2.2) n (s, x0, x1, x3, x4)
theorem X13_medium_b42_0 (s : St) (x0 x1 x3 x4 : Int) : X13_medium_b42 0 s x0 x1 x3 x4 = none := rfl
theorem X13_medium_b42_1 (n : Nat) (s : St) (x0 x1 x3 x4 : Int) : X13_medium_b42 (n + 1) s x0 x1 x3 x4 = X13_medium_b42_body (X13_medium_b42 n) s x0 x1 x3 x4 := rfl
set_option maxRecDepth 100000 in
set_option maxHeartbeats 4000000 in
theorem X13_medium_b42_body_s (G : Gx) (l : Launch) (rk42 : St → Int → Int → Int → Int → Rs) (hk42 : ∀ (s : St) (x0 x1 x3 x4 : Int), V G l mX13_medium 42 [(0, (2, x0)), (1, (0, x1)), (3, (0, x3)), (4, (0, x4))] [] s (rk42 s x0 x1 x3 x4)) (s : St) (x0 x1 x3 x4 : Int) : V G l mX13_medium 42 [(0, (2, x0)), (1, (0, x1)), (3, (0, x3)), (4, (0, x4))] [] s (X13_medium_b42_body rk42 s x0 x1 x3 x4) := by
  unfold X13_medium_b42_body
  refine V_iload dec_X13_medium.2.1.1.1.2.1 3 rfl ?_
  refine V_aload_n dec_X13_medium.2.1.1.1.2.2 0 rfl ?_
  refine V_getR 13 3 nf_13_3 ft_13_3 fl_X13_303 dec_X13_medium.2.1.1.2.1 ?_
  refine V_getIN RX13 12 2 nf_12_2 ft_12_2 fl_X13_193 dec_X13_medium.2.1.1.2.2.1 ?_
  refine V_icmp_ge (tgt := 85) dec_X13_medium.2.1.1.2.2.2 (by decide) ?_ ?_
  · refine V_aload_n dec_X13_medium.2.2.2.2.1.1 0 rfl ?_
    refine V_iload_n dec_X13_medium.2.2.2.2.1.2 2 rfl ?_
    refine V_callV0 (ci := 13) (a := x0) (As := [(0, x3)]) (st := []) rfl rfl (X13_good_s G l s x0 x3) cal_X13_good rfl ml_X13_59 rfl rfl dec_X13_medium.2.2.2.2.2.1 (k_tag (tag := 0) rfl fun r6 s7 => ?_)
    exact V_iret rfl dec_X13_medium.2.2.2.2.2.2
  · refine V_aload_n dec_X13_medium.2.1.2.1.1 0 rfl ?_
    refine V_iload dec_X13_medium.2.1.2.1.2.1 3 rfl ?_
    refine V_iload_n dec_X13_medium.2.1.2.1.2.2 1 rfl ?_
    refine V_callV0 (ci := 13) (a := x0) (As := [(0, x4), (0, x1)]) (st := []) rfl rfl (X13_heardOf_s G l s x0 x4 x1) cal_X13_heardOf rfl ml_X13_345 rfl rfl dec_X13_medium.2.1.2.2.1 (k_tag (tag := 0) rfl fun r8 s9 => ?_)
    refine V_callS0 (As := [(0, r8)]) (st := []) (host := "") rfl (X13_bits_s G l s9 r8) cal_X13_bits rfl (Or.inl ml_X13_361) rfl rfl dec_X13_medium.2.1.2.2.2.1 (k_tag (tag := 0) rfl fun r10 s11 => ?_)
    refine V_aload_n dec_X13_medium.2.1.2.2.2.2 0 rfl ?_
    refine V_iload_n dec_X13_medium.2.2.1.1.1 2 rfl ?_
    refine V_iload_n dec_X13_medium.2.2.1.1.2.1 1 rfl ?_
    refine V_callV0 (ci := 13) (a := x0) (As := [(0, x3), (0, x1)]) (st := [(0, r10)]) rfl rfl (X13_heardOf_s G l s11 x0 x3 x1) cal_X13_heardOf rfl ml_X13_345 rfl rfl dec_X13_medium.2.2.1.1.2.2 (k_tag (tag := 0) rfl fun r12 s13 => ?_)
    refine V_callS0 (As := [(0, r12)]) (st := [(0, r10)]) (host := "") rfl (X13_bits_s G l s13 r12) cal_X13_bits rfl (Or.inl ml_X13_361) rfl rfl dec_X13_medium.2.2.1.2.1 (k_tag (tag := 0) rfl fun r14 s15 => ?_)
    refine V_icmp_le (tgt := 79) dec_X13_medium.2.2.1.2.2.1 (by decide) ?_ ?_
    · exact V_pick [0, 1, 2, 3] rfl (X13_medium_b79_s G l rk42 hk42 s15 x0 x1 x3 x4)
    · refine V_iload dec_X13_medium.2.2.1.2.2.2 3 rfl ?_
      refine V_istore_n (lv' := [(3, (0, x4)), (0, (2, x0)), (1, (0, x1)), (4, (0, x4))]) dec_X13_medium.2.2.2.1.1 (by decide) rfl ?_
      exact V_pick [1, 2, 0, 3] rfl (X13_medium_b79_s G l rk42 hk42 s15 x0 x1 x4 x4)
theorem X13_medium_b42_s (G : Gx) (l : Launch) (n : Nat) (s : St) (x0 x1 x3 x4 : Int) : V G l mX13_medium 42 [(0, (2, x0)), (1, (0, x1)), (3, (0, x3)), (4, (0, x4))] [] s (X13_medium_b42 n s x0 x1 x3 x4) :=
  V_iter (LV := fun a : St × Int × Int × Int × Int => [(0, (2, a.2.1)), (1, (0, a.2.2.1)), (3, (0, a.2.2.2.1)), (4, (0, a.2.2.2.2))]) (ST := fun a : St × Int × Int × Int × Int => []) (SS := fun a : St × Int × Int × Int × Int => a.1) (fun rec hrec a => X13_medium_b42_body_s G l (fun (s : St) (x0 x1 x3 x4 : Int) => rec (s, x0, x1, x3, x4)) (fun (s : St) (x0 x1 x3 x4 : Int) => hrec (s, x0, x1, x3, x4)) a.1 a.2.1 a.2.2.1 a.2.2.2.1 a.2.2.2.2) n (s, x0, x1, x3, x4)
def X13_medium_b18 (s : St) (x0 x1 k0 k1 : Int) : Rs :=
  grd (isK s 23 k1) (bnd (X13_refusesNight s k1 k0 x1) (fun r2 s3 => if r2 ≤ 0 then (grd (isK s3 23 x0) (bnd (X13_works s3 x0) (fun r4 s5 => X13_medium_b42 FU s5 x0 x1 0 1))) else (grd (isK s3 23 x0) (bnd (X13_refused s3 x0 r2) (fun r16 s17 => some (r16, s17))))))
set_option maxRecDepth 100000 in
set_option maxHeartbeats 4000000 in
theorem X13_medium_b18_s (G : Gx) (l : Launch) (s : St) (x0 x1 k0 k1 : Int) : V G l mX13_medium 18 [(0, (2, x0)), (1, (0, x1))] [(0, k0), (2, k1)] s (X13_medium_b18 s x0 x1 k0 k1) := by
  unfold X13_medium_b18
  refine V_iload_n dec_X13_medium.1.1.2.2.2.1 1 rfl ?_
  refine V_callV0 (ci := 13) (a := k1) (As := [(0, k0), (0, x1)]) (st := []) rfl rfl (X13_refusesNight_s G l s k1 k0 x1) cal_X13_refusesNight rfl ml_X13_354 rfl rfl dec_X13_medium.1.1.2.2.2.2 (k_tag (tag := 0) rfl fun r2 s3 => ?_)
  refine V_istore_n (lv' := [(2, (0, r2)), (0, (2, x0)), (1, (0, x1))]) dec_X13_medium.1.2.1.1.1 (by decide) rfl ?_
  refine V_iload_n dec_X13_medium.1.2.1.1.2.1 0 rfl ?_
  refine V_if_le (tgt := 33) dec_X13_medium.1.2.1.1.2.2 (by decide) ?_ ?_
  · refine V_aload_n dec_X13_medium.1.2.2.1.2.1 1 rfl ?_
    refine V_callV0 (ci := 13) (a := x0) (As := []) (st := []) rfl rfl (X13_works_s G l s3 x0) cal_X13_works rfl ml_X13_342 rfl rfl dec_X13_medium.1.2.2.1.2.2 (k_void rfl fun r4 s5 => ?_)
    refine V_iconst dec_X13_medium.1.2.2.2.1 rfl ?_
    refine V_istore_n (lv' := [(3, (0, 0)), (2, (0, r2)), (0, (2, x0)), (1, (0, x1))]) dec_X13_medium.1.2.2.2.2.1 (by decide) rfl ?_
    refine V_iconst dec_X13_medium.1.2.2.2.2.2 rfl ?_
    refine V_istore (lv' := [(4, (0, 1)), (3, (0, 0)), (2, (0, r2)), (0, (2, x0)), (1, (0, x1))]) dec_X13_medium.2.1.1.1.1 (by decide) rfl ?_
    exact V_pick [3, 4, 1, 0] rfl (X13_medium_b42_s G l FU s5 x0 x1 0 1)
  · refine V_aload_n dec_X13_medium.1.2.1.2.1 1 rfl ?_
    refine V_iload_n dec_X13_medium.1.2.1.2.2.1 0 rfl ?_
    refine V_callV0 (ci := 13) (a := x0) (As := [(0, r2)]) (st := []) rfl rfl (X13_refused_s G l s3 x0 r2) cal_X13_refused rfl ml_X13_55 rfl rfl dec_X13_medium.1.2.1.2.2.2 (k_tag (tag := 0) rfl fun r16 s17 => ?_)
    exact V_iret rfl dec_X13_medium.1.2.2.1.1
def X13_medium (s : St) (a0 a1 : Int) : Rs :=
  grd (isK s 23 a0) (lets (pI s a0 0 0) (fun s1 => grd (isK s1 23 a0) (if (gR s1 a0 3) < 0 then (X13_medium_b18 s1 a0 a1 0 a0) else (X13_medium_b18 s1 a0 a1 1 a0))))
set_option maxRecDepth 100000 in
set_option maxHeartbeats 4000000 in
theorem X13_medium_s (G : Gx) (l : Launch) (s : St) (a0 a1 : Int) : Snd G l mX13_medium [(2, a0), (0, a1)] s (X13_medium s a0 a1) := by
  refine Snd.of (by decide +kernel) rfl ?_
  show V G l mX13_medium 0 [(0, (2, a0)), (1, (0, a1))] [] s _
  unfold X13_medium
  refine V_aload_n dec_X13_medium.1.1.1.1.1 0 rfl ?_
  refine V_iconst dec_X13_medium.1.1.1.1.2.1 rfl ?_
  refine V_putI (host := "") 13 0 nf_13_0 ty_13_0 (Or.inl ⟨fl_X13_49, Or.inl rfl⟩) dec_X13_medium.1.1.1.1.2.2 ?_
  refine V_lets fun s1 => ?_
  refine V_aload_n dec_X13_medium.1.1.1.2.1 0 rfl ?_
  refine V_aload_n dec_X13_medium.1.1.1.2.2.1 0 rfl ?_
  refine V_getR 13 3 nf_13_3 ft_13_3 fl_X13_303 dec_X13_medium.1.1.1.2.2.2 ?_
  refine V_ifnull (tgt := 17) dec_X13_medium.1.1.2.1.1 (by decide) ?_ ?_
  · refine V_iconst dec_X13_medium.1.1.2.2.1 rfl ?_
    exact V_pick [0, 1] rfl (X13_medium_b18_s G l s1 a0 a1 0 a0)
  · refine V_iconst dec_X13_medium.1.1.2.1.2.1 rfl ?_
    refine V_goto (tgt := 18) dec_X13_medium.1.1.2.1.2.2 (by decide) ?_
    exact V_pick [0, 1] rfl (X13_medium_b18_s G l s1 a0 a1 1 a0)
theorem dec_X13_mirrorBest : ((((((decode cX13_mirrorBest 0 = .ok (.aload_n 0, 1) ∧ decode cX13_mirrorBest 1 = .ok (.iconst 0, 1)) ∧ (decode cX13_mirrorBest 2 = .ok (.putfield 49, 3) ∧ decode cX13_mirrorBest 5 = .ok (.aload_n 0, 1))) ∧ ((decode cX13_mirrorBest 6 = .ok (.iload_n 1, 1) ∧ decode cX13_mirrorBest 7 = .ok (.invokevirtual 348, 3)) ∧ (decode cX13_mirrorBest 10 = .ok (.ifCond .ne 9, 3) ∧ decode cX13_mirrorBest 13 = .ok (.aload_n 0, 1)))) ∧ (((decode cX13_mirrorBest 14 = .ok (.iconst 1, 1) ∧ decode cX13_mirrorBest 15 = .ok (.invokevirtual 55, 3)) ∧ (decode cX13_mirrorBest 18 = .ok (.ireturn, 1) ∧ decode cX13_mirrorBest 19 = .ok (.aload_n 0, 1))) ∧ ((decode cX13_mirrorBest 20 = .ok (.invokevirtual 342, 3) ∧ decode cX13_mirrorBest 23 = .ok (.iconst 0, 1)) ∧ (decode cX13_mirrorBest 24 = .ok (.istore_n 2, 1) ∧ decode cX13_mirrorBest 25 = .ok (.iconst (-1), 1))))) ∧ ((((decode cX13_mirrorBest 26 = .ok (.istore_n 3, 1) ∧ decode cX13_mirrorBest 27 = .ok (.iconst 0, 1)) ∧ (decode cX13_mirrorBest 28 = .ok (.istore 4, 2) ∧ decode cX13_mirrorBest 30 = .ok (.iload 4, 2))) ∧ ((decode cX13_mirrorBest 32 = .ok (.aload_n 0, 1) ∧ decode cX13_mirrorBest 33 = .ok (.getfield 303, 3)) ∧ (decode cX13_mirrorBest 36 = .ok (.getfield 159, 3) ∧ decode cX13_mirrorBest 39 = .ok (.if_icmp .ge 74, 3)))) ∧ (((decode cX13_mirrorBest 42 = .ok (.aload_n 0, 1) ∧ decode cX13_mirrorBest 43 = .ok (.getfield 21, 3)) ∧ (decode cX13_mirrorBest 46 = .ok (.bipush 12, 2) ∧ decode cX13_mirrorBest 48 = .ok (.iload_n 1, 1))) ∧ ((decode cX13_mirrorBest 49 = .ok (.iadd, 1) ∧ decode cX13_mirrorBest 50 = .ok (.iload 4, 2)) ∧ (decode cX13_mirrorBest 52 = .ok (.iastore, 1) ∧ decode cX13_mirrorBest 53 = .ok (.iconst 0, 1)))))) ∧ (((((decode cX13_mirrorBest 54 = .ok (.istore 5, 2) ∧ decode cX13_mirrorBest 56 = .ok (.iconst 0, 1)) ∧ (decode cX13_mirrorBest 57 = .ok (.istore 6, 2) ∧ decode cX13_mirrorBest 59 = .ok (.iload 6, 2))) ∧ ((decode cX13_mirrorBest 61 = .ok (.bipush 100, 2) ∧ decode cX13_mirrorBest 63 = .ok (.if_icmp .ge 29, 3)) ∧ (decode cX13_mirrorBest 66 = .ok (.iload 5, 2) ∧ decode cX13_mirrorBest 68 = .ok (.aload_n 0, 1)))) ∧ (((decode cX13_mirrorBest 69 = .ok (.iload_n 1, 1) ∧ decode cX13_mirrorBest 70 = .ok (.iload 6, 2)) ∧ (decode cX13_mirrorBest 72 = .ok (.invokevirtual 336, 3) ∧ decode cX13_mirrorBest 75 = .ok (.ifCond .eq 7, 3))) ∧ ((decode cX13_mirrorBest 78 = .ok (.iconst 1, 1) ∧ decode cX13_mirrorBest 79 = .ok (.goto 4, 3)) ∧ (decode cX13_mirrorBest 82 = .ok (.iconst 0, 1) ∧ decode cX13_mirrorBest 83 = .ok (.iadd, 1))))) ∧ ((((decode cX13_mirrorBest 84 = .ok (.istore 5, 2) ∧ decode cX13_mirrorBest 86 = .ok (.iinc 6 1, 3)) ∧ (decode cX13_mirrorBest 89 = .ok (.goto (-30), 3) ∧ decode cX13_mirrorBest 92 = .ok (.iload 5, 2))) ∧ ((decode cX13_mirrorBest 94 = .ok (.iload_n 3, 1) ∧ decode cX13_mirrorBest 95 = .ok (.if_icmp .gt 6, 3)) ∧ (decode cX13_mirrorBest 98 = .ok (.goto 9, 3) ∧ decode cX13_mirrorBest 101 = .ok (.iload 5, 2)))) ∧ (((decode cX13_mirrorBest 103 = .ok (.istore_n 3, 1) ∧ decode cX13_mirrorBest 104 = .ok (.iload 4, 2)) ∧ (decode cX13_mirrorBest 106 = .ok (.istore_n 2, 1) ∧ decode cX13_mirrorBest 107 = .ok (.iinc 4 1, 3))) ∧ ((decode cX13_mirrorBest 110 = .ok (.goto (-80), 3) ∧ decode cX13_mirrorBest 113 = .ok (.aload_n 0, 1)) ∧ (decode cX13_mirrorBest 114 = .ok (.iload_n 2, 1) ∧ (decode cX13_mirrorBest 115 = .ok (.invokevirtual 59, 3) ∧ decode cX13_mirrorBest 118 = .ok (.ireturn, 1)))))))) := ⟨⟨⟨by decide +kernel, by decide +kernel⟩, ⟨by decide +kernel, by decide +kernel⟩⟩, ⟨⟨by decide +kernel, by decide +kernel⟩, ⟨by decide +kernel, by decide +kernel⟩⟩⟩
def X13_mirrorBest_b107 (rk30 : St → Int → Int → Int → Int → Int → Rs) (s : St) (x0 x1 x2 x3 x4 : Int) : Rs :=
  rk30 s x0 x1 x2 x3 (w32 (x4 + 1))
set_option maxRecDepth 100000 in
set_option maxHeartbeats 4000000 in
theorem X13_mirrorBest_b107_s (G : Gx) (l : Launch) (rk30 : St → Int → Int → Int → Int → Int → Rs) (hk30 : ∀ (s : St) (x0 x1 x2 x3 x4 : Int), V G l mX13_mirrorBest 30 [(0, (2, x0)), (1, (0, x1)), (2, (0, x2)), (3, (0, x3)), (4, (0, x4))] [] s (rk30 s x0 x1 x2 x3 x4)) (s : St) (x0 x1 x2 x3 x4 : Int) : V G l mX13_mirrorBest 107 [(0, (2, x0)), (1, (0, x1)), (2, (0, x2)), (3, (0, x3)), (4, (0, x4))] [] s (X13_mirrorBest_b107 rk30 s x0 x1 x2 x3 x4) := by
  unfold X13_mirrorBest_b107
  refine V_iinc (lv' := [(4, (0, (w32 (x4 + 1)))), (0, (2, x0)), (1, (0, x1)), (2, (0, x2)), (3, (0, x3))]) dec_X13_mirrorBest.2.2.2.1.2.2 4 rfl (by decide) rfl ?_
  refine V_goto (tgt := 30) dec_X13_mirrorBest.2.2.2.2.1.1 (by decide) ?_
  exact V_pick [1, 2, 3, 4, 0] rfl (hk30 s x0 x1 x2 x3 (w32 (x4 + 1)))
def X13_mirrorBest_b83 (rk30 : St → Int → Int → Int → Int → Int → Rs) (rk59 : St → Int → Int → Int → Int → Int → Int → Int → Rs) (s : St) (x0 x1 x2 x3 x4 x6 k0 k1 : Int) : Rs :=
  rk59 s x0 x1 x2 x3 x4 (w32 (k1 + k0)) (w32 (x6 + 1))
set_option maxRecDepth 100000 in
set_option maxHeartbeats 4000000 in
theorem X13_mirrorBest_b83_s (G : Gx) (l : Launch) (rk30 : St → Int → Int → Int → Int → Int → Rs) (rk59 : St → Int → Int → Int → Int → Int → Int → Int → Rs) (hk30 : ∀ (s : St) (x0 x1 x2 x3 x4 : Int), V G l mX13_mirrorBest 30 [(0, (2, x0)), (1, (0, x1)), (2, (0, x2)), (3, (0, x3)), (4, (0, x4))] [] s (rk30 s x0 x1 x2 x3 x4)) (hk59 : ∀ (s : St) (x0 x1 x2 x3 x4 x5 x6 : Int), V G l mX13_mirrorBest 59 [(0, (2, x0)), (1, (0, x1)), (2, (0, x2)), (3, (0, x3)), (4, (0, x4)), (5, (0, x5)), (6, (0, x6))] [] s (rk59 s x0 x1 x2 x3 x4 x5 x6)) (s : St) (x0 x1 x2 x3 x4 x6 k0 k1 : Int) : V G l mX13_mirrorBest 83 [(0, (2, x0)), (1, (0, x1)), (2, (0, x2)), (3, (0, x3)), (4, (0, x4)), (6, (0, x6))] [(0, k0), (0, k1)] s (X13_mirrorBest_b83 rk30 rk59 s x0 x1 x2 x3 x4 x6 k0 k1) := by
  unfold X13_mirrorBest_b83
  refine V_iadd dec_X13_mirrorBest.2.1.2.2.2.2 ?_
  refine V_istore (lv' := [(5, (0, (w32 (k1 + k0)))), (0, (2, x0)), (1, (0, x1)), (2, (0, x2)), (3, (0, x3)), (4, (0, x4)), (6, (0, x6))]) dec_X13_mirrorBest.2.2.1.1.1.1 (by decide) rfl ?_
  refine V_iinc (lv' := [(6, (0, (w32 (x6 + 1)))), (5, (0, (w32 (k1 + k0)))), (0, (2, x0)), (1, (0, x1)), (2, (0, x2)), (3, (0, x3)), (4, (0, x4))]) dec_X13_mirrorBest.2.2.1.1.1.2 6 rfl (by decide) rfl ?_
  refine V_goto (tgt := 59) dec_X13_mirrorBest.2.2.1.1.2.1 (by decide) ?_
  exact V_pick [2, 3, 4, 5, 6, 1, 0] rfl (hk59 s x0 x1 x2 x3 x4 (w32 (k1 + k0)) (w32 (x6 + 1)))
def X13_mirrorBest_b59_body (rk30 : St → Int → Int → Int → Int → Int → Rs) (rk59 : St → Int → Int → Int → Int → Int → Int → Int → Rs) (s : St) (x0 x1 x2 x3 x4 x5 x6 : Int) : Rs :=
  if (100 : Int) ≤ x6 then (if x3 < x5 then (X13_mirrorBest_b107 rk30 s x0 x1 x4 x5 x4) else (X13_mirrorBest_b107 rk30 s x0 x1 x2 x3 x4)) else (grd (isK s 23 x0) (bnd (X13_isRight s x0 x1 x6) (fun r9 s10 => if r9 = 0 then (X13_mirrorBest_b83 rk30 rk59 s10 x0 x1 x2 x3 x4 x6 0 x5) else (X13_mirrorBest_b83 rk30 rk59 s10 x0 x1 x2 x3 x4 x6 1 x5))))
def X13_mirrorBest_b59 (rk30 : St → Int → Int → Int → Int → Int → Rs) (n : Nat) (s : St) (x0 x1 x2 x3 x4 x5 x6 : Int) : Rs := iter (fun (rec : St × Int × Int × Int × Int × Int × Int × Int → Rs) (a : St × Int × Int × Int × Int × Int × Int × Int) => X13_mirrorBest_b59_body rk30 (fun (s : St) (x0 x1 x2 x3 x4 x5 x6 : Int) => rec (s, x0, x1, x2, x3, x4, x5, x6)) a.1 a.2.1 a.2.2.1 a.2.2.2.1 a.2.2.2.2.1 a.2.2.2.2.2.1 a.2.2.2.2.2.2.1 a.2.2.2.2.2.2.2) n (s, x0, x1, x2, x3, x4, x5, x6)
theorem X13_mirrorBest_b59_0 (rk30 : St → Int → Int → Int → Int → Int → Rs) (s : St) (x0 x1 x2 x3 x4 x5 x6 : Int) : X13_mirrorBest_b59 rk30 0 s x0 x1 x2 x3 x4 x5 x6 = none := rfl
theorem X13_mirrorBest_b59_1 (rk30 : St → Int → Int → Int → Int → Int → Rs) (n : Nat) (s : St) (x0 x1 x2 x3 x4 x5 x6 : Int) : X13_mirrorBest_b59 rk30 (n + 1) s x0 x1 x2 x3 x4 x5 x6 = X13_mirrorBest_b59_body rk30 (X13_mirrorBest_b59 rk30 n) s x0 x1 x2 x3 x4 x5 x6 := rfl
set_option maxRecDepth 100000 in
set_option maxHeartbeats 4000000 in
theorem X13_mirrorBest_b59_body_s (G : Gx) (l : Launch) (rk30 : St → Int → Int → Int → Int → Int → Rs) (rk59 : St → Int → Int → Int → Int → Int → Int → Int → Rs) (hk30 : ∀ (s : St) (x0 x1 x2 x3 x4 : Int), V G l mX13_mirrorBest 30 [(0, (2, x0)), (1, (0, x1)), (2, (0, x2)), (3, (0, x3)), (4, (0, x4))] [] s (rk30 s x0 x1 x2 x3 x4)) (hk59 : ∀ (s : St) (x0 x1 x2 x3 x4 x5 x6 : Int), V G l mX13_mirrorBest 59 [(0, (2, x0)), (1, (0, x1)), (2, (0, x2)), (3, (0, x3)), (4, (0, x4)), (5, (0, x5)), (6, (0, x6))] [] s (rk59 s x0 x1 x2 x3 x4 x5 x6)) (s : St) (x0 x1 x2 x3 x4 x5 x6 : Int) : V G l mX13_mirrorBest 59 [(0, (2, x0)), (1, (0, x1)), (2, (0, x2)), (3, (0, x3)), (4, (0, x4)), (5, (0, x5)), (6, (0, x6))] [] s (X13_mirrorBest_b59_body rk30 rk59 s x0 x1 x2 x3 x4 x5 x6) := by
  unfold X13_mirrorBest_b59_body
  refine V_iload dec_X13_mirrorBest.2.1.1.1.2.2 6 rfl ?_
  refine V_bipush dec_X13_mirrorBest.2.1.1.2.1.1 rfl ?_
  refine V_icmp_ge (tgt := 92) dec_X13_mirrorBest.2.1.1.2.1.2 (by decide) ?_ ?_
  · refine V_iload dec_X13_mirrorBest.2.2.1.1.2.2 5 rfl ?_
    refine V_iload_n dec_X13_mirrorBest.2.2.1.2.1.1 3 rfl ?_
    refine V_icmp_gt (tgt := 101) dec_X13_mirrorBest.2.2.1.2.1.2 (by decide) ?_ ?_
    · refine V_iload dec_X13_mirrorBest.2.2.1.2.2.2 5 rfl ?_
      refine V_istore_n (lv' := [(3, (0, x5)), (0, (2, x0)), (1, (0, x1)), (2, (0, x2)), (4, (0, x4)), (5, (0, x5)), (6, (0, x6))]) dec_X13_mirrorBest.2.2.2.1.1.1 (by decide) rfl ?_
      refine V_iload dec_X13_mirrorBest.2.2.2.1.1.2 4 rfl ?_
      refine V_istore_n (lv' := [(2, (0, x4)), (3, (0, x5)), (0, (2, x0)), (1, (0, x1)), (4, (0, x4)), (5, (0, x5)), (6, (0, x6))]) dec_X13_mirrorBest.2.2.2.1.2.1 (by decide) rfl ?_
      exact V_pick [2, 3, 0, 1, 4] rfl (X13_mirrorBest_b107_s G l rk30 hk30 s x0 x1 x4 x5 x4)
    · refine V_goto (tgt := 107) dec_X13_mirrorBest.2.2.1.2.2.1 (by decide) ?_
      exact V_pick [0, 1, 2, 3, 4] rfl (X13_mirrorBest_b107_s G l rk30 hk30 s x0 x1 x2 x3 x4)
  · refine V_iload dec_X13_mirrorBest.2.1.1.2.2.1 5 rfl ?_
    refine V_aload_n dec_X13_mirrorBest.2.1.1.2.2.2 0 rfl ?_
    refine V_iload_n dec_X13_mirrorBest.2.1.2.1.1.1 1 rfl ?_
    refine V_iload dec_X13_mirrorBest.2.1.2.1.1.2 6 rfl ?_
    refine V_callV0 (ci := 13) (a := x0) (As := [(0, x1), (0, x6)]) (st := [(0, x5)]) rfl rfl (X13_isRight_s G l s x0 x1 x6) cal_X13_isRight rfl ml_X13_336 rfl rfl dec_X13_mirrorBest.2.1.2.1.2.1 (k_tag (tag := 0) rfl fun r9 s10 => ?_)
    refine V_if_eq (tgt := 82) dec_X13_mirrorBest.2.1.2.1.2.2 (by decide) ?_ ?_
    · refine V_iconst dec_X13_mirrorBest.2.1.2.2.2.1 rfl ?_
      exact V_pick [0, 1, 2, 3, 4, 6] rfl (X13_mirrorBest_b83_s G l rk30 rk59 hk30 hk59 s10 x0 x1 x2 x3 x4 x6 0 x5)
    · refine V_iconst dec_X13_mirrorBest.2.1.2.2.1.1 rfl ?_
      refine V_goto (tgt := 83) dec_X13_mirrorBest.2.1.2.2.1.2 (by decide) ?_
      exact V_pick [0, 1, 2, 3, 4, 6] rfl (X13_mirrorBest_b83_s G l rk30 rk59 hk30 hk59 s10 x0 x1 x2 x3 x4 x6 1 x5)
theorem X13_mirrorBest_b59_s (G : Gx) (l : Launch) (rk30 : St → Int → Int → Int → Int → Int → Rs) (hk30 : ∀ (s : St) (x0 x1 x2 x3 x4 : Int), V G l mX13_mirrorBest 30 [(0, (2, x0)), (1, (0, x1)), (2, (0, x2)), (3, (0, x3)), (4, (0, x4))] [] s (rk30 s x0 x1 x2 x3 x4)) (n : Nat) (s : St) (x0 x1 x2 x3 x4 x5 x6 : Int) : V G l mX13_mirrorBest 59 [(0, (2, x0)), (1, (0, x1)), (2, (0, x2)), (3, (0, x3)), (4, (0, x4)), (5, (0, x5)), (6, (0, x6))] [] s (X13_mirrorBest_b59 rk30 n s x0 x1 x2 x3 x4 x5 x6) :=
  V_iter (LV := fun a : St × Int × Int × Int × Int × Int × Int × Int => [(0, (2, a.2.1)), (1, (0, a.2.2.1)), (2, (0, a.2.2.2.1)), (3, (0, a.2.2.2.2.1)), (4, (0, a.2.2.2.2.2.1)), (5, (0, a.2.2.2.2.2.2.1)), (6, (0, a.2.2.2.2.2.2.2))]) (ST := fun a : St × Int × Int × Int × Int × Int × Int × Int => []) (SS := fun a : St × Int × Int × Int × Int × Int × Int × Int => a.1) (fun rec hrec a => X13_mirrorBest_b59_body_s G l rk30 (fun (s : St) (x0 x1 x2 x3 x4 x5 x6 : Int) => rec (s, x0, x1, x2, x3, x4, x5, x6)) hk30 (fun (s : St) (x0 x1 x2 x3 x4 x5 x6 : Int) => hrec (s, x0, x1, x2, x3, x4, x5, x6)) a.1 a.2.1 a.2.2.1 a.2.2.2.1 a.2.2.2.2.1 a.2.2.2.2.2.1 a.2.2.2.2.2.2.1 a.2.2.2.2.2.2.2) n (s, x0, x1, x2, x3, x4, x5, x6)
def X13_mirrorBest_b30_body (rk30 : St → Int → Int → Int → Int → Int → Rs) (s : St) (x0 x1 x2 x3 x4 : Int) : Rs :=
  grd (isK s 23 x0) (grd (isK s 22 (gR s x0 3)) (if (gI s (gR s x0 3) 0) ≤ x4 then (grd (isK s 23 x0) (bnd (X13_good s x0 x2) (fun r6 s7 => some (r6, s7)))) else (grd (isK s 23 x0) (grd (isK s 1 (gR s x0 16) ∧ 0 ≤ (w32 (12 + x1)) ∧ (w32 (12 + x1)) < ln s (gR s x0 16)) (lets (pI s (gR s x0 16) (w32 (12 + x1)).toNat x4) (fun s8 => X13_mirrorBest_b59 rk30 FU s8 x0 x1 x2 x3 x4 0 0))))))
def X13_mirrorBest_b30 (n : Nat) (s : St) (x0 x1 x2 x3 x4 : Int) : Rs := iter (fun (rec : St × Int × Int × Int × Int × Int → Rs) (a : St × Int × Int × Int × Int × Int) => X13_mirrorBest_b30_body (fun (s : St) (x0 x1 x2 x3 x4 : Int) => rec (s, x0, x1, x2, x3, x4)) a.1 a.2.1 a.2.2.1 a.2.2.2.1 a.2.2.2.2.1 a.2.2.2.2.2) n (s, x0, x1, x2, x3, x4)
theorem X13_mirrorBest_b30_0 (s : St) (x0 x1 x2 x3 x4 : Int) : X13_mirrorBest_b30 0 s x0 x1 x2 x3 x4 = none := rfl
theorem X13_mirrorBest_b30_1 (n : Nat) (s : St) (x0 x1 x2 x3 x4 : Int) : X13_mirrorBest_b30 (n + 1) s x0 x1 x2 x3 x4 = X13_mirrorBest_b30_body (X13_mirrorBest_b30 n) s x0 x1 x2 x3 x4 := rfl
set_option maxRecDepth 100000 in
set_option maxHeartbeats 4000000 in
theorem X13_mirrorBest_b30_body_s (G : Gx) (l : Launch) (rk30 : St → Int → Int → Int → Int → Int → Rs) (hk30 : ∀ (s : St) (x0 x1 x2 x3 x4 : Int), V G l mX13_mirrorBest 30 [(0, (2, x0)), (1, (0, x1)), (2, (0, x2)), (3, (0, x3)), (4, (0, x4))] [] s (rk30 s x0 x1 x2 x3 x4)) (s : St) (x0 x1 x2 x3 x4 : Int) : V G l mX13_mirrorBest 30 [(0, (2, x0)), (1, (0, x1)), (2, (0, x2)), (3, (0, x3)), (4, (0, x4))] [] s (X13_mirrorBest_b30_body rk30 s x0 x1 x2 x3 x4) := by
  unfold X13_mirrorBest_b30_body
  refine V_iload dec_X13_mirrorBest.1.2.1.1.2.2 4 rfl ?_
  refine V_aload_n dec_X13_mirrorBest.1.2.1.2.1.1 0 rfl ?_
  refine V_getR 13 3 nf_13_3 ft_13_3 fl_X13_303 dec_X13_mirrorBest.1.2.1.2.1.2 ?_
  refine V_getIN RX13 12 0 nf_12_0 ft_12_0 fl_X13_159 dec_X13_mirrorBest.1.2.1.2.2.1 ?_
  refine V_icmp_ge (tgt := 113) dec_X13_mirrorBest.1.2.1.2.2.2 (by decide) ?_ ?_
  · refine V_aload_n dec_X13_mirrorBest.2.2.2.2.1.2 0 rfl ?_
    refine V_iload_n dec_X13_mirrorBest.2.2.2.2.2.1 2 rfl ?_
    refine V_callV0 (ci := 13) (a := x0) (As := [(0, x2)]) (st := []) rfl rfl (X13_good_s G l s x0 x2) cal_X13_good rfl ml_X13_59 rfl rfl dec_X13_mirrorBest.2.2.2.2.2.2.1 (k_tag (tag := 0) rfl fun r6 s7 => ?_)
    exact V_iret rfl dec_X13_mirrorBest.2.2.2.2.2.2.2
  · refine V_aload_n dec_X13_mirrorBest.1.2.2.1.1.1 0 rfl ?_
    refine V_getR 13 16 nf_13_16 ft_13_16 fl_X13_21 dec_X13_mirrorBest.1.2.2.1.1.2 ?_
    refine V_bipush dec_X13_mirrorBest.1.2.2.1.2.1 rfl ?_
    refine V_iload_n dec_X13_mirrorBest.1.2.2.1.2.2 1 rfl ?_
    refine V_iadd dec_X13_mirrorBest.1.2.2.2.1.1 ?_
    refine V_iload dec_X13_mirrorBest.1.2.2.2.1.2 4 rfl ?_
    refine V_iast dec_X13_mirrorBest.1.2.2.2.2.1 ?_
    refine V_lets fun s8 => ?_
    refine V_iconst dec_X13_mirrorBest.1.2.2.2.2.2 rfl ?_
    refine V_istore (lv' := [(5, (0, 0)), (0, (2, x0)), (1, (0, x1)), (2, (0, x2)), (3, (0, x3)), (4, (0, x4))]) dec_X13_mirrorBest.2.1.1.1.1.1 (by decide) rfl ?_
    refine V_iconst dec_X13_mirrorBest.2.1.1.1.1.2 rfl ?_
    refine V_istore (lv' := [(6, (0, 0)), (5, (0, 0)), (0, (2, x0)), (1, (0, x1)), (2, (0, x2)), (3, (0, x3)), (4, (0, x4))]) dec_X13_mirrorBest.2.1.1.1.2.1 (by decide) rfl ?_
    exact V_pick [2, 3, 4, 5, 6, 1, 0] rfl (X13_mirrorBest_b59_s G l rk30 hk30 FU s8 x0 x1 x2 x3 x4 0 0)
theorem X13_mirrorBest_b30_s (G : Gx) (l : Launch) (n : Nat) (s : St) (x0 x1 x2 x3 x4 : Int) : V G l mX13_mirrorBest 30 [(0, (2, x0)), (1, (0, x1)), (2, (0, x2)), (3, (0, x3)), (4, (0, x4))] [] s (X13_mirrorBest_b30 n s x0 x1 x2 x3 x4) :=
  V_iter (LV := fun a : St × Int × Int × Int × Int × Int => [(0, (2, a.2.1)), (1, (0, a.2.2.1)), (2, (0, a.2.2.2.1)), (3, (0, a.2.2.2.2.1)), (4, (0, a.2.2.2.2.2))]) (ST := fun a : St × Int × Int × Int × Int × Int => []) (SS := fun a : St × Int × Int × Int × Int × Int => a.1) (fun rec hrec a => X13_mirrorBest_b30_body_s G l (fun (s : St) (x0 x1 x2 x3 x4 : Int) => rec (s, x0, x1, x2, x3, x4)) (fun (s : St) (x0 x1 x2 x3 x4 : Int) => hrec (s, x0, x1, x2, x3, x4)) a.1 a.2.1 a.2.2.1 a.2.2.2.1 a.2.2.2.2.1 a.2.2.2.2.2) n (s, x0, x1, x2, x3, x4)
def X13_mirrorBest (s : St) (a0 a1 : Int) : Rs :=
  grd (isK s 23 a0) (lets (pI s a0 0 0) (fun s1 => grd (isK s1 23 a0) (bnd (X13_isDead s1 a0 a1) (fun r2 s3 => if ¬ r2 = 0 then (grd (isK s3 23 a0) (bnd (X13_works s3 a0) (fun r4 s5 => X13_mirrorBest_b30 FU s5 a0 a1 0 (-1) 0))) else (grd (isK s3 23 a0) (bnd (X13_refused s3 a0 1) (fun r11 s12 => some (r11, s12))))))))
set_option maxRecDepth 100000 in
set_option maxHeartbeats 4000000 in
theorem X13_mirrorBest_s (G : Gx) (l : Launch) (s : St) (a0 a1 : Int) : Snd G l mX13_mirrorBest [(2, a0), (0, a1)] s (X13_mirrorBest s a0 a1) := by
  refine Snd.of (by decide +kernel) rfl ?_
  show V G l mX13_mirrorBest 0 [(0, (2, a0)), (1, (0, a1))] [] s _
  unfold X13_mirrorBest
  refine V_aload_n dec_X13_mirrorBest.1.1.1.1.1.1 0 rfl ?_
  refine V_iconst dec_X13_mirrorBest.1.1.1.1.1.2 rfl ?_
  refine V_putI (host := "") 13 0 nf_13_0 ty_13_0 (Or.inl ⟨fl_X13_49, Or.inl rfl⟩) dec_X13_mirrorBest.1.1.1.1.2.1 ?_
  refine V_lets fun s1 => ?_
  refine V_aload_n dec_X13_mirrorBest.1.1.1.1.2.2 0 rfl ?_
  refine V_iload_n dec_X13_mirrorBest.1.1.1.2.1.1 1 rfl ?_
  refine V_callV0 (ci := 13) (a := a0) (As := [(0, a1)]) (st := []) rfl rfl (X13_isDead_s G l s1 a0 a1) cal_X13_isDead rfl ml_X13_348 rfl rfl dec_X13_mirrorBest.1.1.1.2.1.2 (k_tag (tag := 0) rfl fun r2 s3 => ?_)
  refine V_if_ne (tgt := 19) dec_X13_mirrorBest.1.1.1.2.2.1 (by decide) ?_ ?_
  · refine V_aload_n dec_X13_mirrorBest.1.1.2.1.2.2 0 rfl ?_
    refine V_callV0 (ci := 13) (a := a0) (As := []) (st := []) rfl rfl (X13_works_s G l s3 a0) cal_X13_works rfl ml_X13_342 rfl rfl dec_X13_mirrorBest.1.1.2.2.1.1 (k_void rfl fun r4 s5 => ?_)
    refine V_iconst dec_X13_mirrorBest.1.1.2.2.1.2 rfl ?_
    refine V_istore_n (lv' := [(2, (0, 0)), (0, (2, a0)), (1, (0, a1))]) dec_X13_mirrorBest.1.1.2.2.2.1 (by decide) rfl ?_
    refine V_iconst dec_X13_mirrorBest.1.1.2.2.2.2 rfl ?_
    refine V_istore_n (lv' := [(3, (0, (-1))), (2, (0, 0)), (0, (2, a0)), (1, (0, a1))]) dec_X13_mirrorBest.1.2.1.1.1.1 (by decide) rfl ?_
    refine V_iconst dec_X13_mirrorBest.1.2.1.1.1.2 rfl ?_
    refine V_istore (lv' := [(4, (0, 0)), (3, (0, (-1))), (2, (0, 0)), (0, (2, a0)), (1, (0, a1))]) dec_X13_mirrorBest.1.2.1.1.2.1 (by decide) rfl ?_
    exact V_pick [3, 4, 2, 1, 0] rfl (X13_mirrorBest_b30_s G l FU s5 a0 a1 0 (-1) 0)
  · refine V_aload_n dec_X13_mirrorBest.1.1.1.2.2.2 0 rfl ?_
    refine V_iconst dec_X13_mirrorBest.1.1.2.1.1.1 rfl ?_
    refine V_callV0 (ci := 13) (a := a0) (As := [(0, 1)]) (st := []) rfl rfl (X13_refused_s G l s3 a0 1) cal_X13_refused rfl ml_X13_55 rfl rfl dec_X13_mirrorBest.1.1.2.1.1.2 (k_tag (tag := 0) rfl fun r11 s12 => ?_)
    exact V_iret rfl dec_X13_mirrorBest.1.1.2.1.2.1
theorem dec_X13_mirrorFor : (((((decode cX13_mirrorFor 0 = .ok (.aload_n 0, 1) ∧ decode cX13_mirrorFor 1 = .ok (.iconst 0, 1)) ∧ (decode cX13_mirrorFor 2 = .ok (.putfield 49, 3) ∧ (decode cX13_mirrorFor 5 = .ok (.aload_n 0, 1) ∧ decode cX13_mirrorFor 6 = .ok (.aload_n 0, 1)))) ∧ ((decode cX13_mirrorFor 7 = .ok (.iload_n 1, 1) ∧ (decode cX13_mirrorFor 8 = .ok (.invokevirtual 348, 3) ∧ decode cX13_mirrorFor 11 = .ok (.iload_n 2, 1))) ∧ (decode cX13_mirrorFor 12 = .ok (.invokevirtual 354, 3) ∧ (decode cX13_mirrorFor 15 = .ok (.istore_n 3, 1) ∧ decode cX13_mirrorFor 16 = .ok (.iload_n 3, 1))))) ∧ (((decode cX13_mirrorFor 17 = .ok (.ifCond .le 9, 3) ∧ (decode cX13_mirrorFor 20 = .ok (.aload_n 0, 1) ∧ decode cX13_mirrorFor 21 = .ok (.iload_n 3, 1))) ∧ (decode cX13_mirrorFor 22 = .ok (.invokevirtual 55, 3) ∧ (decode cX13_mirrorFor 25 = .ok (.ireturn, 1) ∧ decode cX13_mirrorFor 26 = .ok (.aload_n 0, 1)))) ∧ ((decode cX13_mirrorFor 27 = .ok (.invokevirtual 342, 3) ∧ (decode cX13_mirrorFor 30 = .ok (.iconst 0, 1) ∧ decode cX13_mirrorFor 31 = .ok (.istore 4, 2))) ∧ (decode cX13_mirrorFor 33 = .ok (.iload 4, 2) ∧ (decode cX13_mirrorFor 35 = .ok (.aload_n 0, 1) ∧ decode cX13_mirrorFor 36 = .ok (.getfield 303, 3)))))) ∧ ((((decode cX13_mirrorFor 39 = .ok (.getfield 159, 3) ∧ (decode cX13_mirrorFor 42 = .ok (.if_icmp .ge 36, 3) ∧ decode cX13_mirrorFor 45 = .ok (.aload_n 0, 1))) ∧ (decode cX13_mirrorFor 46 = .ok (.getfield 21, 3) ∧ (decode cX13_mirrorFor 49 = .ok (.bipush 12, 2) ∧ decode cX13_mirrorFor 51 = .ok (.iload_n 1, 1)))) ∧ ((decode cX13_mirrorFor 52 = .ok (.iadd, 1) ∧ (decode cX13_mirrorFor 53 = .ok (.iload 4, 2) ∧ decode cX13_mirrorFor 55 = .ok (.iastore, 1))) ∧ (decode cX13_mirrorFor 56 = .ok (.aload_n 0, 1) ∧ (decode cX13_mirrorFor 57 = .ok (.iload_n 1, 1) ∧ decode cX13_mirrorFor 58 = .ok (.iload_n 2, 1))))) ∧ (((decode cX13_mirrorFor 59 = .ok (.invokevirtual 336, 3) ∧ (decode cX13_mirrorFor 62 = .ok (.ifCond .eq 10, 3) ∧ decode cX13_mirrorFor 65 = .ok (.aload_n 0, 1))) ∧ (decode cX13_mirrorFor 66 = .ok (.iload 4, 2) ∧ (decode cX13_mirrorFor 68 = .ok (.invokevirtual 59, 3) ∧ decode cX13_mirrorFor 71 = .ok (.ireturn, 1)))) ∧ ((decode cX13_mirrorFor 72 = .ok (.iinc 4 1, 3) ∧ (decode cX13_mirrorFor 75 = .ok (.goto (-42), 3) ∧ decode cX13_mirrorFor 78 = .ok (.aload_n 0, 1))) ∧ (decode cX13_mirrorFor 79 = .ok (.bipush (-2), 2) ∧ (decode cX13_mirrorFor 81 = .ok (.invokevirtual 59, 3) ∧ decode cX13_mirrorFor 84 = .ok (.ireturn, 1))))))) := ⟨⟨by decide +kernel, by decide +kernel⟩, ⟨by decide +kernel, by decide +kernel⟩⟩
def X13_mirrorFor_b33_body (rk33 : St → Int → Int → Int → Int → Rs) (s : St) (x0 x1 x2 x4 : Int) : Rs :=
  grd (isK s 23 x0) (grd (isK s 22 (gR s x0 3)) (if (gI s (gR s x0 3) 0) ≤ x4 then (grd (isK s 23 x0) (bnd (X13_good s x0 (-2)) (fun r8 s9 => some (r8, s9)))) else (grd (isK s 23 x0) (grd (isK s 1 (gR s x0 16) ∧ 0 ≤ (w32 (12 + x1)) ∧ (w32 (12 + x1)) < ln s (gR s x0 16)) (lets (pI s (gR s x0 16) (w32 (12 + x1)).toNat x4) (fun s10 => grd (isK s10 23 x0) (bnd (X13_isRight s10 x0 x1 x2) (fun r11 s12 => if r11 = 0 then (rk33 s12 x0 x1 x2 (w32 (x4 + 1))) else (grd (isK s12 23 x0) (bnd (X13_good s12 x0 x4) (fun r13 s14 => some (r13, s14))))))))))))
def X13_mirrorFor_b33 (n : Nat) (s : St) (x0 x1 x2 x4 : Int) : Rs := iter (fun (rec : St × Int × Int × Int × Int → Rs) (a : St × Int × Int × Int × Int) => X13_mirrorFor_b33_body (fun (s : St) (x0 x1 x2 x4 : Int) => rec (s, x0, x1, x2, x4)) a.1 a.2.1 a.2.2.1 a.2.2.2.1 a.2.2.2.2) n (s, x0, x1, x2, x4)
theorem X13_mirrorFor_b33_0 (s : St) (x0 x1 x2 x4 : Int) : X13_mirrorFor_b33 0 s x0 x1 x2 x4 = none := rfl
theorem X13_mirrorFor_b33_1 (n : Nat) (s : St) (x0 x1 x2 x4 : Int) : X13_mirrorFor_b33 (n + 1) s x0 x1 x2 x4 = X13_mirrorFor_b33_body (X13_mirrorFor_b33 n) s x0 x1 x2 x4 := rfl
set_option maxRecDepth 100000 in
set_option maxHeartbeats 4000000 in
theorem X13_mirrorFor_b33_body_s (G : Gx) (l : Launch) (rk33 : St → Int → Int → Int → Int → Rs) (hk33 : ∀ (s : St) (x0 x1 x2 x4 : Int), V G l mX13_mirrorFor 33 [(0, (2, x0)), (1, (0, x1)), (2, (0, x2)), (4, (0, x4))] [] s (rk33 s x0 x1 x2 x4)) (s : St) (x0 x1 x2 x4 : Int) : V G l mX13_mirrorFor 33 [(0, (2, x0)), (1, (0, x1)), (2, (0, x2)), (4, (0, x4))] [] s (X13_mirrorFor_b33_body rk33 s x0 x1 x2 x4) := by
  unfold X13_mirrorFor_b33_body
  refine V_iload dec_X13_mirrorFor.1.2.2.2.1 3 rfl ?_
  refine V_aload_n dec_X13_mirrorFor.1.2.2.2.2.1 0 rfl ?_
  refine V_getR 13 3 nf_13_3 ft_13_3 fl_X13_303 dec_X13_mirrorFor.1.2.2.2.2.2 ?_
  refine V_getIN RX13 12 0 nf_12_0 ft_12_0 fl_X13_159 dec_X13_mirrorFor.2.1.1.1.1 ?_
  refine V_icmp_ge (tgt := 78) dec_X13_mirrorFor.2.1.1.1.2.1 (by decide) ?_ ?_
  · refine V_aload_n dec_X13_mirrorFor.2.2.2.1.2.2 0 rfl ?_
    refine V_bipush dec_X13_mirrorFor.2.2.2.2.1 rfl ?_
    refine V_callV0 (ci := 13) (a := x0) (As := [(0, (-2))]) (st := []) rfl rfl (X13_good_s G l s x0 (-2)) cal_X13_good rfl ml_X13_59 rfl rfl dec_X13_mirrorFor.2.2.2.2.2.1 (k_tag (tag := 0) rfl fun r8 s9 => ?_)
    exact V_iret rfl dec_X13_mirrorFor.2.2.2.2.2.2
  · refine V_aload_n dec_X13_mirrorFor.2.1.1.1.2.2 0 rfl ?_
    refine V_getR 13 16 nf_13_16 ft_13_16 fl_X13_21 dec_X13_mirrorFor.2.1.1.2.1 ?_
    refine V_bipush dec_X13_mirrorFor.2.1.1.2.2.1 rfl ?_
    refine V_iload_n dec_X13_mirrorFor.2.1.1.2.2.2 1 rfl ?_
    refine V_iadd dec_X13_mirrorFor.2.1.2.1.1 ?_
    refine V_iload dec_X13_mirrorFor.2.1.2.1.2.1 3 rfl ?_
    refine V_iast dec_X13_mirrorFor.2.1.2.1.2.2 ?_
    refine V_lets fun s10 => ?_
    refine V_aload_n dec_X13_mirrorFor.2.1.2.2.1 0 rfl ?_
    refine V_iload_n dec_X13_mirrorFor.2.1.2.2.2.1 1 rfl ?_
    refine V_iload_n dec_X13_mirrorFor.2.1.2.2.2.2 2 rfl ?_
    refine V_callV0 (ci := 13) (a := x0) (As := [(0, x1), (0, x2)]) (st := []) rfl rfl (X13_isRight_s G l s10 x0 x1 x2) cal_X13_isRight rfl ml_X13_336 rfl rfl dec_X13_mirrorFor.2.2.1.1.1 (k_tag (tag := 0) rfl fun r11 s12 => ?_)
    refine V_if_eq (tgt := 72) dec_X13_mirrorFor.2.2.1.1.2.1 (by decide) ?_ ?_
    · refine V_iinc (lv' := [(4, (0, (w32 (x4 + 1)))), (0, (2, x0)), (1, (0, x1)), (2, (0, x2))]) dec_X13_mirrorFor.2.2.2.1.1 3 rfl (by decide) rfl ?_
      refine V_goto (tgt := 33) dec_X13_mirrorFor.2.2.2.1.2.1 (by decide) ?_
      exact V_pick [1, 2, 3, 0] rfl (hk33 s12 x0 x1 x2 (w32 (x4 + 1)))
    · refine V_aload_n dec_X13_mirrorFor.2.2.1.1.2.2 0 rfl ?_
      refine V_iload dec_X13_mirrorFor.2.2.1.2.1 3 rfl ?_
      refine V_callV0 (ci := 13) (a := x0) (As := [(0, x4)]) (st := []) rfl rfl (X13_good_s G l s12 x0 x4) cal_X13_good rfl ml_X13_59 rfl rfl dec_X13_mirrorFor.2.2.1.2.2.1 (k_tag (tag := 0) rfl fun r13 s14 => ?_)
      exact V_iret rfl dec_X13_mirrorFor.2.2.1.2.2.2
theorem X13_mirrorFor_b33_s (G : Gx) (l : Launch) (n : Nat) (s : St) (x0 x1 x2 x4 : Int) : V G l mX13_mirrorFor 33 [(0, (2, x0)), (1, (0, x1)), (2, (0, x2)), (4, (0, x4))] [] s (X13_mirrorFor_b33 n s x0 x1 x2 x4) :=
  V_iter (LV := fun a : St × Int × Int × Int × Int => [(0, (2, a.2.1)), (1, (0, a.2.2.1)), (2, (0, a.2.2.2.1)), (4, (0, a.2.2.2.2))]) (ST := fun a : St × Int × Int × Int × Int => []) (SS := fun a : St × Int × Int × Int × Int => a.1) (fun rec hrec a => X13_mirrorFor_b33_body_s G l (fun (s : St) (x0 x1 x2 x4 : Int) => rec (s, x0, x1, x2, x4)) (fun (s : St) (x0 x1 x2 x4 : Int) => hrec (s, x0, x1, x2, x4)) a.1 a.2.1 a.2.2.1 a.2.2.2.1 a.2.2.2.2) n (s, x0, x1, x2, x4)
def X13_mirrorFor (s : St) (a0 a1 a2 : Int) : Rs :=
  grd (isK s 23 a0) (lets (pI s a0 0 0) (fun s1 => grd (isK s1 23 a0) (bnd (X13_isDead s1 a0 a1) (fun r2 s3 => grd (isK s3 23 a0) (bnd (X13_refusesNight s3 a0 r2 a2) (fun r4 s5 => if r4 ≤ 0 then (grd (isK s5 23 a0) (bnd (X13_works s5 a0) (fun r6 s7 => X13_mirrorFor_b33 FU s7 a0 a1 a2 0))) else (grd (isK s5 23 a0) (bnd (X13_refused s5 a0 r4) (fun r15 s16 => some (r15, s16))))))))))
set_option maxRecDepth 100000 in
set_option maxHeartbeats 4000000 in
theorem X13_mirrorFor_s (G : Gx) (l : Launch) (s : St) (a0 a1 a2 : Int) : Snd G l mX13_mirrorFor [(2, a0), (0, a1), (0, a2)] s (X13_mirrorFor s a0 a1 a2) := by
  refine Snd.of (by decide +kernel) rfl ?_
  show V G l mX13_mirrorFor 0 [(0, (2, a0)), (1, (0, a1)), (2, (0, a2))] [] s _
  unfold X13_mirrorFor
  refine V_aload_n dec_X13_mirrorFor.1.1.1.1.1 0 rfl ?_
  refine V_iconst dec_X13_mirrorFor.1.1.1.1.2 rfl ?_
  refine V_putI (host := "") 13 0 nf_13_0 ty_13_0 (Or.inl ⟨fl_X13_49, Or.inl rfl⟩) dec_X13_mirrorFor.1.1.1.2.1 ?_
  refine V_lets fun s1 => ?_
  refine V_aload_n dec_X13_mirrorFor.1.1.1.2.2.1 0 rfl ?_
  refine V_aload_n dec_X13_mirrorFor.1.1.1.2.2.2 0 rfl ?_
  refine V_iload_n dec_X13_mirrorFor.1.1.2.1.1 1 rfl ?_
  refine V_callV0 (ci := 13) (a := a0) (As := [(0, a1)]) (st := [(2, a0)]) rfl rfl (X13_isDead_s G l s1 a0 a1) cal_X13_isDead rfl ml_X13_348 rfl rfl dec_X13_mirrorFor.1.1.2.1.2.1 (k_tag (tag := 0) rfl fun r2 s3 => ?_)
  refine V_iload_n dec_X13_mirrorFor.1.1.2.1.2.2 2 rfl ?_
  refine V_callV0 (ci := 13) (a := a0) (As := [(0, r2), (0, a2)]) (st := []) rfl rfl (X13_refusesNight_s G l s3 a0 r2 a2) cal_X13_refusesNight rfl ml_X13_354 rfl rfl dec_X13_mirrorFor.1.1.2.2.1 (k_tag (tag := 0) rfl fun r4 s5 => ?_)
  refine V_istore_n (lv' := [(3, (0, r4)), (0, (2, a0)), (1, (0, a1)), (2, (0, a2))]) dec_X13_mirrorFor.1.1.2.2.2.1 (by decide) rfl ?_
  refine V_iload_n dec_X13_mirrorFor.1.1.2.2.2.2 0 rfl ?_
  refine V_if_le (tgt := 26) dec_X13_mirrorFor.1.2.1.1.1 (by decide) ?_ ?_
  · refine V_aload_n dec_X13_mirrorFor.1.2.1.2.2.2 1 rfl ?_
    refine V_callV0 (ci := 13) (a := a0) (As := []) (st := []) rfl rfl (X13_works_s G l s5 a0) cal_X13_works rfl ml_X13_342 rfl rfl dec_X13_mirrorFor.1.2.2.1.1 (k_void rfl fun r6 s7 => ?_)
    refine V_iconst dec_X13_mirrorFor.1.2.2.1.2.1 rfl ?_
    refine V_istore (lv' := [(4, (0, 0)), (3, (0, r4)), (0, (2, a0)), (1, (0, a1)), (2, (0, a2))]) dec_X13_mirrorFor.1.2.2.1.2.2 (by decide) rfl ?_
    exact V_pick [2, 3, 4, 0] rfl (X13_mirrorFor_b33_s G l FU s7 a0 a1 a2 0)
  · refine V_aload_n dec_X13_mirrorFor.1.2.1.1.2.1 1 rfl ?_
    refine V_iload_n dec_X13_mirrorFor.1.2.1.1.2.2 0 rfl ?_
    refine V_callV0 (ci := 13) (a := a0) (As := [(0, r4)]) (st := []) rfl rfl (X13_refused_s G l s5 a0 r4) cal_X13_refused rfl ml_X13_55 rfl rfl dec_X13_mirrorFor.1.2.1.2.1 (k_tag (tag := 0) rfl fun r15 s16 => ?_)
    exact V_iret rfl dec_X13_mirrorFor.1.2.1.2.2.1
theorem dec_X13_mirrorsNow : ((((decode cX13_mirrorsNow 0 = .ok (.iconst 0, 1) ∧ (decode cX13_mirrorsNow 1 = .ok (.istore_n 1, 1) ∧ decode cX13_mirrorsNow 2 = .ok (.iconst 0, 1))) ∧ (decode cX13_mirrorsNow 3 = .ok (.istore_n 2, 1) ∧ (decode cX13_mirrorsNow 4 = .ok (.iload_n 2, 1) ∧ decode cX13_mirrorsNow 5 = .ok (.aload_n 0, 1)))) ∧ ((decode cX13_mirrorsNow 6 = .ok (.getfield 303, 3) ∧ (decode cX13_mirrorsNow 9 = .ok (.getfield 241, 3) ∧ decode cX13_mirrorsNow 12 = .ok (.if_icmp .ge 31, 3))) ∧ ((decode cX13_mirrorsNow 15 = .ok (.iload_n 1, 1) ∧ decode cX13_mirrorsNow 16 = .ok (.aload_n 0, 1)) ∧ (decode cX13_mirrorsNow 17 = .ok (.getfield 17, 3) ∧ decode cX13_mirrorsNow 20 = .ok (.bipush 12, 2))))) ∧ (((decode cX13_mirrorsNow 22 = .ok (.iload_n 2, 1) ∧ (decode cX13_mirrorsNow 23 = .ok (.iadd, 1) ∧ decode cX13_mirrorsNow 24 = .ok (.iaload, 1))) ∧ ((decode cX13_mirrorsNow 25 = .ok (.bipush (-2), 2) ∧ decode cX13_mirrorsNow 27 = .ok (.if_icmp .ne 7, 3)) ∧ (decode cX13_mirrorsNow 30 = .ok (.iconst 0, 1) ∧ decode cX13_mirrorsNow 31 = .ok (.goto 4, 3)))) ∧ ((decode cX13_mirrorsNow 34 = .ok (.iconst 1, 1) ∧ (decode cX13_mirrorsNow 35 = .ok (.iadd, 1) ∧ decode cX13_mirrorsNow 36 = .ok (.istore_n 1, 1))) ∧ ((decode cX13_mirrorsNow 37 = .ok (.iinc 2 1, 3) ∧ decode cX13_mirrorsNow 40 = .ok (.goto (-36), 3)) ∧ (decode cX13_mirrorsNow 43 = .ok (.iload_n 1, 1) ∧ decode cX13_mirrorsNow 44 = .ok (.ireturn, 1)))))) := ⟨⟨by decide +kernel, by decide +kernel⟩, ⟨by decide +kernel, by decide +kernel⟩⟩
def X13_mirrorsNow_b35 (rk4 : St → Int → Int → Int → Rs) (s : St) (x0 x2 k0 k1 : Int) : Rs :=
  rk4 s x0 (w32 (k1 + k0)) (w32 (x2 + 1))
set_option maxRecDepth 100000 in
set_option maxHeartbeats 4000000 in
theorem X13_mirrorsNow_b35_s (G : Gx) (l : Launch) (rk4 : St → Int → Int → Int → Rs) (hk4 : ∀ (s : St) (x0 x1 x2 : Int), V G l mX13_mirrorsNow 4 [(0, (2, x0)), (1, (0, x1)), (2, (0, x2))] [] s (rk4 s x0 x1 x2)) (s : St) (x0 x2 k0 k1 : Int) : V G l mX13_mirrorsNow 35 [(0, (2, x0)), (2, (0, x2))] [(0, k0), (0, k1)] s (X13_mirrorsNow_b35 rk4 s x0 x2 k0 k1) := by
  unfold X13_mirrorsNow_b35
  refine V_iadd dec_X13_mirrorsNow.2.2.1.2.1 ?_
  refine V_istore_n (lv' := [(1, (0, (w32 (k1 + k0)))), (0, (2, x0)), (2, (0, x2))]) dec_X13_mirrorsNow.2.2.1.2.2 (by decide) rfl ?_
  refine V_iinc (lv' := [(2, (0, (w32 (x2 + 1)))), (1, (0, (w32 (k1 + k0)))), (0, (2, x0))]) dec_X13_mirrorsNow.2.2.2.1.1 2 rfl (by decide) rfl ?_
  refine V_goto (tgt := 4) dec_X13_mirrorsNow.2.2.2.1.2 (by decide) ?_
  exact V_pick [2, 1, 0] rfl (hk4 s x0 (w32 (k1 + k0)) (w32 (x2 + 1)))
def X13_mirrorsNow_b4_body (rk4 : St → Int → Int → Int → Rs) (s : St) (x0 x1 x2 : Int) : Rs :=
  grd (isK s 23 x0) (grd (isK s 22 (gR s x0 3)) (if (gI s (gR s x0 3) 3) ≤ x2 then (some (x1, s)) else (grd (isK s 23 x0) (grd (isK s 1 (gR s x0 15) ∧ 0 ≤ (w32 (12 + x2)) ∧ (w32 (12 + x2)) < ln s (gR s x0 15)) (if ¬ (gI s (gR s x0 15) (w32 (12 + x2)).toNat) = ((-2) : Int) then (X13_mirrorsNow_b35 rk4 s x0 x2 1 x1) else (X13_mirrorsNow_b35 rk4 s x0 x2 0 x1))))))
def X13_mirrorsNow_b4 (n : Nat) (s : St) (x0 x1 x2 : Int) : Rs := iter (fun (rec : St × Int × Int × Int → Rs) (a : St × Int × Int × Int) => X13_mirrorsNow_b4_body (fun (s : St) (x0 x1 x2 : Int) => rec (s, x0, x1, x2)) a.1 a.2.1 a.2.2.1 a.2.2.2) n (s, x0, x1, x2)
theorem X13_mirrorsNow_b4_0 (s : St) (x0 x1 x2 : Int) : X13_mirrorsNow_b4 0 s x0 x1 x2 = none := rfl
theorem X13_mirrorsNow_b4_1 (n : Nat) (s : St) (x0 x1 x2 : Int) : X13_mirrorsNow_b4 (n + 1) s x0 x1 x2 = X13_mirrorsNow_b4_body (X13_mirrorsNow_b4 n) s x0 x1 x2 := rfl
set_option maxRecDepth 100000 in
set_option maxHeartbeats 4000000 in
theorem X13_mirrorsNow_b4_body_s (G : Gx) (l : Launch) (rk4 : St → Int → Int → Int → Rs) (hk4 : ∀ (s : St) (x0 x1 x2 : Int), V G l mX13_mirrorsNow 4 [(0, (2, x0)), (1, (0, x1)), (2, (0, x2))] [] s (rk4 s x0 x1 x2)) (s : St) (x0 x1 x2 : Int) : V G l mX13_mirrorsNow 4 [(0, (2, x0)), (1, (0, x1)), (2, (0, x2))] [] s (X13_mirrorsNow_b4_body rk4 s x0 x1 x2) := by
  unfold X13_mirrorsNow_b4_body
  refine V_iload_n dec_X13_mirrorsNow.1.1.2.2.1 2 rfl ?_
  refine V_aload_n dec_X13_mirrorsNow.1.1.2.2.2 0 rfl ?_
  refine V_getR 13 3 nf_13_3 ft_13_3 fl_X13_303 dec_X13_mirrorsNow.1.2.1.1 ?_
  refine V_getIN RX13 12 3 nf_12_3 ft_12_3 fl_X13_241 dec_X13_mirrorsNow.1.2.1.2.1 ?_
  refine V_icmp_ge (tgt := 43) dec_X13_mirrorsNow.1.2.1.2.2 (by decide) ?_ ?_
  · refine V_iload_n dec_X13_mirrorsNow.2.2.2.2.1 1 rfl ?_
    exact V_iret rfl dec_X13_mirrorsNow.2.2.2.2.2
  · refine V_iload_n dec_X13_mirrorsNow.1.2.2.1.1 1 rfl ?_
    refine V_aload_n dec_X13_mirrorsNow.1.2.2.1.2 0 rfl ?_
    refine V_getR 13 15 nf_13_15 ft_13_15 fl_X13_17 dec_X13_mirrorsNow.1.2.2.2.1 ?_
    refine V_bipush dec_X13_mirrorsNow.1.2.2.2.2 rfl ?_
    refine V_iload_n dec_X13_mirrorsNow.2.1.1.1 2 rfl ?_
    refine V_iadd dec_X13_mirrorsNow.2.1.1.2.1 ?_
    refine V_iald dec_X13_mirrorsNow.2.1.1.2.2 ?_
    refine V_bipush dec_X13_mirrorsNow.2.1.2.1.1 rfl ?_
    refine V_icmp_ne (tgt := 34) dec_X13_mirrorsNow.2.1.2.1.2 (by decide) ?_ ?_
    · refine V_iconst dec_X13_mirrorsNow.2.2.1.1 rfl ?_
      exact V_pick [0, 2] rfl (X13_mirrorsNow_b35_s G l rk4 hk4 s x0 x2 1 x1)
    · refine V_iconst dec_X13_mirrorsNow.2.1.2.2.1 rfl ?_
      refine V_goto (tgt := 35) dec_X13_mirrorsNow.2.1.2.2.2 (by decide) ?_
      exact V_pick [0, 2] rfl (X13_mirrorsNow_b35_s G l rk4 hk4 s x0 x2 0 x1)
theorem X13_mirrorsNow_b4_s (G : Gx) (l : Launch) (n : Nat) (s : St) (x0 x1 x2 : Int) : V G l mX13_mirrorsNow 4 [(0, (2, x0)), (1, (0, x1)), (2, (0, x2))] [] s (X13_mirrorsNow_b4 n s x0 x1 x2) :=
  V_iter (LV := fun a : St × Int × Int × Int => [(0, (2, a.2.1)), (1, (0, a.2.2.1)), (2, (0, a.2.2.2))]) (ST := fun a : St × Int × Int × Int => []) (SS := fun a : St × Int × Int × Int => a.1) (fun rec hrec a => X13_mirrorsNow_b4_body_s G l (fun (s : St) (x0 x1 x2 : Int) => rec (s, x0, x1, x2)) (fun (s : St) (x0 x1 x2 : Int) => hrec (s, x0, x1, x2)) a.1 a.2.1 a.2.2.1 a.2.2.2) n (s, x0, x1, x2)
def X13_mirrorsNow (s : St) (a0 : Int) : Rs :=
  X13_mirrorsNow_b4 FU s a0 0 0
set_option maxRecDepth 100000 in
set_option maxHeartbeats 4000000 in
theorem X13_mirrorsNow_s (G : Gx) (l : Launch) (s : St) (a0 : Int) : Snd G l mX13_mirrorsNow [(2, a0)] s (X13_mirrorsNow s a0) := by
  refine Snd.of (by decide +kernel) rfl ?_
  show V G l mX13_mirrorsNow 0 [(0, (2, a0))] [] s _
  unfold X13_mirrorsNow
  refine V_iconst dec_X13_mirrorsNow.1.1.1.1 rfl ?_
  refine V_istore_n (lv' := [(1, (0, 0)), (0, (2, a0))]) dec_X13_mirrorsNow.1.1.1.2.1 (by decide) rfl ?_
  refine V_iconst dec_X13_mirrorsNow.1.1.1.2.2 rfl ?_
  refine V_istore_n (lv' := [(2, (0, 0)), (1, (0, 0)), (0, (2, a0))]) dec_X13_mirrorsNow.1.1.2.1 (by decide) rfl ?_
  exact V_pick [2, 1, 0] rfl (X13_mirrorsNow_b4_s G l FU s a0 0 0)
theorem dec_X13_most : ((((((decode cX13_most 0 = .ok (.aload_n 0, 1) ∧ (decode cX13_most 1 = .ok (.iconst 0, 1) ∧ decode cX13_most 2 = .ok (.putfield 49, 3))) ∧ ((decode cX13_most 5 = .ok (.aload_n 0, 1) ∧ decode cX13_most 6 = .ok (.getfield 303, 3)) ∧ (decode cX13_most 9 = .ok (.ifnonnull 10, 3) ∧ decode cX13_most 12 = .ok (.aload_n 0, 1)))) ∧ (((decode cX13_most 13 = .ok (.iconst 1, 1) ∧ decode cX13_most 14 = .ok (.invokevirtual 55, 3)) ∧ (decode cX13_most 17 = .ok (.i2l, 1) ∧ decode cX13_most 18 = .ok (.lreturn, 1))) ∧ ((decode cX13_most 19 = .ok (.iload_n 1, 1) ∧ decode cX13_most 20 = .ok (.iconst 0, 1)) ∧ (decode cX13_most 21 = .ok (.bipush 6, 2) ∧ decode cX13_most 23 = .ok (.invokestatic 128, 3))))) ∧ ((((decode cX13_most 26 = .ok (.ifCond .eq 13, 3) ∧ decode cX13_most 29 = .ok (.iload_n 2, 1)) ∧ (decode cX13_most 30 = .ok (.iconst 0, 1) ∧ decode cX13_most 31 = .ok (.bipush 99, 2))) ∧ ((decode cX13_most 33 = .ok (.invokestatic 128, 3) ∧ decode cX13_most 36 = .ok (.ifCond .ne 10, 3)) ∧ (decode cX13_most 39 = .ok (.aload_n 0, 1) ∧ decode cX13_most 40 = .ok (.iconst 2, 1)))) ∧ (((decode cX13_most 41 = .ok (.invokevirtual 55, 3) ∧ decode cX13_most 44 = .ok (.i2l, 1)) ∧ (decode cX13_most 45 = .ok (.lreturn, 1) ∧ decode cX13_most 46 = .ok (.aload_n 0, 1))) ∧ ((decode cX13_most 47 = .ok (.invokevirtual 342, 3) ∧ decode cX13_most 50 = .ok (.lconst 1, 1)) ∧ (decode cX13_most 51 = .ok (.lstore 4, 2) ∧ decode cX13_most 53 = .ok (.iconst 0, 1)))))) ∧ ((((decode cX13_most 54 = .ok (.istore 6, 2) ∧ (decode cX13_most 56 = .ok (.iload 6, 2) ∧ decode cX13_most 58 = .ok (.bipush 6, 2))) ∧ ((decode cX13_most 60 = .ok (.if_icmp .gt 26, 3) ∧ decode cX13_most 63 = .ok (.aload_n 0, 1)) ∧ (decode cX13_most 64 = .ok (.getfield 45, 3) ∧ decode cX13_most 67 = .ok (.iload 6, 2)))) ∧ (((decode cX13_most 69 = .ok (.iload 6, 2) ∧ decode cX13_most 71 = .ok (.ifCond .ne 7, 3)) ∧ (decode cX13_most 74 = .ok (.lconst 1, 1) ∧ decode cX13_most 75 = .ok (.goto 4, 3))) ∧ ((decode cX13_most 78 = .ok (.lconst 0, 1) ∧ decode cX13_most 79 = .ok (.lastore, 1)) ∧ (decode cX13_most 80 = .ok (.iinc 6 1, 3) ∧ decode cX13_most 83 = .ok (.goto (-27), 3))))) ∧ ((((decode cX13_most 86 = .ok (.iconst 0, 1) ∧ decode cX13_most 87 = .ok (.istore 6, 2)) ∧ (decode cX13_most 89 = .ok (.iload 6, 2) ∧ decode cX13_most 91 = .ok (.aload_n 0, 1))) ∧ ((decode cX13_most 92 = .ok (.getfield 303, 3) ∧ decode cX13_most 95 = .ok (.getfield 241, 3)) ∧ (decode cX13_most 98 = .ok (.if_icmp .ge 95, 3) ∧ decode cX13_most 101 = .ok (.aload_n 0, 1)))) ∧ (((decode cX13_most 102 = .ok (.aload_n 0, 1) ∧ decode cX13_most 103 = .ok (.getfield 303, 3)) ∧ (decode cX13_most 106 = .ok (.getfield 263, 3) ∧ decode cX13_most 109 = .ok (.iload 6, 2))) ∧ ((decode cX13_most 111 = .ok (.iaload, 1) ∧ decode cX13_most 112 = .ok (.iload 6, 2)) ∧ (decode cX13_most 114 = .ok (.iload_n 2, 1) ∧ decode cX13_most 115 = .ok (.invokevirtual 447, 3))))))) ∧ (((((decode cX13_most 118 = .ok (.istore 7, 2) ∧ (decode cX13_most 120 = .ok (.bipush 6, 2) ∧ decode cX13_most 122 = .ok (.istore 8, 2))) ∧ ((decode cX13_most 124 = .ok (.iload 8, 2) ∧ decode cX13_most 126 = .ok (.ifCond .lt 53, 3)) ∧ (decode cX13_most 129 = .ok (.aload_n 0, 1) ∧ decode cX13_most 130 = .ok (.getfield 45, 3)))) ∧ (((decode cX13_most 133 = .ok (.iload 8, 2) ∧ decode cX13_most 135 = .ok (.aload_n 0, 1)) ∧ (decode cX13_most 136 = .ok (.getfield 45, 3) ∧ decode cX13_most 139 = .ok (.iload 8, 2))) ∧ ((decode cX13_most 141 = .ok (.laload, 1) ∧ decode cX13_most 142 = .ok (.bipush 100, 2)) ∧ (decode cX13_most 144 = .ok (.iload 7, 2) ∧ decode cX13_most 146 = .ok (.isub, 1))))) ∧ ((((decode cX13_most 147 = .ok (.i2l, 1) ∧ decode cX13_most 148 = .ok (.lmul, 1)) ∧ (decode cX13_most 149 = .ok (.iload 8, 2) ∧ decode cX13_most 151 = .ok (.ifCond .le 19, 3))) ∧ ((decode cX13_most 154 = .ok (.aload_n 0, 1) ∧ decode cX13_most 155 = .ok (.getfield 45, 3)) ∧ (decode cX13_most 158 = .ok (.iload 8, 2) ∧ decode cX13_most 160 = .ok (.iconst 1, 1)))) ∧ (((decode cX13_most 161 = .ok (.isub, 1) ∧ decode cX13_most 162 = .ok (.laload, 1)) ∧ (decode cX13_most 163 = .ok (.iload 7, 2) ∧ decode cX13_most 165 = .ok (.i2l, 1))) ∧ ((decode cX13_most 166 = .ok (.lmul, 1) ∧ decode cX13_most 167 = .ok (.goto 4, 3)) ∧ (decode cX13_most 170 = .ok (.lconst 0, 1) ∧ decode cX13_most 171 = .ok (.ladd, 1)))))) ∧ ((((decode cX13_most 172 = .ok (.lastore, 1) ∧ (decode cX13_most 173 = .ok (.iinc 8 (-1), 3) ∧ decode cX13_most 176 = .ok (.goto (-52), 3))) ∧ ((decode cX13_most 179 = .ok (.lload 4, 2) ∧ decode cX13_most 181 = .ok (.ldc2_w 450, 3)) ∧ (decode cX13_most 184 = .ok (.lmul, 1) ∧ decode cX13_most 185 = .ok (.lstore 4, 2)))) ∧ (((decode cX13_most 187 = .ok (.iinc 6 1, 3) ∧ decode cX13_most 190 = .ok (.goto (-101), 3)) ∧ (decode cX13_most 193 = .ok (.lconst 0, 1) ∧ decode cX13_most 194 = .ok (.lstore 6, 2))) ∧ ((decode cX13_most 196 = .ok (.iload_n 1, 1) ∧ decode cX13_most 197 = .ok (.istore 8, 2)) ∧ (decode cX13_most 199 = .ok (.iload 8, 2) ∧ decode cX13_most 201 = .ok (.bipush 6, 2))))) ∧ ((((decode cX13_most 203 = .ok (.if_icmp .gt 21, 3) ∧ decode cX13_most 206 = .ok (.lload 6, 2)) ∧ (decode cX13_most 208 = .ok (.aload_n 0, 1) ∧ decode cX13_most 209 = .ok (.getfield 45, 3))) ∧ ((decode cX13_most 212 = .ok (.iload 8, 2) ∧ decode cX13_most 214 = .ok (.laload, 1)) ∧ (decode cX13_most 215 = .ok (.ladd, 1) ∧ decode cX13_most 216 = .ok (.lstore 6, 2)))) ∧ (((decode cX13_most 218 = .ok (.iinc 8 1, 3) ∧ decode cX13_most 221 = .ok (.goto (-22), 3)) ∧ (decode cX13_most 224 = .ok (.aload_n 0, 1) ∧ decode cX13_most 225 = .ok (.lload 6, 2))) ∧ ((decode cX13_most 227 = .ok (.lload 4, 2) ∧ decode cX13_most 229 = .ok (.iload_n 3, 1)) ∧ (decode cX13_most 230 = .ok (.invokevirtual 452, 3) ∧ decode cX13_most 233 = .ok (.lreturn, 1)))))))) := ⟨⟨⟨⟨by decide +kernel, by decide +kernel⟩, ⟨by decide +kernel, by decide +kernel⟩⟩, ⟨⟨by decide +kernel, by decide +kernel⟩, ⟨by decide +kernel, by decide +kernel⟩⟩⟩, ⟨⟨⟨by decide +kernel, by decide +kernel⟩, ⟨by decide +kernel, by decide +kernel⟩⟩, ⟨⟨by decide +kernel, by decide +kernel⟩, ⟨by decide +kernel, by decide +kernel⟩⟩⟩⟩
def X13_most_b39 (s : St) (x0 : Int) : Rs :=
  grd (isK s 23 x0) (bnd (X13_refused s x0 2) (fun r4 s5 => some (r4, s5)))
set_option maxRecDepth 100000 in
set_option maxHeartbeats 4000000 in
theorem X13_most_b39_s (G : Gx) (l : Launch) (s : St) (x0 : Int) : V G l mX13_most 39 [(0, (2, x0))] [] s (X13_most_b39 s x0) := by
  unfold X13_most_b39
  refine V_aload_n dec_X13_most.1.1.2.1.2.2.1 0 rfl ?_
  refine V_iconst dec_X13_most.1.1.2.1.2.2.2 rfl ?_
  refine V_callV0 (ci := 13) (a := x0) (As := [(0, 2)]) (st := []) rfl rfl (X13_refused_s G l s x0 2) cal_X13_refused rfl ml_X13_55 rfl rfl dec_X13_most.1.1.2.2.1.1.1 (k_tag (tag := 0) rfl fun r4 s5 => ?_)
  refine V_i2l dec_X13_most.1.1.2.2.1.1.2 ?_
  exact V_lret rfl dec_X13_most.1.1.2.2.1.2.1
def X13_most_b199_body (rk199 : St → Int → Int → Int → Int → Int → Rs) (s : St) (x0 x3 x4 x6 x8 : Int) : Rs :=
  if (6 : Int) < x8 then (grd (isK s 23 x0) (bnd (X13_fraction s x0 x6 x4 x3) (fun r10 s11 => some (r10, s11)))) else (grd (isK s 23 x0) (grd (isK s 3 (gR s x0 31) ∧ 0 ≤ x8 ∧ x8 < ln s (gR s x0 31)) (letv (w64 (x6 + (gI s (gR s x0 31) x8.toNat))) (fun y12 => rk199 s x0 x3 x4 y12 (w32 (x8 + 1))))))
def X13_most_b199 (n : Nat) (s : St) (x0 x3 x4 x6 x8 : Int) : Rs := iter (fun (rec : St × Int × Int × Int × Int × Int → Rs) (a : St × Int × Int × Int × Int × Int) => X13_most_b199_body (fun (s : St) (x0 x3 x4 x6 x8 : Int) => rec (s, x0, x3, x4, x6, x8)) a.1 a.2.1 a.2.2.1 a.2.2.2.1 a.2.2.2.2.1 a.2.2.2.2.2) n (s, x0, x3, x4, x6, x8)
theorem X13_most_b199_0 (s : St) (x0 x3 x4 x6 x8 : Int) : X13_most_b199 0 s x0 x3 x4 x6 x8 = none := rfl
theorem X13_most_b199_1 (n : Nat) (s : St) (x0 x3 x4 x6 x8 : Int) : X13_most_b199 (n + 1) s x0 x3 x4 x6 x8 = X13_most_b199_body (X13_most_b199 n) s x0 x3 x4 x6 x8 := rfl
set_option maxRecDepth 100000 in
set_option maxHeartbeats 4000000 in
theorem X13_most_b199_body_s (G : Gx) (l : Launch) (rk199 : St → Int → Int → Int → Int → Int → Rs) (hk199 : ∀ (s : St) (x0 x3 x4 x6 x8 : Int), V G l mX13_most 199 [(0, (2, x0)), (3, (0, x3)), (4, (1, x4)), (6, (1, x6)), (8, (0, x8))] [] s (rk199 s x0 x3 x4 x6 x8)) (s : St) (x0 x3 x4 x6 x8 : Int) : V G l mX13_most 199 [(0, (2, x0)), (3, (0, x3)), (4, (1, x4)), (6, (1, x6)), (8, (0, x8))] [] s (X13_most_b199_body rk199 s x0 x3 x4 x6 x8) := by
  unfold X13_most_b199_body
  refine V_iload dec_X13_most.2.2.1.2.2.2.1 4 rfl ?_
  refine V_bipush dec_X13_most.2.2.1.2.2.2.2 rfl ?_
  refine V_icmp_gt (tgt := 224) dec_X13_most.2.2.2.1.1.1.1 (by decide) ?_ ?_
  · refine V_aload_n dec_X13_most.2.2.2.2.1.2.1 0 rfl ?_
    refine V_lload dec_X13_most.2.2.2.2.1.2.2 3 rfl ?_
    refine V_lload dec_X13_most.2.2.2.2.2.1.1 2 rfl ?_
    refine V_iload_n dec_X13_most.2.2.2.2.2.1.2 1 rfl ?_
    refine V_callV0 (ci := 13) (a := x0) (As := [(1, x6), (1, x4), (0, x3)]) (st := []) rfl rfl (X13_fraction_s G l s x0 x6 x4 x3) cal_X13_fraction rfl ml_X13_452 rfl rfl dec_X13_most.2.2.2.2.2.2.1 (k_tag (tag := 1) rfl fun r10 s11 => ?_)
    exact V_lret rfl dec_X13_most.2.2.2.2.2.2.2
  · refine V_lload dec_X13_most.2.2.2.1.1.1.2 3 rfl ?_
    refine V_aload_n dec_X13_most.2.2.2.1.1.2.1 0 rfl ?_
    refine V_getR 13 31 nf_13_31 ft_13_31 fl_X13_45 dec_X13_most.2.2.2.1.1.2.2 ?_
    refine V_iload dec_X13_most.2.2.2.1.2.1.1 4 rfl ?_
    refine V_lald dec_X13_most.2.2.2.1.2.1.2 ?_
    refine V_ladd dec_X13_most.2.2.2.1.2.2.1 ?_
    refine V_letv fun y12 => ?_
    refine V_lstore (lv' := [(6, (1, y12)), (0, (2, x0)), (3, (0, x3)), (4, (1, x4)), (8, (0, x8))]) dec_X13_most.2.2.2.1.2.2.2 (by decide) rfl ?_
    refine V_iinc (lv' := [(8, (0, (w32 (x8 + 1)))), (6, (1, y12)), (0, (2, x0)), (3, (0, x3)), (4, (1, x4))]) dec_X13_most.2.2.2.2.1.1.1 4 rfl (by decide) rfl ?_
    refine V_goto (tgt := 199) dec_X13_most.2.2.2.2.1.1.2 (by decide) ?_
    exact V_pick [2, 3, 4, 1, 0] rfl (hk199 s x0 x3 x4 y12 (w32 (x8 + 1)))
theorem X13_most_b199_s (G : Gx) (l : Launch) (n : Nat) (s : St) (x0 x3 x4 x6 x8 : Int) : V G l mX13_most 199 [(0, (2, x0)), (3, (0, x3)), (4, (1, x4)), (6, (1, x6)), (8, (0, x8))] [] s (X13_most_b199 n s x0 x3 x4 x6 x8) :=
  V_iter (LV := fun a : St × Int × Int × Int × Int × Int => [(0, (2, a.2.1)), (3, (0, a.2.2.1)), (4, (1, a.2.2.2.1)), (6, (1, a.2.2.2.2.1)), (8, (0, a.2.2.2.2.2))]) (ST := fun a : St × Int × Int × Int × Int × Int => []) (SS := fun a : St × Int × Int × Int × Int × Int => a.1) (fun rec hrec a => X13_most_b199_body_s G l (fun (s : St) (x0 x3 x4 x6 x8 : Int) => rec (s, x0, x3, x4, x6, x8)) (fun (s : St) (x0 x3 x4 x6 x8 : Int) => hrec (s, x0, x3, x4, x6, x8)) a.1 a.2.1 a.2.2.1 a.2.2.2.1 a.2.2.2.2.1 a.2.2.2.2.2) n (s, x0, x3, x4, x6, x8)
def X13_most_b171 (rk89 : St → Int → Int → Int → Int → Int → Int → Rs) (rk124 : St → Int → Int → Int → Int → Int → Int → Int → Int → Rs) (s : St) (x0 x1 x2 x3 x4 x6 x7 x8 k0 k1 k2 k3 : Int) : Rs :=
  grd (isK s 3 k3 ∧ 0 ≤ k2 ∧ k2 < ln s k3) (lets (pI s k3 k2.toNat (w64 (k1 + k0))) (fun s15 => rk124 s15 x0 x1 x2 x3 x4 x6 x7 (w32 (x8 + (-1)))))
set_option maxRecDepth 100000 in
set_option maxHeartbeats 4000000 in
theorem X13_most_b171_s (G : Gx) (l : Launch) (rk89 : St → Int → Int → Int → Int → Int → Int → Rs) (rk124 : St → Int → Int → Int → Int → Int → Int → Int → Int → Rs) (hk89 : ∀ (s : St) (x0 x1 x2 x3 x4 x6 : Int), V G l mX13_most 89 [(0, (2, x0)), (1, (0, x1)), (2, (0, x2)), (3, (0, x3)), (4, (1, x4)), (6, (0, x6))] [] s (rk89 s x0 x1 x2 x3 x4 x6)) (hk124 : ∀ (s : St) (x0 x1 x2 x3 x4 x6 x7 x8 : Int), V G l mX13_most 124 [(0, (2, x0)), (1, (0, x1)), (2, (0, x2)), (3, (0, x3)), (4, (1, x4)), (6, (0, x6)), (7, (0, x7)), (8, (0, x8))] [] s (rk124 s x0 x1 x2 x3 x4 x6 x7 x8)) (s : St) (x0 x1 x2 x3 x4 x6 x7 x8 k0 k1 k2 k3 : Int) : V G l mX13_most 171 [(0, (2, x0)), (1, (0, x1)), (2, (0, x2)), (3, (0, x3)), (4, (1, x4)), (6, (0, x6)), (7, (0, x7)), (8, (0, x8))] [(1, k0), (1, k1), (0, k2), (2, k3)] s (X13_most_b171 rk89 rk124 s x0 x1 x2 x3 x4 x6 x7 x8 k0 k1 k2 k3) := by
  unfold X13_most_b171
  refine V_ladd dec_X13_most.2.1.2.2.2.2.2 ?_
  refine V_last dec_X13_most.2.2.1.1.1.1 ?_
  refine V_lets fun s15 => ?_
  refine V_iinc (lv' := [(8, (0, (w32 (x8 + (-1))))), (0, (2, x0)), (1, (0, x1)), (2, (0, x2)), (3, (0, x3)), (4, (1, x4)), (6, (0, x6)), (7, (0, x7))]) dec_X13_most.2.2.1.1.1.2.1 7 rfl (by decide) rfl ?_
  refine V_goto (tgt := 124) dec_X13_most.2.2.1.1.1.2.2 (by decide) ?_
  exact V_pick [1, 2, 3, 4, 5, 6, 7, 0] rfl (hk124 s15 x0 x1 x2 x3 x4 x6 x7 (w32 (x8 + (-1))))
def X13_most_b124_body (rk89 : St → Int → Int → Int → Int → Int → Int → Rs) (rk124 : St → Int → Int → Int → Int → Int → Int → Int → Int → Rs) (s : St) (x0 x1 x2 x3 x4 x6 x7 x8 : Int) : Rs :=
  if x8 < 0 then (rk89 s x0 x1 x2 x3 (w64 (x4 * 100)) (w32 (x6 + 1))) else (grd (isK s 23 x0) (grd (isK s 23 x0) (grd (isK s 3 (gR s x0 31) ∧ 0 ≤ x8 ∧ x8 < ln s (gR s x0 31)) (if x8 ≤ 0 then (X13_most_b171 rk89 rk124 s x0 x1 x2 x3 x4 x6 x7 x8 0 (w64 ((gI s (gR s x0 31) x8.toNat) * (w32 (100 - x7)))) x8 (gR s x0 31)) else (grd (isK s 23 x0) (grd (isK s 3 (gR s x0 31) ∧ 0 ≤ (w32 (x8 - 1)) ∧ (w32 (x8 - 1)) < ln s (gR s x0 31)) (X13_most_b171 rk89 rk124 s x0 x1 x2 x3 x4 x6 x7 x8 (w64 ((gI s (gR s x0 31) (w32 (x8 - 1)).toNat) * x7)) (w64 ((gI s (gR s x0 31) x8.toNat) * (w32 (100 - x7)))) x8 (gR s x0 31))))))))
def X13_most_b124 (rk89 : St → Int → Int → Int → Int → Int → Int → Rs) (n : Nat) (s : St) (x0 x1 x2 x3 x4 x6 x7 x8 : Int) : Rs := iter (fun (rec : St × Int × Int × Int × Int × Int × Int × Int × Int → Rs) (a : St × Int × Int × Int × Int × Int × Int × Int × Int) => X13_most_b124_body rk89 (fun (s : St) (x0 x1 x2 x3 x4 x6 x7 x8 : Int) => rec (s, x0, x1, x2, x3, x4, x6, x7, x8)) a.1 a.2.1 a.2.2.1 a.2.2.2.1 a.2.2.2.2.1 a.2.2.2.2.2.1 a.2.2.2.2.2.2.1 a.2.2.2.2.2.2.2.1 a.2.2.2.2.2.2.2.2) n (s, x0, x1, x2, x3, x4, x6, x7, x8)
theorem X13_most_b124_0 (rk89 : St → Int → Int → Int → Int → Int → Int → Rs) (s : St) (x0 x1 x2 x3 x4 x6 x7 x8 : Int) : X13_most_b124 rk89 0 s x0 x1 x2 x3 x4 x6 x7 x8 = none := rfl
theorem X13_most_b124_1 (rk89 : St → Int → Int → Int → Int → Int → Int → Rs) (n : Nat) (s : St) (x0 x1 x2 x3 x4 x6 x7 x8 : Int) : X13_most_b124 rk89 (n + 1) s x0 x1 x2 x3 x4 x6 x7 x8 = X13_most_b124_body rk89 (X13_most_b124 rk89 n) s x0 x1 x2 x3 x4 x6 x7 x8 := rfl
set_option maxRecDepth 100000 in
set_option maxHeartbeats 4000000 in
theorem X13_most_b124_body_s (G : Gx) (l : Launch) (rk89 : St → Int → Int → Int → Int → Int → Int → Rs) (rk124 : St → Int → Int → Int → Int → Int → Int → Int → Int → Rs) (hk89 : ∀ (s : St) (x0 x1 x2 x3 x4 x6 : Int), V G l mX13_most 89 [(0, (2, x0)), (1, (0, x1)), (2, (0, x2)), (3, (0, x3)), (4, (1, x4)), (6, (0, x6))] [] s (rk89 s x0 x1 x2 x3 x4 x6)) (hk124 : ∀ (s : St) (x0 x1 x2 x3 x4 x6 x7 x8 : Int), V G l mX13_most 124 [(0, (2, x0)), (1, (0, x1)), (2, (0, x2)), (3, (0, x3)), (4, (1, x4)), (6, (0, x6)), (7, (0, x7)), (8, (0, x8))] [] s (rk124 s x0 x1 x2 x3 x4 x6 x7 x8)) (s : St) (x0 x1 x2 x3 x4 x6 x7 x8 : Int) : V G l mX13_most 124 [(0, (2, x0)), (1, (0, x1)), (2, (0, x2)), (3, (0, x3)), (4, (1, x4)), (6, (0, x6)), (7, (0, x7)), (8, (0, x8))] [] s (X13_most_b124_body rk89 rk124 s x0 x1 x2 x3 x4 x6 x7 x8) := by
  unfold X13_most_b124_body
  refine V_iload dec_X13_most.2.1.1.1.2.1.1 7 rfl ?_
  refine V_if_lt (tgt := 179) dec_X13_most.2.1.1.1.2.1.2 (by decide) ?_ ?_
  · refine V_lload dec_X13_most.2.2.1.1.2.1.1 4 rfl ?_
    refine V_ldc2 (n := 100) cw_X13_450 (by decide) dec_X13_most.2.2.1.1.2.1.2 ?_
    refine V_lmul dec_X13_most.2.2.1.1.2.2.1 ?_
    refine V_lstore (lv' := [(4, (1, (w64 (x4 * 100)))), (0, (2, x0)), (1, (0, x1)), (2, (0, x2)), (3, (0, x3)), (6, (0, x6)), (7, (0, x7)), (8, (0, x8))]) dec_X13_most.2.2.1.1.2.2.2 (by decide) rfl ?_
    refine V_iinc (lv' := [(6, (0, (w32 (x6 + 1)))), (4, (1, (w64 (x4 * 100)))), (0, (2, x0)), (1, (0, x1)), (2, (0, x2)), (3, (0, x3)), (7, (0, x7)), (8, (0, x8))]) dec_X13_most.2.2.1.2.1.1.1 5 rfl (by decide) rfl ?_
    refine V_goto (tgt := 89) dec_X13_most.2.2.1.2.1.1.2 (by decide) ?_
    exact V_pick [2, 3, 4, 5, 1, 0] rfl (hk89 s x0 x1 x2 x3 (w64 (x4 * 100)) (w32 (x6 + 1)))
  · refine V_aload_n dec_X13_most.2.1.1.1.2.2.1 0 rfl ?_
    refine V_getR 13 31 nf_13_31 ft_13_31 fl_X13_45 dec_X13_most.2.1.1.1.2.2.2 ?_
    refine V_iload dec_X13_most.2.1.1.2.1.1.1 7 rfl ?_
    refine V_aload_n dec_X13_most.2.1.1.2.1.1.2 0 rfl ?_
    refine V_getR 13 31 nf_13_31 ft_13_31 fl_X13_45 dec_X13_most.2.1.1.2.1.2.1 ?_
    refine V_iload dec_X13_most.2.1.1.2.1.2.2 7 rfl ?_
    refine V_lald dec_X13_most.2.1.1.2.2.1.1 ?_
    refine V_bipush dec_X13_most.2.1.1.2.2.1.2 rfl ?_
    refine V_iload dec_X13_most.2.1.1.2.2.2.1 6 rfl ?_
    refine V_isub dec_X13_most.2.1.1.2.2.2.2 ?_
    refine V_i2l dec_X13_most.2.1.2.1.1.1.1 ?_
    refine V_lmul dec_X13_most.2.1.2.1.1.1.2 ?_
    refine V_iload dec_X13_most.2.1.2.1.1.2.1 7 rfl ?_
    refine V_if_le (tgt := 170) dec_X13_most.2.1.2.1.1.2.2 (by decide) ?_ ?_
    · refine V_lconst (n := 0) dec_X13_most.2.1.2.2.2.2.1 (by decide) ?_
      exact V_pick [0, 1, 2, 3, 4, 5, 6, 7] rfl (X13_most_b171_s G l rk89 rk124 hk89 hk124 s x0 x1 x2 x3 x4 x6 x7 x8 0 (w64 ((gI s (gR s x0 31) x8.toNat) * (w32 (100 - x7)))) x8 (gR s x0 31))
    · refine V_aload_n dec_X13_most.2.1.2.1.2.1.1 0 rfl ?_
      refine V_getR 13 31 nf_13_31 ft_13_31 fl_X13_45 dec_X13_most.2.1.2.1.2.1.2 ?_
      refine V_iload dec_X13_most.2.1.2.1.2.2.1 7 rfl ?_
      refine V_iconst dec_X13_most.2.1.2.1.2.2.2 rfl ?_
      refine V_isub dec_X13_most.2.1.2.2.1.1.1 ?_
      refine V_lald dec_X13_most.2.1.2.2.1.1.2 ?_
      refine V_iload dec_X13_most.2.1.2.2.1.2.1 6 rfl ?_
      refine V_i2l dec_X13_most.2.1.2.2.1.2.2 ?_
      refine V_lmul dec_X13_most.2.1.2.2.2.1.1 ?_
      refine V_goto (tgt := 171) dec_X13_most.2.1.2.2.2.1.2 (by decide) ?_
      exact V_pick [0, 1, 2, 3, 4, 5, 6, 7] rfl (X13_most_b171_s G l rk89 rk124 hk89 hk124 s x0 x1 x2 x3 x4 x6 x7 x8 (w64 ((gI s (gR s x0 31) (w32 (x8 - 1)).toNat) * x7)) (w64 ((gI s (gR s x0 31) x8.toNat) * (w32 (100 - x7)))) x8 (gR s x0 31))
theorem X13_most_b124_s (G : Gx) (l : Launch) (rk89 : St → Int → Int → Int → Int → Int → Int → Rs) (hk89 : ∀ (s : St) (x0 x1 x2 x3 x4 x6 : Int), V G l mX13_most 89 [(0, (2, x0)), (1, (0, x1)), (2, (0, x2)), (3, (0, x3)), (4, (1, x4)), (6, (0, x6))] [] s (rk89 s x0 x1 x2 x3 x4 x6)) (n : Nat) (s : St) (x0 x1 x2 x3 x4 x6 x7 x8 : Int) : V G l mX13_most 124 [(0, (2, x0)), (1, (0, x1)), (2, (0, x2)), (3, (0, x3)), (4, (1, x4)), (6, (0, x6)), (7, (0, x7)), (8, (0, x8))] [] s (X13_most_b124 rk89 n s x0 x1 x2 x3 x4 x6 x7 x8) :=
  V_iter (LV := fun a : St × Int × Int × Int × Int × Int × Int × Int × Int => [(0, (2, a.2.1)), (1, (0, a.2.2.1)), (2, (0, a.2.2.2.1)), (3, (0, a.2.2.2.2.1)), (4, (1, a.2.2.2.2.2.1)), (6, (0, a.2.2.2.2.2.2.1)), (7, (0, a.2.2.2.2.2.2.2.1)), (8, (0, a.2.2.2.2.2.2.2.2))]) (ST := fun a : St × Int × Int × Int × Int × Int × Int × Int × Int => []) (SS := fun a : St × Int × Int × Int × Int × Int × Int × Int × Int => a.1) (fun rec hrec a => X13_most_b124_body_s G l rk89 (fun (s : St) (x0 x1 x2 x3 x4 x6 x7 x8 : Int) => rec (s, x0, x1, x2, x3, x4, x6, x7, x8)) hk89 (fun (s : St) (x0 x1 x2 x3 x4 x6 x7 x8 : Int) => hrec (s, x0, x1, x2, x3, x4, x6, x7, x8)) a.1 a.2.1 a.2.2.1 a.2.2.2.1 a.2.2.2.2.1 a.2.2.2.2.2.1 a.2.2.2.2.2.2.1 a.2.2.2.2.2.2.2.1 a.2.2.2.2.2.2.2.2) n (s, x0, x1, x2, x3, x4, x6, x7, x8)
def X13_most_b89_body (rk89 : St → Int → Int → Int → Int → Int → Int → Rs) (s : St) (x0 x1 x2 x3 x4 x6 : Int) : Rs :=
  grd (isK s 23 x0) (grd (isK s 22 (gR s x0 3)) (if (gI s (gR s x0 3) 3) ≤ x6 then (X13_most_b199 FU s x0 x3 x4 0 x1) else (grd (isK s 23 x0) (grd (isK s 22 (gR s x0 3)) (grd (isK s 1 (gR s (gR s x0 3) 11) ∧ 0 ≤ x6 ∧ x6 < ln s (gR s (gR s x0 3) 11)) (grd (isK s 23 x0) (bnd (X13_chance s x0 (gI s (gR s (gR s x0 3) 11) x6.toNat) x6 x2) (fun r13 s14 => X13_most_b124 rk89 FU s14 x0 x1 x2 x3 x4 x6 r13 6))))))))
def X13_most_b89 (n : Nat) (s : St) (x0 x1 x2 x3 x4 x6 : Int) : Rs := iter (fun (rec : St × Int × Int × Int × Int × Int × Int → Rs) (a : St × Int × Int × Int × Int × Int × Int) => X13_most_b89_body (fun (s : St) (x0 x1 x2 x3 x4 x6 : Int) => rec (s, x0, x1, x2, x3, x4, x6)) a.1 a.2.1 a.2.2.1 a.2.2.2.1 a.2.2.2.2.1 a.2.2.2.2.2.1 a.2.2.2.2.2.2) n (s, x0, x1, x2, x3, x4, x6)
theorem X13_most_b89_0 (s : St) (x0 x1 x2 x3 x4 x6 : Int) : X13_most_b89 0 s x0 x1 x2 x3 x4 x6 = none := rfl
theorem X13_most_b89_1 (n : Nat) (s : St) (x0 x1 x2 x3 x4 x6 : Int) : X13_most_b89 (n + 1) s x0 x1 x2 x3 x4 x6 = X13_most_b89_body (X13_most_b89 n) s x0 x1 x2 x3 x4 x6 := rfl
set_option maxRecDepth 100000 in
set_option maxHeartbeats 4000000 in
theorem X13_most_b89_body_s (G : Gx) (l : Launch) (rk89 : St → Int → Int → Int → Int → Int → Int → Rs) (hk89 : ∀ (s : St) (x0 x1 x2 x3 x4 x6 : Int), V G l mX13_most 89 [(0, (2, x0)), (1, (0, x1)), (2, (0, x2)), (3, (0, x3)), (4, (1, x4)), (6, (0, x6))] [] s (rk89 s x0 x1 x2 x3 x4 x6)) (s : St) (x0 x1 x2 x3 x4 x6 : Int) : V G l mX13_most 89 [(0, (2, x0)), (1, (0, x1)), (2, (0, x2)), (3, (0, x3)), (4, (1, x4)), (6, (0, x6))] [] s (X13_most_b89_body rk89 s x0 x1 x2 x3 x4 x6) := by
  unfold X13_most_b89_body
  refine V_iload dec_X13_most.1.2.2.1.1.2.1 5 rfl ?_
  refine V_aload_n dec_X13_most.1.2.2.1.1.2.2 0 rfl ?_
  refine V_getR 13 3 nf_13_3 ft_13_3 fl_X13_303 dec_X13_most.1.2.2.1.2.1.1 ?_
  refine V_getIN RX13 12 3 nf_12_3 ft_12_3 fl_X13_241 dec_X13_most.1.2.2.1.2.1.2 ?_
  refine V_icmp_ge (tgt := 193) dec_X13_most.1.2.2.1.2.2.1 (by decide) ?_ ?_
  · refine V_lconst (n := 0) dec_X13_most.2.2.1.2.1.2.1 (by decide) ?_
    refine V_lstore (lv' := [(6, (1, 0)), (0, (2, x0)), (1, (0, x1)), (2, (0, x2)), (3, (0, x3)), (4, (1, x4))]) dec_X13_most.2.2.1.2.1.2.2 (by decide) rfl ?_
    refine V_iload_n dec_X13_most.2.2.1.2.2.1.1 2 rfl ?_
    refine V_istore (lv' := [(8, (0, x1)), (6, (1, 0)), (0, (2, x0)), (1, (0, x1)), (2, (0, x2)), (3, (0, x3)), (4, (1, x4))]) dec_X13_most.2.2.1.2.2.1.2 (by decide) rfl ?_
    exact V_pick [2, 5, 6, 1, 0] rfl (X13_most_b199_s G l FU s x0 x3 x4 0 x1)
  · refine V_aload_n dec_X13_most.1.2.2.1.2.2.2 0 rfl ?_
    refine V_aload_n dec_X13_most.1.2.2.2.1.1.1 0 rfl ?_
    refine V_getR 13 3 nf_13_3 ft_13_3 fl_X13_303 dec_X13_most.1.2.2.2.1.1.2 ?_
    refine V_getRN RX13 12 11 nf_12_11 ft_12_11 fl_X13_263 dec_X13_most.1.2.2.2.1.2.1 ?_
    refine V_iload dec_X13_most.1.2.2.2.1.2.2 5 rfl ?_
    refine V_iald dec_X13_most.1.2.2.2.2.1.1 ?_
    refine V_iload dec_X13_most.1.2.2.2.2.1.2 5 rfl ?_
    refine V_iload_n dec_X13_most.1.2.2.2.2.2.1 2 rfl ?_
    refine V_callV0 (ci := 13) (a := x0) (As := [(0, (gI s (gR s (gR s x0 3) 11) x6.toNat)), (0, x6), (0, x2)]) (st := []) rfl rfl (X13_chance_s G l s x0 (gI s (gR s (gR s x0 3) 11) x6.toNat) x6 x2) cal_X13_chance rfl ml_X13_447 rfl rfl dec_X13_most.1.2.2.2.2.2.2 (k_tag (tag := 0) rfl fun r13 s14 => ?_)
    refine V_istore (lv' := [(7, (0, r13)), (0, (2, x0)), (1, (0, x1)), (2, (0, x2)), (3, (0, x3)), (4, (1, x4)), (6, (0, x6))]) dec_X13_most.2.1.1.1.1.1 (by decide) rfl ?_
    refine V_bipush dec_X13_most.2.1.1.1.1.2.1 rfl ?_
    refine V_istore (lv' := [(8, (0, 6)), (7, (0, r13)), (0, (2, x0)), (1, (0, x1)), (2, (0, x2)), (3, (0, x3)), (4, (1, x4)), (6, (0, x6))]) dec_X13_most.2.1.1.1.1.2.2 (by decide) rfl ?_
    exact V_pick [2, 3, 4, 5, 6, 7, 1, 0] rfl (X13_most_b124_s G l rk89 hk89 FU s14 x0 x1 x2 x3 x4 x6 r13 6)
theorem X13_most_b89_s (G : Gx) (l : Launch) (n : Nat) (s : St) (x0 x1 x2 x3 x4 x6 : Int) : V G l mX13_most 89 [(0, (2, x0)), (1, (0, x1)), (2, (0, x2)), (3, (0, x3)), (4, (1, x4)), (6, (0, x6))] [] s (X13_most_b89 n s x0 x1 x2 x3 x4 x6) :=
  V_iter (LV := fun a : St × Int × Int × Int × Int × Int × Int => [(0, (2, a.2.1)), (1, (0, a.2.2.1)), (2, (0, a.2.2.2.1)), (3, (0, a.2.2.2.2.1)), (4, (1, a.2.2.2.2.2.1)), (6, (0, a.2.2.2.2.2.2))]) (ST := fun a : St × Int × Int × Int × Int × Int × Int => []) (SS := fun a : St × Int × Int × Int × Int × Int × Int => a.1) (fun rec hrec a => X13_most_b89_body_s G l (fun (s : St) (x0 x1 x2 x3 x4 x6 : Int) => rec (s, x0, x1, x2, x3, x4, x6)) (fun (s : St) (x0 x1 x2 x3 x4 x6 : Int) => hrec (s, x0, x1, x2, x3, x4, x6)) a.1 a.2.1 a.2.2.1 a.2.2.2.1 a.2.2.2.2.1 a.2.2.2.2.2.1 a.2.2.2.2.2.2) n (s, x0, x1, x2, x3, x4, x6)
def X13_most_b79 (rk56 : St → Int → Int → Int → Int → Int → Int → Rs) (s : St) (x0 x1 x2 x3 x4 x6 k0 k1 k2 : Int) : Rs :=
  grd (isK s 3 k2 ∧ 0 ≤ k1 ∧ k1 < ln s k2) (lets (pI s k2 k1.toNat k0) (fun s16 => rk56 s16 x0 x1 x2 x3 x4 (w32 (x6 + 1))))
set_option maxRecDepth 100000 in
set_option maxHeartbeats 4000000 in
theorem X13_most_b79_s (G : Gx) (l : Launch) (rk56 : St → Int → Int → Int → Int → Int → Int → Rs) (hk56 : ∀ (s : St) (x0 x1 x2 x3 x4 x6 : Int), V G l mX13_most 56 [(0, (2, x0)), (1, (0, x1)), (2, (0, x2)), (3, (0, x3)), (4, (1, x4)), (6, (0, x6))] [] s (rk56 s x0 x1 x2 x3 x4 x6)) (s : St) (x0 x1 x2 x3 x4 x6 k0 k1 k2 : Int) : V G l mX13_most 79 [(0, (2, x0)), (1, (0, x1)), (2, (0, x2)), (3, (0, x3)), (4, (1, x4)), (6, (0, x6))] [(1, k0), (0, k1), (2, k2)] s (X13_most_b79 rk56 s x0 x1 x2 x3 x4 x6 k0 k1 k2) := by
  unfold X13_most_b79
  refine V_last dec_X13_most.1.2.1.2.2.1.2 ?_
  refine V_lets fun s16 => ?_
  refine V_iinc (lv' := [(6, (0, (w32 (x6 + 1)))), (0, (2, x0)), (1, (0, x1)), (2, (0, x2)), (3, (0, x3)), (4, (1, x4))]) dec_X13_most.1.2.1.2.2.2.1 5 rfl (by decide) rfl ?_
  refine V_goto (tgt := 56) dec_X13_most.1.2.1.2.2.2.2 (by decide) ?_
  exact V_pick [1, 2, 3, 4, 5, 0] rfl (hk56 s16 x0 x1 x2 x3 x4 (w32 (x6 + 1)))
def X13_most_b56_body (rk56 : St → Int → Int → Int → Int → Int → Int → Rs) (s : St) (x0 x1 x2 x3 x4 x6 : Int) : Rs :=
  if (6 : Int) < x6 then (X13_most_b89 FU s x0 x1 x2 x3 x4 0) else (grd (isK s 23 x0) (if ¬ x6 = 0 then (X13_most_b79 rk56 s x0 x1 x2 x3 x4 x6 0 x6 (gR s x0 31)) else (X13_most_b79 rk56 s x0 x1 x2 x3 x4 x6 1 x6 (gR s x0 31))))
def X13_most_b56 (n : Nat) (s : St) (x0 x1 x2 x3 x4 x6 : Int) : Rs := iter (fun (rec : St × Int × Int × Int × Int × Int × Int → Rs) (a : St × Int × Int × Int × Int × Int × Int) => X13_most_b56_body (fun (s : St) (x0 x1 x2 x3 x4 x6 : Int) => rec (s, x0, x1, x2, x3, x4, x6)) a.1 a.2.1 a.2.2.1 a.2.2.2.1 a.2.2.2.2.1 a.2.2.2.2.2.1 a.2.2.2.2.2.2) n (s, x0, x1, x2, x3, x4, x6)
theorem X13_most_b56_0 (s : St) (x0 x1 x2 x3 x4 x6 : Int) : X13_most_b56 0 s x0 x1 x2 x3 x4 x6 = none := rfl
theorem X13_most_b56_1 (n : Nat) (s : St) (x0 x1 x2 x3 x4 x6 : Int) : X13_most_b56 (n + 1) s x0 x1 x2 x3 x4 x6 = X13_most_b56_body (X13_most_b56 n) s x0 x1 x2 x3 x4 x6 := rfl
set_option maxRecDepth 100000 in
set_option maxHeartbeats 4000000 in
theorem X13_most_b56_body_s (G : Gx) (l : Launch) (rk56 : St → Int → Int → Int → Int → Int → Int → Rs) (hk56 : ∀ (s : St) (x0 x1 x2 x3 x4 x6 : Int), V G l mX13_most 56 [(0, (2, x0)), (1, (0, x1)), (2, (0, x2)), (3, (0, x3)), (4, (1, x4)), (6, (0, x6))] [] s (rk56 s x0 x1 x2 x3 x4 x6)) (s : St) (x0 x1 x2 x3 x4 x6 : Int) : V G l mX13_most 56 [(0, (2, x0)), (1, (0, x1)), (2, (0, x2)), (3, (0, x3)), (4, (1, x4)), (6, (0, x6))] [] s (X13_most_b56_body rk56 s x0 x1 x2 x3 x4 x6) := by
  unfold X13_most_b56_body
  refine V_iload dec_X13_most.1.2.1.1.1.2.1 5 rfl ?_
  refine V_bipush dec_X13_most.1.2.1.1.1.2.2 rfl ?_
  refine V_icmp_gt (tgt := 86) dec_X13_most.1.2.1.1.2.1.1 (by decide) ?_ ?_
  · refine V_iconst dec_X13_most.1.2.2.1.1.1.1 rfl ?_
    refine V_istore (lv' := [(6, (0, 0)), (0, (2, x0)), (1, (0, x1)), (2, (0, x2)), (3, (0, x3)), (4, (1, x4))]) dec_X13_most.1.2.2.1.1.1.2 (by decide) rfl ?_
    exact V_pick [1, 2, 3, 4, 5, 0] rfl (X13_most_b89_s G l FU s x0 x1 x2 x3 x4 0)
  · refine V_aload_n dec_X13_most.1.2.1.1.2.1.2 0 rfl ?_
    refine V_getR 13 31 nf_13_31 ft_13_31 fl_X13_45 dec_X13_most.1.2.1.1.2.2.1 ?_
    refine V_iload dec_X13_most.1.2.1.1.2.2.2 5 rfl ?_
    refine V_iload dec_X13_most.1.2.1.2.1.1.1 5 rfl ?_
    refine V_if_ne (tgt := 78) dec_X13_most.1.2.1.2.1.1.2 (by decide) ?_ ?_
    · refine V_lconst (n := 0) dec_X13_most.1.2.1.2.2.1.1 (by decide) ?_
      exact V_pick [0, 1, 2, 3, 4, 5] rfl (X13_most_b79_s G l rk56 hk56 s x0 x1 x2 x3 x4 x6 0 x6 (gR s x0 31))
    · refine V_lconst (n := 1) dec_X13_most.1.2.1.2.1.2.1 (by decide) ?_
      refine V_goto (tgt := 79) dec_X13_most.1.2.1.2.1.2.2 (by decide) ?_
      exact V_pick [0, 1, 2, 3, 4, 5] rfl (X13_most_b79_s G l rk56 hk56 s x0 x1 x2 x3 x4 x6 1 x6 (gR s x0 31))
theorem X13_most_b56_s (G : Gx) (l : Launch) (n : Nat) (s : St) (x0 x1 x2 x3 x4 x6 : Int) : V G l mX13_most 56 [(0, (2, x0)), (1, (0, x1)), (2, (0, x2)), (3, (0, x3)), (4, (1, x4)), (6, (0, x6))] [] s (X13_most_b56 n s x0 x1 x2 x3 x4 x6) :=
  V_iter (LV := fun a : St × Int × Int × Int × Int × Int × Int => [(0, (2, a.2.1)), (1, (0, a.2.2.1)), (2, (0, a.2.2.2.1)), (3, (0, a.2.2.2.2.1)), (4, (1, a.2.2.2.2.2.1)), (6, (0, a.2.2.2.2.2.2))]) (ST := fun a : St × Int × Int × Int × Int × Int × Int => []) (SS := fun a : St × Int × Int × Int × Int × Int × Int => a.1) (fun rec hrec a => X13_most_b56_body_s G l (fun (s : St) (x0 x1 x2 x3 x4 x6 : Int) => rec (s, x0, x1, x2, x3, x4, x6)) (fun (s : St) (x0 x1 x2 x3 x4 x6 : Int) => hrec (s, x0, x1, x2, x3, x4, x6)) a.1 a.2.1 a.2.2.1 a.2.2.2.1 a.2.2.2.2.1 a.2.2.2.2.2.1 a.2.2.2.2.2.2) n (s, x0, x1, x2, x3, x4, x6)
def X13_most (s : St) (a0 a1 a2 a3 : Int) : Rs :=
  grd (isK s 23 a0) (lets (pI s a0 0 0) (fun s1 => grd (isK s1 23 a0) (if (gR s1 a0 3) < 0 then (grd (isK s1 23 a0) (bnd (X13_refused s1 a0 1) (fun r17 s18 => some (r17, s18)))) else (bnd (X13_in s1 a1 0 6) (fun r2 s3 => if r2 = 0 then (X13_most_b39 s3 a0) else (bnd (X13_in s3 a2 0 99) (fun r6 s7 => if ¬ r6 = 0 then (grd (isK s7 23 a0) (bnd (X13_works s7 a0) (fun r8 s9 => X13_most_b56 FU s9 a0 a1 a2 a3 1 0))) else (X13_most_b39 s7 a0))))))))
set_option maxRecDepth 100000 in
set_option maxHeartbeats 4000000 in
theorem X13_most_s (G : Gx) (l : Launch) (s : St) (a0 a1 a2 a3 : Int) : Snd G l mX13_most [(2, a0), (0, a1), (0, a2), (0, a3)] s (X13_most s a0 a1 a2 a3) := by
  refine Snd.of (by decide +kernel) rfl ?_
  show V G l mX13_most 0 [(0, (2, a0)), (1, (0, a1)), (2, (0, a2)), (3, (0, a3))] [] s _
  unfold X13_most
  refine V_aload_n dec_X13_most.1.1.1.1.1.1 0 rfl ?_
  refine V_iconst dec_X13_most.1.1.1.1.1.2.1 rfl ?_
  refine V_putI (host := "") 13 0 nf_13_0 ty_13_0 (Or.inl ⟨fl_X13_49, Or.inl rfl⟩) dec_X13_most.1.1.1.1.1.2.2 ?_
  refine V_lets fun s1 => ?_
  refine V_aload_n dec_X13_most.1.1.1.1.2.1.1 0 rfl ?_
  refine V_getR 13 3 nf_13_3 ft_13_3 fl_X13_303 dec_X13_most.1.1.1.1.2.1.2 ?_
  refine V_ifnonnull (tgt := 19) dec_X13_most.1.1.1.1.2.2.1 (by decide) ?_ ?_
  · refine V_aload_n dec_X13_most.1.1.1.1.2.2.2 0 rfl ?_
    refine V_iconst dec_X13_most.1.1.1.2.1.1.1 rfl ?_
    refine V_callV0 (ci := 13) (a := a0) (As := [(0, 1)]) (st := []) rfl rfl (X13_refused_s G l s1 a0 1) cal_X13_refused rfl ml_X13_55 rfl rfl dec_X13_most.1.1.1.2.1.1.2 (k_tag (tag := 0) rfl fun r17 s18 => ?_)
    refine V_i2l dec_X13_most.1.1.1.2.1.2.1 ?_
    exact V_lret rfl dec_X13_most.1.1.1.2.1.2.2
  · refine V_iload_n dec_X13_most.1.1.1.2.2.1.1 1 rfl ?_
    refine V_iconst dec_X13_most.1.1.1.2.2.1.2 rfl ?_
    refine V_bipush dec_X13_most.1.1.1.2.2.2.1 rfl ?_
    refine V_callS0 (As := [(0, a1), (0, 0), (0, 6)]) (st := []) (host := "") rfl (X13_in_s G l s1 a1 0 6) cal_X13_in rfl (Or.inl ml_X13_128) rfl rfl dec_X13_most.1.1.1.2.2.2.2 (k_tag (tag := 0) rfl fun r2 s3 => ?_)
    refine V_if_eq (tgt := 39) dec_X13_most.1.1.2.1.1.1.1 (by decide) ?_ ?_
    · exact V_pick [0] rfl (X13_most_b39_s G l s3 a0)
    · refine V_iload_n dec_X13_most.1.1.2.1.1.1.2 2 rfl ?_
      refine V_iconst dec_X13_most.1.1.2.1.1.2.1 rfl ?_
      refine V_bipush dec_X13_most.1.1.2.1.1.2.2 rfl ?_
      refine V_callS0 (As := [(0, a2), (0, 0), (0, 99)]) (st := []) (host := "") rfl (X13_in_s G l s3 a2 0 99) cal_X13_in rfl (Or.inl ml_X13_128) rfl rfl dec_X13_most.1.1.2.1.2.1.1 (k_tag (tag := 0) rfl fun r6 s7 => ?_)
      refine V_if_ne (tgt := 46) dec_X13_most.1.1.2.1.2.1.2 (by decide) ?_ ?_
      · refine V_aload_n dec_X13_most.1.1.2.2.1.2.2 0 rfl ?_
        refine V_callV0 (ci := 13) (a := a0) (As := []) (st := []) rfl rfl (X13_works_s G l s7 a0) cal_X13_works rfl ml_X13_342 rfl rfl dec_X13_most.1.1.2.2.2.1.1 (k_void rfl fun r8 s9 => ?_)
        refine V_lconst (n := 1) dec_X13_most.1.1.2.2.2.1.2 (by decide) ?_
        refine V_lstore (lv' := [(4, (1, 1)), (0, (2, a0)), (1, (0, a1)), (2, (0, a2)), (3, (0, a3))]) dec_X13_most.1.1.2.2.2.2.1 (by decide) rfl ?_
        refine V_iconst dec_X13_most.1.1.2.2.2.2.2 rfl ?_
        refine V_istore (lv' := [(6, (0, 0)), (4, (1, 1)), (0, (2, a0)), (1, (0, a1)), (2, (0, a2)), (3, (0, a3))]) dec_X13_most.1.2.1.1.1.1 (by decide) rfl ?_
        exact V_pick [2, 3, 4, 5, 1, 0] rfl (X13_most_b56_s G l FU s9 a0 a1 a2 a3 1 0)
      · exact V_pick [0] rfl (X13_most_b39_s G l s7 a0)
theorem dec_X13_move : (((((decode cX13_move 0 = .ok (.aload_n 0, 1) ∧ decode cX13_move 1 = .ok (.iconst 0, 1)) ∧ (decode cX13_move 2 = .ok (.putfield 49, 3) ∧ (decode cX13_move 5 = .ok (.aload_n 0, 1) ∧ decode cX13_move 6 = .ok (.iload_n 1, 1)))) ∧ ((decode cX13_move 7 = .ok (.invokevirtual 339, 3) ∧ decode cX13_move 10 = .ok (.ifCond .eq 11, 3)) ∧ (decode cX13_move 13 = .ok (.aload_n 0, 1) ∧ (decode cX13_move 14 = .ok (.iload_n 2, 1) ∧ decode cX13_move 15 = .ok (.invokevirtual 351, 3))))) ∧ (((decode cX13_move 18 = .ok (.ifCond .ne 9, 3) ∧ decode cX13_move 21 = .ok (.aload_n 0, 1)) ∧ (decode cX13_move 22 = .ok (.iconst 1, 1) ∧ (decode cX13_move 23 = .ok (.invokevirtual 55, 3) ∧ decode cX13_move 26 = .ok (.ireturn, 1)))) ∧ ((decode cX13_move 27 = .ok (.aload_n 0, 1) ∧ decode cX13_move 28 = .ok (.invokevirtual 342, 3)) ∧ (decode cX13_move 31 = .ok (.aload_n 0, 1) ∧ (decode cX13_move 32 = .ok (.iload_n 2, 1) ∧ decode cX13_move 33 = .ok (.invokevirtual 320, 3)))))) ∧ ((((decode cX13_move 36 = .ok (.bipush (-2), 2) ∧ decode cX13_move 38 = .ok (.if_icmp .eq 9, 3)) ∧ (decode cX13_move 41 = .ok (.aload_n 0, 1) ∧ (decode cX13_move 42 = .ok (.iconst 5, 1) ∧ decode cX13_move 43 = .ok (.invokevirtual 55, 3)))) ∧ ((decode cX13_move 46 = .ok (.ireturn, 1) ∧ decode cX13_move 47 = .ok (.aload_n 0, 1)) ∧ (decode cX13_move 48 = .ok (.invokevirtual 469, 3) ∧ (decode cX13_move 51 = .ok (.aload_n 0, 1) ∧ decode cX13_move 52 = .ok (.getfield 17, 3))))) ∧ (((decode cX13_move 55 = .ok (.iload_n 1, 1) ∧ decode cX13_move 56 = .ok (.iload_n 2, 1)) ∧ (decode cX13_move 57 = .ok (.iastore, 1) ∧ (decode cX13_move 58 = .ok (.aload_n 0, 1) ∧ decode cX13_move 59 = .ok (.aload_n 0, 1)))) ∧ ((decode cX13_move 60 = .ok (.getfield 21, 3) ∧ decode cX13_move 63 = .ok (.iload_n 1, 1)) ∧ (decode cX13_move 64 = .ok (.iaload, 1) ∧ (decode cX13_move 65 = .ok (.invokevirtual 59, 3) ∧ decode cX13_move 68 = .ok (.ireturn, 1))))))) := ⟨⟨by decide +kernel, by decide +kernel⟩, ⟨by decide +kernel, by decide +kernel⟩⟩
def X13_move_b21 (s : St) (x0 : Int) : Rs :=
  grd (isK s 23 x0) (bnd (X13_refused s x0 1) (fun r4 s5 => some (r4, s5)))
set_option maxRecDepth 100000 in
set_option maxHeartbeats 4000000 in
theorem X13_move_b21_s (G : Gx) (l : Launch) (s : St) (x0 : Int) : V G l mX13_move 21 [(0, (2, x0))] [] s (X13_move_b21 s x0) := by
  unfold X13_move_b21
  refine V_aload_n dec_X13_move.1.2.1.1.2 0 rfl ?_
  refine V_iconst dec_X13_move.1.2.1.2.1 rfl ?_
  refine V_callV0 (ci := 13) (a := x0) (As := [(0, 1)]) (st := []) rfl rfl (X13_refused_s G l s x0 1) cal_X13_refused rfl ml_X13_55 rfl rfl dec_X13_move.1.2.1.2.2.1 (k_tag (tag := 0) rfl fun r4 s5 => ?_)
  exact V_iret rfl dec_X13_move.1.2.1.2.2.2
def X13_move (s : St) (a0 a1 a2 : Int) : Rs :=
  grd (isK s 23 a0) (lets (pI s a0 0 0) (fun s1 => grd (isK s1 23 a0) (bnd (X13_isPerson s1 a0 a1) (fun r2 s3 => if r2 = 0 then (X13_move_b21 s3 a0) else (grd (isK s3 23 a0) (bnd (X13_isHouse s3 a0 a2) (fun r6 s7 => if ¬ r6 = 0 then (grd (isK s7 23 a0) (bnd (X13_works s7 a0) (fun r8 s9 => grd (isK s9 23 a0) (bnd (X13_whoIn s9 a0 a2) (fun r10 s11 => if r10 = ((-2) : Int) then (grd (isK s11 23 a0) (bnd (X13_remembers s11 a0) (fun r12 s13 => grd (isK s13 23 a0) (grd (isK s13 1 (gR s13 a0 15) ∧ 0 ≤ a1 ∧ a1 < ln s13 (gR s13 a0 15)) (lets (pI s13 (gR s13 a0 15) a1.toNat a2) (fun s14 => grd (isK s14 23 a0) (grd (isK s14 1 (gR s14 a0 16) ∧ 0 ≤ a1 ∧ a1 < ln s14 (gR s14 a0 16)) (grd (isK s14 23 a0) (bnd (X13_good s14 a0 (gI s14 (gR s14 a0 16) a1.toNat)) (fun r15 s16 => some (r15, s16))))))))))) else (grd (isK s11 23 a0) (bnd (X13_refused s11 a0 5) (fun r17 s18 => some (r17, s18))))))))) else (X13_move_b21 s7 a0))))))))
set_option maxRecDepth 100000 in
set_option maxHeartbeats 4000000 in
theorem X13_move_s (G : Gx) (l : Launch) (s : St) (a0 a1 a2 : Int) : Snd G l mX13_move [(2, a0), (0, a1), (0, a2)] s (X13_move s a0 a1 a2) := by
  refine Snd.of (by decide +kernel) rfl ?_
  show V G l mX13_move 0 [(0, (2, a0)), (1, (0, a1)), (2, (0, a2))] [] s _
  unfold X13_move
  refine V_aload_n dec_X13_move.1.1.1.1.1 0 rfl ?_
  refine V_iconst dec_X13_move.1.1.1.1.2 rfl ?_
  refine V_putI (host := "") 13 0 nf_13_0 ty_13_0 (Or.inl ⟨fl_X13_49, Or.inl rfl⟩) dec_X13_move.1.1.1.2.1 ?_
  refine V_lets fun s1 => ?_
  refine V_aload_n dec_X13_move.1.1.1.2.2.1 0 rfl ?_
  refine V_iload_n dec_X13_move.1.1.1.2.2.2 1 rfl ?_
  refine V_callV0 (ci := 13) (a := a0) (As := [(0, a1)]) (st := []) rfl rfl (X13_isPerson_s G l s1 a0 a1) cal_X13_isPerson rfl ml_X13_339 rfl rfl dec_X13_move.1.1.2.1.1 (k_tag (tag := 0) rfl fun r2 s3 => ?_)
  refine V_if_eq (tgt := 21) dec_X13_move.1.1.2.1.2 (by decide) ?_ ?_
  · exact V_pick [0] rfl (X13_move_b21_s G l s3 a0)
  · refine V_aload_n dec_X13_move.1.1.2.2.1 0 rfl ?_
    refine V_iload_n dec_X13_move.1.1.2.2.2.1 2 rfl ?_
    refine V_callV0 (ci := 13) (a := a0) (As := [(0, a2)]) (st := []) rfl rfl (X13_isHouse_s G l s3 a0 a2) cal_X13_isHouse rfl ml_X13_351 rfl rfl dec_X13_move.1.1.2.2.2.2 (k_tag (tag := 0) rfl fun r6 s7 => ?_)
    refine V_if_ne (tgt := 27) dec_X13_move.1.2.1.1.1 (by decide) ?_ ?_
    · refine V_aload_n dec_X13_move.1.2.2.1.1 0 rfl ?_
      refine V_callV0 (ci := 13) (a := a0) (As := []) (st := []) rfl rfl (X13_works_s G l s7 a0) cal_X13_works rfl ml_X13_342 rfl rfl dec_X13_move.1.2.2.1.2 (k_void rfl fun r8 s9 => ?_)
      refine V_aload_n dec_X13_move.1.2.2.2.1 0 rfl ?_
      refine V_iload_n dec_X13_move.1.2.2.2.2.1 2 rfl ?_
      refine V_callV0 (ci := 13) (a := a0) (As := [(0, a2)]) (st := []) rfl rfl (X13_whoIn_s G l s9 a0 a2) cal_X13_whoIn rfl ml_X13_320 rfl rfl dec_X13_move.1.2.2.2.2.2 (k_tag (tag := 0) rfl fun r10 s11 => ?_)
      refine V_bipush dec_X13_move.2.1.1.1.1 rfl ?_
      refine V_icmp_eq (tgt := 47) dec_X13_move.2.1.1.1.2 (by decide) ?_ ?_
      · refine V_aload_n dec_X13_move.2.1.2.1.2 0 rfl ?_
        refine V_callV0 (ci := 13) (a := a0) (As := []) (st := []) rfl rfl (X13_remembers_s G l s11 a0) cal_X13_remembers rfl ml_X13_469 rfl rfl dec_X13_move.2.1.2.2.1 (k_void rfl fun r12 s13 => ?_)
        refine V_aload_n dec_X13_move.2.1.2.2.2.1 0 rfl ?_
        refine V_getR 13 15 nf_13_15 ft_13_15 fl_X13_17 dec_X13_move.2.1.2.2.2.2 ?_
        refine V_iload_n dec_X13_move.2.2.1.1.1 1 rfl ?_
        refine V_iload_n dec_X13_move.2.2.1.1.2 2 rfl ?_
        refine V_iast dec_X13_move.2.2.1.2.1 ?_
        refine V_lets fun s14 => ?_
        refine V_aload_n dec_X13_move.2.2.1.2.2.1 0 rfl ?_
        refine V_aload_n dec_X13_move.2.2.1.2.2.2 0 rfl ?_
        refine V_getR 13 16 nf_13_16 ft_13_16 fl_X13_21 dec_X13_move.2.2.2.1.1 ?_
        refine V_iload_n dec_X13_move.2.2.2.1.2 1 rfl ?_
        refine V_iald dec_X13_move.2.2.2.2.1 ?_
        refine V_callV0 (ci := 13) (a := a0) (As := [(0, (gI s14 (gR s14 a0 16) a1.toNat))]) (st := []) rfl rfl (X13_good_s G l s14 a0 (gI s14 (gR s14 a0 16) a1.toNat)) cal_X13_good rfl ml_X13_59 rfl rfl dec_X13_move.2.2.2.2.2.1 (k_tag (tag := 0) rfl fun r15 s16 => ?_)
        exact V_iret rfl dec_X13_move.2.2.2.2.2.2
      · refine V_aload_n dec_X13_move.2.1.1.2.1 0 rfl ?_
        refine V_iconst dec_X13_move.2.1.1.2.2.1 rfl ?_
        refine V_callV0 (ci := 13) (a := a0) (As := [(0, 5)]) (st := []) rfl rfl (X13_refused_s G l s11 a0 5) cal_X13_refused rfl ml_X13_55 rfl rfl dec_X13_move.2.1.1.2.2.2 (k_tag (tag := 0) rfl fun r17 s18 => ?_)
        exact V_iret rfl dec_X13_move.2.1.2.1.1
    · exact V_pick [0] rfl (X13_move_b21_s G l s7 a0)
