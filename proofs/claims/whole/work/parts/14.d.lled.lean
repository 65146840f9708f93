/-! the law's own helper led: it calls the class's, and catches -/
abbrev hhL : List (Nat × Nat × Nat × Nat) := [(0, 9, 12, 13)]
def mL_led : MI := (yL_led, cL_led, 4, some .int, 8, 181)
abbrev QLd (G : Gx) : QT := fun r s' below args s0 mc ms t => NoTab s0 (tableOf hhL) → MQ below (QR G (some .int) r s') args s0 mc ms (fun q => G.1 ≤ q) t
def LBW : List Cond := [Cond.methodLink RL 7 yX11_led, Cond.classLink RL 13 NSE, Cond.codeWith yL_led cL_led 4 (some .int) hhL, Cond.static yL_led, Cond.initialized RL]
theorem LBW_in : LBW.all (fun w => decide (w ∈ lw_tbl) && goodWord w) = true := by decide +kernel
theorem lbw {w : Cond} (h : w ∈ LBW) : w ∈ TW := by
  have h := List.all_eq_true.mp LBW_in w h
  rw [Bool.and_eq_true] at h
  exact List.mem_filter.mpr ⟨of_decide_eq_true h.1, h.2⟩
theorem cNN_in : (decide (Cond.castable NSE NSE ∈ lw_tbl)) = true := by decide +kernel
theorem cNN : Cond.castable NSE NSE ∈ EW := List.mem_filter.mpr ⟨of_decide_eq_true cNN_in, rfl⟩
theorem dec_Lled : (decode cL_led 0 = .ok (.aload_n 2, 1) ∧ decode cL_led 1 = .ok (.iconst 0, 1) ∧ decode cL_led 2 = .ok (.aload_n 0, 1) ∧ decode cL_led 3 = .ok (.iload_n 1, 1) ∧ decode cL_led 4 = .ok (.invokevirtual 7, 3)) ∧ (decode cL_led 7 = .ok (.i2l, 1) ∧ decode cL_led 8 = .ok (.lastore, 1) ∧ decode cL_led 9 = .ok (.goto 6, 3)) ∧ (decode cL_led 12 = .ok (.astore_n 3, 1) ∧ decode cL_led 13 = .ok (.iconst 1, 1) ∧ decode cL_led 14 = .ok (.ireturn, 1) ∧ decode cL_led 15 = .ok (.iconst 0, 1) ∧ decode cL_led 16 = .ok (.ireturn, 1)) := by decide +kernel
def L_led (s : St) (x i out : Int) : Rs := grd (isK s 21 x) (bnd (X11_led s x i) (fun r s1 => if r = -5 then some (1, s1) else grd (isK s1 3 out ∧ 0 ≤ (0 : Int) ∧ (0 : Int) < ln s1 out) (lets (pI s1 out (0 : Int).toNat r) (fun s2 => some (0, s2)))))
section LLED
variable {G : Gx} {l : Launch} {lv : List (Nat × PV)} {s : St}
theorem V_ldret {M : MI} {pc : Nat} {x : Int} (hr : M.2.2.2.1 = some .int) (hd : decode M.2.1 pc = .ok (.ireturn, 1)) : VQ (QLd G) G l M pc lv [(0, x)] s (some (x, s)) := by
  intro r s' hX
  obtain ⟨h1, h2, K⟩ := V_iret (G := G) (l := l) (lv := lv) (s := s) hr hd r s' hX
  refine ⟨h1, h2, fun n0 k0 g1 g2 p e R s0 m args below meth c H locs ls hC hc hs hL hO hR hl => ?_⟩
  intro T hT X
  obtain ⟨t, a1, o, b1, b2, b3, b4⟩ := K n0 k0 g1 g2 p e R s0 m args below meth c H locs ls hC hc hs hL hO hR hl T hT X
  rw [hr] at b3
  exact ⟨t, a1, fun _ => ⟨o, b1, b2, b3, b4⟩⟩
theorem V_ledcall (hl : l.stackTraces = false) {x i out : Int} {Xk : Int → St → Rs} (K : ∀ r s1, VQ (QLd G) G l mL_led 7 lv [(0, r), (0, 0), (2, out)] s1 (Xk r s1)) (Kc : ∀ s1, VQ (QLd G) G l mL_led 13 [] [] s1 (some (1, s1))) :
    VQ (QLd G) G l mL_led 4 lv [(0, i), (2, x), (0, 0), (2, out)] s (grd (isK s 21 x) (bnd (X11_led s x i) (fun r s1 => if r = -5 then some (1, s1) else Xk r s1))) := by
  refine V_grd fun hk => ?_
  intro r s' hX
  cases hF : X11_led s x i with
  | none => rw [hF] at hX; cases hX
  | some q0 =>
    obtain ⟨r1, s1⟩ := q0
    rw [hF] at hX
    have hX : (if r1 = -5 then some (1, s1) else Xk r1 s1) = some (r, s') := hX
    obtain ⟨m1, m2, hM⟩ := X11_led_s G l hl s x i r1 s1 hF
    have hmono : s1.1.1 ≤ s'.1.1 ∧ s1.1.2 ≤ s'.1.2 := by
      by_cases h5 : r1 = -5
      · rw [if_pos h5] at hX; exact ⟨(Kc s1 r s' hX).1, (Kc s1 r s' hX).2.1⟩
      · rw [if_neg h5] at hX; exact ⟨(K r1 s1 r s' hX).1, (K r1 s1 r s' hX).2.1⟩
    refine ⟨by omega, by omega, fun n0 k0 g1 g2 p e R s0 m args below meth c H locs ls hC hc hs hL hO hR hlc => ?_⟩
    intro T hT X
    by_cases hN : NoTab s0 (tableOf hhL)
    · have ht : c.exceptionTable.toList = tableOf hhL := hN m args below meth c X.frames X.method X.code
      obtain ⟨q, cell, hq, q1, q2, q3, q4⟩ := hR.obj (ci := 11) hk
      have hPC := pcS (As := [(2, x), (0, i)]) hC.2.2.2.2.2.2.1 hR
      have hcls : s0.vm.findClass yX11_led.cls = some cell.cls := by
        have hci : (vwCl[11]?).map (·.1) = some yX11_led.cls := rfl
        rw [hq] at hci
        rw [q2, ← Option.some.inj hci]
        exact (hC.2.2.2.2.2.2.1.1.1 11 q hq).2.1
      have e9 : mv G (2, x) = .ref (G.1 + x.toNat) := by rw [mv2, mkR_in hk.1]
      rw [List.map_cons, e9] at hPC
      have hts := hC.2.2.2.2.2.1
      have hO1 : okS [(2, x), (0, i)] := fun v hv => hO v (by
        rcases List.mem_cons.mp hv with rfl | hv
        · exact List.mem_cons_of_mem _ List.mem_cons_self
        · rcases List.mem_cons.mp hv with rfl | hv
          · exact List.mem_cons_self
          · cases hv)
      have hO2 : okS [(0, r1), (0, 0), (2, out)] ∨ True := Or.inr trivial
      have hr := vx_runV (p := p) (e := e) (below := below) (meth := meth) (H := H) (locs := locs) (cells := s.1.1 - n0) (slots := s.1.2 - k0) (b := G.1 + x.toNat) (As := [mv G (0, i)]) (rest := [mv G (0, 0), mv G (2, out)]) (g := F0 m 4 ls ([mv G (0, i)] ++ .ref (G.1 + x.toNat) :: [mv G (0, 0), mv G (2, out)])) (fix hC) (hM hO1) ⟨cb hC cal_X11_led.1 (idx := 7) (lbw (List.mem_cons_self)) rfl, hts _ cal_X11_led.2.1, hts _ cal_X11_led.2.2⟩ ⟨hPC.1, ⟨cell, q1, by rw [q3]; rfl, hcls⟩, hPC.2⟩ rfl rfl hL.1.1 rfl (rw8 (st := [(0, 0), (2, out)]) rfl) dec_Lled.1.2.2.2.2 ⟨by omega, by omega⟩
      have eS : ([(0, i), (2, x), (0, 0), (2, out)] : List PV).map (mv G) = [mv G (0, i)] ++ .ref (G.1 + x.toNat) :: [mv G (0, 0), mv G (2, out)] := by
        rw [← e9]; rfl
      rw [eS]
      have eC : s1.1.1 - n0 = (s.1.1 - n0) + (s1.1.1 - s.1.1) := by omega
      have eK : s1.1.2 - k0 = (s.1.2 - k0) + (s1.1.2 - s.1.2) := by omega
      rcases hr T hT X with ⟨v, st₀, t, T', L, h0, X', hL', e1, e2, ⟨hne, ⟨v', hv, hrv⟩, hR1⟩, stp⟩ | ⟨qx, st₀, t, T', L, E, ce, h0, X', hL', e1, e2, ⟨h5, hE, hR1⟩, hce, hcv, hcl, stp⟩
      · rw [if_neg hne] at hX
        obtain ⟨-, -, K⟩ := K r1 s1 r s' hX
        cases hv
        obtain ⟨q8, q9⟩ := RV.tag (tag := 0) hrv rfl
        subst q8
        have hW := K n0 k0 (by omega) (by omega) p e R s0 m args below meth c T'.heap (locs ++ L) ls hC hc hs hL (fun w hw => by
          rcases List.mem_cons.mp hw with rfl | hw
          · exact q9
          · exact hO w (List.mem_cons_of_mem _ (List.mem_cons_of_mem _ hw))) (by rw [e1]; exact hR1) (fun q hq => by
          rcases List.mem_append.mp hq with h | h
          · exact hlc q h
          · exact hL' q h)
        rw [eC, eK] at hW
        obtain ⟨t2, a1, b1⟩ := hW T' rfl X'
        exact ⟨t2, stp t2 a1, b1⟩
      · rw [if_pos h5] at hX
        obtain ⟨-, -, K⟩ := Kc s1 r s' hX
        subst hE
        have hW := fun ls' (h' : lv_has ls' 4 [(3, Value.ref qx)]) => K n0 k0 (by omega) (by omega) p e R s0 m args below meth c T'.heap (locs ++ L) ls' hC hc hs ⟨⟨h'.1, h'.2.1, fun q hq => nomatch hq⟩, fun q hq => nomatch hq⟩ (fun w hw => nomatch hw) (by rw [e1]; exact hR1) (fun q hq => by
          rcases List.mem_append.mp hq with h | h
          · exact hlc q h
          · exact hL' q h)
        rw [eC, eK] at hW
        have k12 : W p l e R s0 m args below meth c T'.heap (locs ++ L) (s.1.1 - n0 + (s1.1.1 - s.1.1)) (s.1.2 - k0 + (s1.1.2 - s.1.2)) (QLd G r s' below args s0 (s'.1.1 - n0) (s'.1.2 - k0)) (F0 m 12 ls [.ref qx]) :=
          lv_astore_n (lv := []) (lv' := [(3, Value.ref qx)]) hC.1 hC.2.1 dec_Lled.2.2.1 rfl ⟨hL.1.1, hL.1.2.1, fun q hq => nomatch hq⟩ (by decide) rfl hW
        have hown : s0.vm.findClass RL = some m.cls := hC.2.2.2.2.1
        have hcast : (Cond.castable NSE NSE).before args s0 = true := hC.2.2.2.2.2.2.1.2.2.2.2.2.2.1.2.2 _ cNN
        have k4 := vx_catch (pc := 4) (ls := ls) (rest := [mv G (0, 0), mv G (2, out)]) (own := RL) (name := NSE) (E := NSE) (ce := ce) (q := qx) hown [] ((tableOf hhL).head (by decide)) [] (by rw [ht]; rfl) (fun z hz => nomatch hz) (by decide) (by decide) (hts _ (lbw (List.mem_cons_of_mem _ List.mem_cons_self))) hcast (by rw [e1]; exact hce) hcv hcl k12
        obtain ⟨t2, a1, b1⟩ := k4 T' rfl X'
        exact ⟨t2, stp.trans a1, b1⟩
    · exact ⟨_, Steps.refl _, fun h => absurd h hN⟩
end LLED
/-- as Snd, of a method with a table of handlers -/
def SndW (G : Gx) (l : Launch) (M : MI) (hh : List (Nat × Nat × Nat × Nat)) (As : List PV) (s : St) (F : Rs) : Prop :=
  ∀ r s', F = some (r, s') → s.1.1 ≤ s'.1.1 ∧ s.1.2 ≤ s'.1.2 ∧ (okS As →
    Met l M.1 (Cond.codeWith M.1 M.2.1 M.2.2.1 M.2.2.2.1 hh :: TW) { frames := M.2.2.2.2.1, cells := s'.1.1 - s.1.1, slots := s'.1.2 - s.1.2, locals := M.2.2.2.2.2 } (PC G As s) (QR G M.2.2.2.1 r s') (s'.1.1 - s.1.1) (s'.1.2 - s.1.2) (fun q => G.1 ≤ q))
theorem L_led_v (G : Gx) (l : Launch) (hl : l.stackTraces = false) (s : St) (x i out : Int) : VQ (QLd G) G l mL_led 0 [(0, (2, x)), (1, (0, i)), (2, (2, out))] [] s (L_led s x i out) := by
  unfold L_led
  refine V_aload_n dec_Lled.1.1 2 rfl ?_
  refine V_iconst dec_Lled.1.2.1 rfl ?_
  refine V_aload_n dec_Lled.1.2.2.1 0 rfl ?_
  refine V_iload_n dec_Lled.1.2.2.2.1 1 rfl ?_
  refine V_ledcall hl (fun r s1 => ?_) (fun s1 => ?_)
  · refine V_i2l dec_Lled.2.1.1 ?_
    refine V_last dec_Lled.2.1.2.1 ?_
    refine V_lets fun s2 => ?_
    refine V_goto (tgt := 15) dec_Lled.2.1.2.2 (by decide) ?_
    refine V_iconst dec_Lled.2.2.2.2.2.1 rfl ?_
    exact V_ldret rfl dec_Lled.2.2.2.2.2.2
  · refine V_iconst dec_Lled.2.2.2.1 rfl ?_
    exact V_ldret rfl dec_Lled.2.2.2.2.1
theorem L_led_s (G : Gx) (l : Launch) (hl : l.stackTraces = false) (s : St) (x i out : Int) : SndW G l mL_led hhL [(2, x), (0, i), (2, out)] s (L_led s x i out) := by
  intro r s' hF
  obtain ⟨h1, h2, h⟩ := L_led_v G l hl s x i out r s' hF
  refine ⟨h1, h2, fun hok => ?_⟩
  refine MetFree.of_bodyS (code := cL_led) (maxLocals := 4) (ret := some .int) (by decide) ?_ ?_
  · intro args s m h hn
    obtain ⟨m9, meth, c, hn9, h1, h2, h3, h4, -, h5, h6, -⟩ := Cond.codeWith_spec (atoms_spec (ws := Cond.codeWith yL_led cL_led 4 (some .int) hhL :: TW) h _ List.mem_cons_self)
    cases hn.symm.trans hn9
    exact ⟨meth, c, h1, h2, h3, h4, h5, h6⟩
  · intro p e s0 m args below meth c s₁ B hml hv _
    have hh0 : s₁.heap = s0.heap := by rw [B.state]; rfl
    obtain ⟨hv1, hv2, hv3⟩ := hv
    subst hv1
    have hts := atoms_spec (ws := Cond.codeWith yL_led cL_led 4 (some .int) hhL :: TW) B.pre
    have hl9 := lv_entry (([(2, x), (0, i), (2, out)] : List PV).map (mv G)) (n := 4) (by rw [enW_len]; exact Nat.le_of_ble_eq_true rfl)
    rw [enL_map] at hl9
    have K := h s.1.1 s.1.2 (Nat.le_refl _) (Nat.le_refl _) p e { frames := 8, cells := s'.1.1 - s.1.1, slots := s'.1.2 - s.1.2, locals := 181 } s0 m _ below meth c s0.heap [] _ ⟨B.exec, B.bytes, hml, B.returns, findClass_of_methodNamed B.named, fun w hw => hts w (List.mem_cons_of_mem _ hw), hv3, B.notSynchronized, (name_of_methodNamed B.named B.method).1, rfl, rfl⟩ (Nat.le_refl _) (Nat.le_refl _) ⟨hl9, enL_ok [(2, x), (0, i), (2, out)] 0 hok⟩ (fun v hv => absurd hv List.not_mem_nil) hv2 (fun q hq => absurd hq List.not_mem_nil)
    rw [Nat.sub_self, Nat.sub_self] at K
    have X := Stand.of_body B
    have e0 := lg_entry_eq (m := m) (vs := ([(2, x), (0, i), (2, out)] : List PV).map (mv G)) (n := 4)
    obtain ⟨t, a1, b1⟩ := K s₁ hh0 X
    have hN : NoTab s0 (tableOf hhL) := by
      intro m2 a2 b2 meth2 c2 f1 f2 f3
      rw [X.frames] at f1
      cases f1
      rw [X.method] at f2
      cases f2
      rw [X.code] at f3
      cases f3
      exact vx_table (x := yL_led) B (hts _ List.mem_cons_self)
    obtain ⟨o, b1, b2, b3, b4⟩ := b1 hN
    exact ⟨t, o, by rw [e0]; exact a1, b1, b2, b3, b4⟩
/-- a static call of a method with handlers -/
theorem V_callSW0 {QQ : QT} {G : Gx} {l : Launch} {M : MI} {pc : Nat} {lv : List (Nat × PV)} {st : List PV} {s : St} {As stk : List PV} {F : Rs} {Xk : Int → St → Rs} {M' : MI} {hh : List (Nat × Nat × Nat × Nat)} {idx n : Nat} (hstk : stk = As.reverse ++ st) (hS : SndW G l M' hh As s F)
    (hcd : Cond.codeWith M'.1 M'.2.1 M'.2.2.1 M'.2.2.2.1 hh ∈ TW) (hst : Cond.static M'.1 ∈ TW) (hin : Cond.initialized M'.1.cls ∈ TW) (hmh : M'.1.cls ≠ "java/lang/invoke/MethodHandle" ∧ M'.1.cls ≠ "java/lang/invoke/VarHandle") (hpn : (parseMethodDescriptor M'.1.desc).map (fun d => d.parameters.length) = some n)
    (hn : As.length = n) (hlk : Cond.methodLink M.1.cls idx M'.1 ∈ TW) (hroom : roomM M M' = true) (hw : Nat.ble (wsum st) 8 = true) (hd : decode M.2.1 pc = .ok (.invokestatic idx, 3)) (hret : rkk M'.2.2.2.1 = some 0)
    (K : ∀ (r1 : Int) (s1 : St), VQ QQ G l M (pc + 3) lv ((0, r1) :: st) s1 (Xk r1 s1)) : VQ QQ G l M pc lv stk s (bnd F Xk) := by
  subst hstk
  intro r s' hX
  cases hF : F with
  | none => rw [hF] at hX; cases hX
  | some q =>
    obtain ⟨r1, s1⟩ := q
    rw [hF] at hX
    have hX : Xk r1 s1 = some (r, s') := hX
    obtain ⟨h1, h2, K⟩ := K r1 s1 r s' hX
    obtain ⟨m1, m2, hM⟩ := hS r1 s1 hF
    refine ⟨by omega, by omega, fun n0 k0 g1 g2 p e R s0 m args below meth c H locs ls hC hc hs hL hO hR hl => ?_⟩
    have hts := hC.2.2.2.2.2.1
    have hf := hC.2.2.2.2.2.2.2.2.2.1
    have hlo := hC.2.2.2.2.2.2.2.2.2.2
    obtain ⟨r5, r6⟩ := roomM_ok hroom
    have hr := vx_runSW (p := p) (e := e) (below := below) (meth := meth) (H := H) (locs := locs) (cells := s.1.1 - n0) (slots := s.1.2 - k0) (rest := st.map (mv G)) (g := F0 m pc ls ((As.reverse ++ st).map (mv G))) (R := R) (fix hC) (hM (fun v hv => hO v (List.mem_append_left _ (List.mem_reverse.mpr hv)))) ⟨⟨rfl, rfl, by rw [hf]; exact r5, by rw [hlo]; exact r6, tw_pay hts hcd, List.mem_cons_self⟩, hts _ hcd, hts _ hin, hmh, par_len hpn, hts _ hlk, hts _ hst⟩ (pcS hC.2.2.2.2.2.2.1 hR) rfl (by rw [List.length_map]; exact hn) hL.1.1 (map_ra G As st) (rw8 hw) hd ⟨by omega, by omega⟩
    intro T hT Xs
    obtain ⟨v, st₀, t, T', L, h0, X', hL', e1, e2, ⟨⟨v', hv, hrv⟩, hR1⟩, stp⟩ := hr T hT Xs
    cases hv
    obtain ⟨q8, q9⟩ := RV.tag hrv hret
    subst q8
    have hW := K n0 k0 (by omega) (by omega) p e R s0 m args below meth c T'.heap (locs ++ L) ls hC hc hs hL (fun w hw => by
      rcases List.mem_cons.mp hw with rfl | hw
      · exact q9
      · exact hO w (List.mem_append_right _ hw)) (by rw [e1]; exact hR1) (fun q hq => by
      rcases List.mem_append.mp hq with h | h
      · exact hl q h
      · exact hL' q h)
    rw [show s1.1.1 - n0 = (s.1.1 - n0) + (s1.1.1 - s.1.1) by omega, show s1.1.2 - k0 = (s.1.2 - k0) + (s1.1.2 - s.1.2) by omega] at hW
    obtain ⟨t2, a1, b1⟩ := hW T' rfl X'
    exact ⟨t2, stp t2 a1, b1⟩
