def mL_law : MI := (yL_law, code, 7, some .boolean, 16, 612)
def LCW0 : List (Nat × Cond) := [(138, Cond.classLink RL 8 RX11), (0, Cond.instantiable RX11 16), (0, Cond.methodLink RL 15 yX11_init), (0, Cond.instanceMethod yX11_init), (0, Cond.code yX11_init cX11_init 2 none), (387, Cond.methodLink RL 19 yX11_feed), (0, Cond.instanceMethod yX11_feed), (0, Cond.selects RX11 yX11_feed yX11_feed), (0, Cond.code yX11_feed cX11_feed 6 (some .int)), (4, Cond.methodLink RL 24 yX11_town), (0, Cond.instanceMethod yX11_town), (0, Cond.selects RX11 yX11_town yX11_town), (0, Cond.code yX11_town cX11_town 3 (some .int)), (282, Cond.methodLink RL 28 yX11_fault), (0, Cond.instanceMethod yX11_fault), (0, Cond.selects RX11 yX11_fault yX11_fault), (0, Cond.code yX11_fault cX11_fault 1 (some .int)), (0, Cond.methodLink RL 33 yX11_where), (0, Cond.instanceMethod yX11_where), (0, Cond.selects RX11 yX11_where yX11_where), (0, Cond.code yX11_where cX11_where 1 (some .int)), (0, Cond.methodLink RL 37 yX11_person), (0, Cond.instanceMethod yX11_person), (0, Cond.selects RX11 yX11_person yX11_person), (0, Cond.code yX11_person cX11_person 3 (some .int)), (13, Cond.methodLink RL 42 yX11_dead), (0, Cond.instanceMethod yX11_dead), (0, Cond.selects RX11 yX11_dead yX11_dead), (0, Cond.code yX11_dead cX11_dead 3 (some .int)), (4, Cond.methodLink RL 46 yX11_house), (0, Cond.instanceMethod yX11_house), (0, Cond.selects RX11 yX11_house yX11_house)]
theorem LCW0_w : walkI LCW0 lw_tbl = true := by decide +kernel
theorem LCW0_g : LCW0.all (fun q => goodWord q.2) = true := by decide +kernel
theorem cl_L_8 : Cond.classLink RL 8 RX11 ∈ TW := walk_tw LCW0_w LCW0_g (i := 0) rfl
theorem in_X11 : Cond.instantiable RX11 16 ∈ TW := walk_tw LCW0_w LCW0_g (i := 1) rfl
theorem ml_L_15 : Cond.methodLink RL 15 yX11_init ∈ TW := walk_tw LCW0_w LCW0_g (i := 2) rfl
theorem im_X11_init : Cond.instanceMethod yX11_init ∈ TW := walk_tw LCW0_w LCW0_g (i := 3) rfl
theorem cd_X11_init : Cond.code yX11_init cX11_init 2 none ∈ TW := walk_tw LCW0_w LCW0_g (i := 4) rfl
theorem ml_L_19 : Cond.methodLink RL 19 yX11_feed ∈ TW := walk_tw LCW0_w LCW0_g (i := 5) rfl
theorem im_X11_feed : Cond.instanceMethod yX11_feed ∈ TW := walk_tw LCW0_w LCW0_g (i := 6) rfl
theorem se_X11_feed : Cond.selects RX11 yX11_feed yX11_feed ∈ TW := walk_tw LCW0_w LCW0_g (i := 7) rfl
theorem cd_X11_feed : Cond.code yX11_feed cX11_feed 6 (some .int) ∈ TW := walk_tw LCW0_w LCW0_g (i := 8) rfl
theorem ml_L_24 : Cond.methodLink RL 24 yX11_town ∈ TW := walk_tw LCW0_w LCW0_g (i := 9) rfl
theorem im_X11_town : Cond.instanceMethod yX11_town ∈ TW := walk_tw LCW0_w LCW0_g (i := 10) rfl
theorem se_X11_town : Cond.selects RX11 yX11_town yX11_town ∈ TW := walk_tw LCW0_w LCW0_g (i := 11) rfl
theorem cd_X11_town : Cond.code yX11_town cX11_town 3 (some .int) ∈ TW := walk_tw LCW0_w LCW0_g (i := 12) rfl
theorem ml_L_28 : Cond.methodLink RL 28 yX11_fault ∈ TW := walk_tw LCW0_w LCW0_g (i := 13) rfl
theorem im_X11_fault : Cond.instanceMethod yX11_fault ∈ TW := walk_tw LCW0_w LCW0_g (i := 14) rfl
theorem se_X11_fault : Cond.selects RX11 yX11_fault yX11_fault ∈ TW := walk_tw LCW0_w LCW0_g (i := 15) rfl
theorem cd_X11_fault : Cond.code yX11_fault cX11_fault 1 (some .int) ∈ TW := walk_tw LCW0_w LCW0_g (i := 16) rfl
theorem ml_L_33 : Cond.methodLink RL 33 yX11_where ∈ TW := walk_tw LCW0_w LCW0_g (i := 17) rfl
theorem im_X11_where : Cond.instanceMethod yX11_where ∈ TW := walk_tw LCW0_w LCW0_g (i := 18) rfl
theorem se_X11_where : Cond.selects RX11 yX11_where yX11_where ∈ TW := walk_tw LCW0_w LCW0_g (i := 19) rfl
theorem cd_X11_where : Cond.code yX11_where cX11_where 1 (some .int) ∈ TW := walk_tw LCW0_w LCW0_g (i := 20) rfl
theorem ml_L_37 : Cond.methodLink RL 37 yX11_person ∈ TW := walk_tw LCW0_w LCW0_g (i := 21) rfl
theorem im_X11_person : Cond.instanceMethod yX11_person ∈ TW := walk_tw LCW0_w LCW0_g (i := 22) rfl
theorem se_X11_person : Cond.selects RX11 yX11_person yX11_person ∈ TW := walk_tw LCW0_w LCW0_g (i := 23) rfl
theorem cd_X11_person : Cond.code yX11_person cX11_person 3 (some .int) ∈ TW := walk_tw LCW0_w LCW0_g (i := 24) rfl
theorem ml_L_42 : Cond.methodLink RL 42 yX11_dead ∈ TW := walk_tw LCW0_w LCW0_g (i := 25) rfl
theorem im_X11_dead : Cond.instanceMethod yX11_dead ∈ TW := walk_tw LCW0_w LCW0_g (i := 26) rfl
theorem se_X11_dead : Cond.selects RX11 yX11_dead yX11_dead ∈ TW := walk_tw LCW0_w LCW0_g (i := 27) rfl
theorem cd_X11_dead : Cond.code yX11_dead cX11_dead 3 (some .int) ∈ TW := walk_tw LCW0_w LCW0_g (i := 28) rfl
theorem ml_L_46 : Cond.methodLink RL 46 yX11_house ∈ TW := walk_tw LCW0_w LCW0_g (i := 29) rfl
theorem im_X11_house : Cond.instanceMethod yX11_house ∈ TW := walk_tw LCW0_w LCW0_g (i := 30) rfl
theorem se_X11_house : Cond.selects RX11 yX11_house yX11_house ∈ TW := walk_tw LCW0_w LCW0_g (i := 31) rfl
def LCW1 : List (Nat × Cond) := [(860, Cond.code yX11_house cX11_house 2 (some .int)), (8, Cond.methodLink RL 50 yX11_comesOut), (0, Cond.instanceMethod yX11_comesOut), (0, Cond.selects RX11 yX11_comesOut yX11_comesOut), (0, Cond.code yX11_comesOut cX11_comesOut 3 (some .int)), (4, Cond.methodLink RL 54 yX11_outIf), (0, Cond.instanceMethod yX11_outIf), (0, Cond.selects RX11 yX11_outIf yX11_outIf), (0, Cond.code yX11_outIf cX11_outIf 4 (some .int)), (1, Cond.methodLink RL 59 yX11_hears), (0, Cond.instanceMethod yX11_hears), (0, Cond.selects RX11 yX11_hears yX11_hears), (0, Cond.code yX11_hears cX11_hears 3 (some .int)), (1, Cond.methodLink RL 63 yX11_off), (0, Cond.instanceMethod yX11_off), (0, Cond.selects RX11 yX11_off yX11_off), (0, Cond.code yX11_off cX11_off 4 (some .int)), (1, Cond.methodLink RL 67 yX11_right), (0, Cond.instanceMethod yX11_right), (0, Cond.selects RX11 yX11_right yX11_right), (0, Cond.code yX11_right cX11_right 2 (some .int)), (12, Cond.methodLink RL 71 yX11_medium), (0, Cond.instanceMethod yX11_medium), (0, Cond.selects RX11 yX11_medium yX11_medium), (0, Cond.code yX11_medium cX11_medium 6 (some .int)), (6, Cond.methodLink RL 75 yX11_silent), (0, Cond.instanceMethod yX11_silent), (0, Cond.selects RX11 yX11_silent yX11_silent), (0, Cond.code yX11_silent cX11_silent 4 (some .int)), (0, Cond.methodLink RL 79 yX11_rightFrom), (0, Cond.instanceMethod yX11_rightFrom), (0, Cond.selects RX11 yX11_rightFrom yX11_rightFrom)]
theorem LCW1_w : walkI LCW1 lw_tbl = true := by decide +kernel
theorem LCW1_g : LCW1.all (fun q => goodWord q.2) = true := by decide +kernel
theorem cd_X11_house : Cond.code yX11_house cX11_house 2 (some .int) ∈ TW := walk_tw LCW1_w LCW1_g (i := 0) rfl
theorem ml_L_50 : Cond.methodLink RL 50 yX11_comesOut ∈ TW := walk_tw LCW1_w LCW1_g (i := 1) rfl
theorem im_X11_comesOut : Cond.instanceMethod yX11_comesOut ∈ TW := walk_tw LCW1_w LCW1_g (i := 2) rfl
theorem se_X11_comesOut : Cond.selects RX11 yX11_comesOut yX11_comesOut ∈ TW := walk_tw LCW1_w LCW1_g (i := 3) rfl
theorem cd_X11_comesOut : Cond.code yX11_comesOut cX11_comesOut 3 (some .int) ∈ TW := walk_tw LCW1_w LCW1_g (i := 4) rfl
theorem ml_L_54 : Cond.methodLink RL 54 yX11_outIf ∈ TW := walk_tw LCW1_w LCW1_g (i := 5) rfl
theorem im_X11_outIf : Cond.instanceMethod yX11_outIf ∈ TW := walk_tw LCW1_w LCW1_g (i := 6) rfl
theorem se_X11_outIf : Cond.selects RX11 yX11_outIf yX11_outIf ∈ TW := walk_tw LCW1_w LCW1_g (i := 7) rfl
theorem cd_X11_outIf : Cond.code yX11_outIf cX11_outIf 4 (some .int) ∈ TW := walk_tw LCW1_w LCW1_g (i := 8) rfl
theorem ml_L_59 : Cond.methodLink RL 59 yX11_hears ∈ TW := walk_tw LCW1_w LCW1_g (i := 9) rfl
theorem im_X11_hears : Cond.instanceMethod yX11_hears ∈ TW := walk_tw LCW1_w LCW1_g (i := 10) rfl
theorem se_X11_hears : Cond.selects RX11 yX11_hears yX11_hears ∈ TW := walk_tw LCW1_w LCW1_g (i := 11) rfl
theorem cd_X11_hears : Cond.code yX11_hears cX11_hears 3 (some .int) ∈ TW := walk_tw LCW1_w LCW1_g (i := 12) rfl
theorem ml_L_63 : Cond.methodLink RL 63 yX11_off ∈ TW := walk_tw LCW1_w LCW1_g (i := 13) rfl
theorem im_X11_off : Cond.instanceMethod yX11_off ∈ TW := walk_tw LCW1_w LCW1_g (i := 14) rfl
theorem se_X11_off : Cond.selects RX11 yX11_off yX11_off ∈ TW := walk_tw LCW1_w LCW1_g (i := 15) rfl
theorem cd_X11_off : Cond.code yX11_off cX11_off 4 (some .int) ∈ TW := walk_tw LCW1_w LCW1_g (i := 16) rfl
theorem ml_L_67 : Cond.methodLink RL 67 yX11_right ∈ TW := walk_tw LCW1_w LCW1_g (i := 17) rfl
theorem im_X11_right : Cond.instanceMethod yX11_right ∈ TW := walk_tw LCW1_w LCW1_g (i := 18) rfl
theorem se_X11_right : Cond.selects RX11 yX11_right yX11_right ∈ TW := walk_tw LCW1_w LCW1_g (i := 19) rfl
theorem cd_X11_right : Cond.code yX11_right cX11_right 2 (some .int) ∈ TW := walk_tw LCW1_w LCW1_g (i := 20) rfl
theorem ml_L_71 : Cond.methodLink RL 71 yX11_medium ∈ TW := walk_tw LCW1_w LCW1_g (i := 21) rfl
theorem im_X11_medium : Cond.instanceMethod yX11_medium ∈ TW := walk_tw LCW1_w LCW1_g (i := 22) rfl
theorem se_X11_medium : Cond.selects RX11 yX11_medium yX11_medium ∈ TW := walk_tw LCW1_w LCW1_g (i := 23) rfl
theorem cd_X11_medium : Cond.code yX11_medium cX11_medium 6 (some .int) ∈ TW := walk_tw LCW1_w LCW1_g (i := 24) rfl
theorem ml_L_75 : Cond.methodLink RL 75 yX11_silent ∈ TW := walk_tw LCW1_w LCW1_g (i := 25) rfl
theorem im_X11_silent : Cond.instanceMethod yX11_silent ∈ TW := walk_tw LCW1_w LCW1_g (i := 26) rfl
theorem se_X11_silent : Cond.selects RX11 yX11_silent yX11_silent ∈ TW := walk_tw LCW1_w LCW1_g (i := 27) rfl
theorem cd_X11_silent : Cond.code yX11_silent cX11_silent 4 (some .int) ∈ TW := walk_tw LCW1_w LCW1_g (i := 28) rfl
theorem ml_L_79 : Cond.methodLink RL 79 yX11_rightFrom ∈ TW := walk_tw LCW1_w LCW1_g (i := 29) rfl
theorem im_X11_rightFrom : Cond.instanceMethod yX11_rightFrom ∈ TW := walk_tw LCW1_w LCW1_g (i := 30) rfl
theorem se_X11_rightFrom : Cond.selects RX11 yX11_rightFrom yX11_rightFrom ∈ TW := walk_tw LCW1_w LCW1_g (i := 31) rfl
def LCW2 : List (Nat × Cond) := [(925, Cond.code yX11_rightFrom cX11_rightFrom 4 (some .int)), (1, Cond.methodLink RL 83 yX11_nightsOf), (0, Cond.instanceMethod yX11_nightsOf), (0, Cond.selects RX11 yX11_nightsOf yX11_nightsOf), (0, Cond.code yX11_nightsOf cX11_nightsOf 5 (some .int)), (0, Cond.methodLink RL 87 yX11_round), (0, Cond.instanceMethod yX11_round), (0, Cond.selects RX11 yX11_round yX11_round), (0, Cond.code yX11_round cX11_round 3 (some .int)), (5, Cond.methodLink RL 91 yX11_bestNight), (0, Cond.instanceMethod yX11_bestNight), (0, Cond.selects RX11 yX11_bestNight yX11_bestNight), (0, Cond.code yX11_bestNight cX11_bestNight 5 (some .int)), (6, Cond.methodLink RL 95 yX11_perfect), (0, Cond.instanceMethod yX11_perfect), (0, Cond.selects RX11 yX11_perfect yX11_perfect), (0, Cond.code yX11_perfect cX11_perfect 3 (some .int)), (0, Cond.methodLink RL 99 yX11_together), (0, Cond.instanceMethod yX11_together), (0, Cond.selects RX11 yX11_together yX11_together), (0, Cond.code yX11_together cX11_together 4 (some .int)), (0, Cond.methodLink RL 103 yX11_aimFor), (0, Cond.instanceMethod yX11_aimFor), (0, Cond.selects RX11 yX11_aimFor yX11_aimFor), (0, Cond.code yX11_aimFor cX11_aimFor 5 (some .int)), (4, Cond.methodLink RL 107 yX11_aims), (0, Cond.instanceMethod yX11_aims), (0, Cond.selects RX11 yX11_aims yX11_aims), (0, Cond.code yX11_aims cX11_aims 6 (some .int)), (0, Cond.methodLink RL 111 yX11_mirrorFor), (0, Cond.instanceMethod yX11_mirrorFor), (0, Cond.selects RX11 yX11_mirrorFor yX11_mirrorFor)]
theorem LCW2_w : walkI LCW2 lw_tbl = true := by decide +kernel
theorem LCW2_g : LCW2.all (fun q => goodWord q.2) = true := by decide +kernel
theorem cd_X11_rightFrom : Cond.code yX11_rightFrom cX11_rightFrom 4 (some .int) ∈ TW := walk_tw LCW2_w LCW2_g (i := 0) rfl
theorem ml_L_83 : Cond.methodLink RL 83 yX11_nightsOf ∈ TW := walk_tw LCW2_w LCW2_g (i := 1) rfl
theorem im_X11_nightsOf : Cond.instanceMethod yX11_nightsOf ∈ TW := walk_tw LCW2_w LCW2_g (i := 2) rfl
theorem se_X11_nightsOf : Cond.selects RX11 yX11_nightsOf yX11_nightsOf ∈ TW := walk_tw LCW2_w LCW2_g (i := 3) rfl
theorem cd_X11_nightsOf : Cond.code yX11_nightsOf cX11_nightsOf 5 (some .int) ∈ TW := walk_tw LCW2_w LCW2_g (i := 4) rfl
theorem ml_L_87 : Cond.methodLink RL 87 yX11_round ∈ TW := walk_tw LCW2_w LCW2_g (i := 5) rfl
theorem im_X11_round : Cond.instanceMethod yX11_round ∈ TW := walk_tw LCW2_w LCW2_g (i := 6) rfl
theorem se_X11_round : Cond.selects RX11 yX11_round yX11_round ∈ TW := walk_tw LCW2_w LCW2_g (i := 7) rfl
theorem cd_X11_round : Cond.code yX11_round cX11_round 3 (some .int) ∈ TW := walk_tw LCW2_w LCW2_g (i := 8) rfl
theorem ml_L_91 : Cond.methodLink RL 91 yX11_bestNight ∈ TW := walk_tw LCW2_w LCW2_g (i := 9) rfl
theorem im_X11_bestNight : Cond.instanceMethod yX11_bestNight ∈ TW := walk_tw LCW2_w LCW2_g (i := 10) rfl
theorem se_X11_bestNight : Cond.selects RX11 yX11_bestNight yX11_bestNight ∈ TW := walk_tw LCW2_w LCW2_g (i := 11) rfl
theorem cd_X11_bestNight : Cond.code yX11_bestNight cX11_bestNight 5 (some .int) ∈ TW := walk_tw LCW2_w LCW2_g (i := 12) rfl
theorem ml_L_95 : Cond.methodLink RL 95 yX11_perfect ∈ TW := walk_tw LCW2_w LCW2_g (i := 13) rfl
theorem im_X11_perfect : Cond.instanceMethod yX11_perfect ∈ TW := walk_tw LCW2_w LCW2_g (i := 14) rfl
theorem se_X11_perfect : Cond.selects RX11 yX11_perfect yX11_perfect ∈ TW := walk_tw LCW2_w LCW2_g (i := 15) rfl
theorem cd_X11_perfect : Cond.code yX11_perfect cX11_perfect 3 (some .int) ∈ TW := walk_tw LCW2_w LCW2_g (i := 16) rfl
theorem ml_L_99 : Cond.methodLink RL 99 yX11_together ∈ TW := walk_tw LCW2_w LCW2_g (i := 17) rfl
theorem im_X11_together : Cond.instanceMethod yX11_together ∈ TW := walk_tw LCW2_w LCW2_g (i := 18) rfl
theorem se_X11_together : Cond.selects RX11 yX11_together yX11_together ∈ TW := walk_tw LCW2_w LCW2_g (i := 19) rfl
theorem cd_X11_together : Cond.code yX11_together cX11_together 4 (some .int) ∈ TW := walk_tw LCW2_w LCW2_g (i := 20) rfl
theorem ml_L_103 : Cond.methodLink RL 103 yX11_aimFor ∈ TW := walk_tw LCW2_w LCW2_g (i := 21) rfl
theorem im_X11_aimFor : Cond.instanceMethod yX11_aimFor ∈ TW := walk_tw LCW2_w LCW2_g (i := 22) rfl
theorem se_X11_aimFor : Cond.selects RX11 yX11_aimFor yX11_aimFor ∈ TW := walk_tw LCW2_w LCW2_g (i := 23) rfl
theorem cd_X11_aimFor : Cond.code yX11_aimFor cX11_aimFor 5 (some .int) ∈ TW := walk_tw LCW2_w LCW2_g (i := 24) rfl
theorem ml_L_107 : Cond.methodLink RL 107 yX11_aims ∈ TW := walk_tw LCW2_w LCW2_g (i := 25) rfl
theorem im_X11_aims : Cond.instanceMethod yX11_aims ∈ TW := walk_tw LCW2_w LCW2_g (i := 26) rfl
theorem se_X11_aims : Cond.selects RX11 yX11_aims yX11_aims ∈ TW := walk_tw LCW2_w LCW2_g (i := 27) rfl
theorem cd_X11_aims : Cond.code yX11_aims cX11_aims 6 (some .int) ∈ TW := walk_tw LCW2_w LCW2_g (i := 28) rfl
theorem ml_L_111 : Cond.methodLink RL 111 yX11_mirrorFor ∈ TW := walk_tw LCW2_w LCW2_g (i := 29) rfl
theorem im_X11_mirrorFor : Cond.instanceMethod yX11_mirrorFor ∈ TW := walk_tw LCW2_w LCW2_g (i := 30) rfl
theorem se_X11_mirrorFor : Cond.selects RX11 yX11_mirrorFor yX11_mirrorFor ∈ TW := walk_tw LCW2_w LCW2_g (i := 31) rfl
def LCW3 : List (Nat × Cond) := [(973, Cond.code yX11_mirrorFor cX11_mirrorFor 4 (some .int)), (4, Cond.methodLink RL 115 yX11_mirrorBest), (0, Cond.instanceMethod yX11_mirrorBest), (0, Cond.selects RX11 yX11_mirrorBest yX11_mirrorBest), (0, Cond.code yX11_mirrorBest cX11_mirrorBest 6 (some .int)), (5, Cond.methodLink RL 119 yX11_slipFor), (0, Cond.instanceMethod yX11_slipFor), (0, Cond.selects RX11 yX11_slipFor yX11_slipFor), (0, Cond.code yX11_slipFor cX11_slipFor 4 (some .int)), (0, Cond.methodLink RL 123 yX11_seat), (0, Cond.instanceMethod yX11_seat), (0, Cond.selects RX11 yX11_seat yX11_seat), (0, Cond.code yX11_seat cX11_seat 2 (some .int)), (17, Cond.methodLink RL 127 yX11_seatAt), (0, Cond.instanceMethod yX11_seatAt), (0, Cond.selects RX11 yX11_seatAt yX11_seatAt), (0, Cond.code yX11_seatAt cX11_seatAt 3 (some .int)), (9, Cond.methodLink RL 131 yX11_likes), (0, Cond.instanceMethod yX11_likes), (0, Cond.selects RX11 yX11_likes yX11_likes), (0, Cond.code yX11_likes cX11_likes 4 (some .int)), (4, Cond.methodLink RL 135 yX11_restless), (0, Cond.instanceMethod yX11_restless), (0, Cond.selects RX11 yX11_restless yX11_restless), (0, Cond.code yX11_restless cX11_restless 5 (some .int)), (0, Cond.methodLink RL 139 yX11_moveFor), (0, Cond.instanceMethod yX11_moveFor), (0, Cond.selects RX11 yX11_moveFor yX11_moveFor), (0, Cond.code yX11_moveFor cX11_moveFor 7 (some .int)), (4, Cond.methodLink RL 143 yX11_bring), (0, Cond.instanceMethod yX11_bring), (0, Cond.selects RX11 yX11_bring yX11_bring)]
theorem LCW3_w : walkI LCW3 lw_tbl = true := by decide +kernel
theorem LCW3_g : LCW3.all (fun q => goodWord q.2) = true := by decide +kernel
theorem cd_X11_mirrorFor : Cond.code yX11_mirrorFor cX11_mirrorFor 4 (some .int) ∈ TW := walk_tw LCW3_w LCW3_g (i := 0) rfl
theorem ml_L_115 : Cond.methodLink RL 115 yX11_mirrorBest ∈ TW := walk_tw LCW3_w LCW3_g (i := 1) rfl
theorem im_X11_mirrorBest : Cond.instanceMethod yX11_mirrorBest ∈ TW := walk_tw LCW3_w LCW3_g (i := 2) rfl
theorem se_X11_mirrorBest : Cond.selects RX11 yX11_mirrorBest yX11_mirrorBest ∈ TW := walk_tw LCW3_w LCW3_g (i := 3) rfl
theorem cd_X11_mirrorBest : Cond.code yX11_mirrorBest cX11_mirrorBest 6 (some .int) ∈ TW := walk_tw LCW3_w LCW3_g (i := 4) rfl
theorem ml_L_119 : Cond.methodLink RL 119 yX11_slipFor ∈ TW := walk_tw LCW3_w LCW3_g (i := 5) rfl
theorem im_X11_slipFor : Cond.instanceMethod yX11_slipFor ∈ TW := walk_tw LCW3_w LCW3_g (i := 6) rfl
theorem se_X11_slipFor : Cond.selects RX11 yX11_slipFor yX11_slipFor ∈ TW := walk_tw LCW3_w LCW3_g (i := 7) rfl
theorem cd_X11_slipFor : Cond.code yX11_slipFor cX11_slipFor 4 (some .int) ∈ TW := walk_tw LCW3_w LCW3_g (i := 8) rfl
theorem ml_L_123 : Cond.methodLink RL 123 yX11_seat ∈ TW := walk_tw LCW3_w LCW3_g (i := 9) rfl
theorem im_X11_seat : Cond.instanceMethod yX11_seat ∈ TW := walk_tw LCW3_w LCW3_g (i := 10) rfl
theorem se_X11_seat : Cond.selects RX11 yX11_seat yX11_seat ∈ TW := walk_tw LCW3_w LCW3_g (i := 11) rfl
theorem cd_X11_seat : Cond.code yX11_seat cX11_seat 2 (some .int) ∈ TW := walk_tw LCW3_w LCW3_g (i := 12) rfl
theorem ml_L_127 : Cond.methodLink RL 127 yX11_seatAt ∈ TW := walk_tw LCW3_w LCW3_g (i := 13) rfl
theorem im_X11_seatAt : Cond.instanceMethod yX11_seatAt ∈ TW := walk_tw LCW3_w LCW3_g (i := 14) rfl
theorem se_X11_seatAt : Cond.selects RX11 yX11_seatAt yX11_seatAt ∈ TW := walk_tw LCW3_w LCW3_g (i := 15) rfl
theorem cd_X11_seatAt : Cond.code yX11_seatAt cX11_seatAt 3 (some .int) ∈ TW := walk_tw LCW3_w LCW3_g (i := 16) rfl
theorem ml_L_131 : Cond.methodLink RL 131 yX11_likes ∈ TW := walk_tw LCW3_w LCW3_g (i := 17) rfl
theorem im_X11_likes : Cond.instanceMethod yX11_likes ∈ TW := walk_tw LCW3_w LCW3_g (i := 18) rfl
theorem se_X11_likes : Cond.selects RX11 yX11_likes yX11_likes ∈ TW := walk_tw LCW3_w LCW3_g (i := 19) rfl
theorem cd_X11_likes : Cond.code yX11_likes cX11_likes 4 (some .int) ∈ TW := walk_tw LCW3_w LCW3_g (i := 20) rfl
theorem ml_L_135 : Cond.methodLink RL 135 yX11_restless ∈ TW := walk_tw LCW3_w LCW3_g (i := 21) rfl
theorem im_X11_restless : Cond.instanceMethod yX11_restless ∈ TW := walk_tw LCW3_w LCW3_g (i := 22) rfl
theorem se_X11_restless : Cond.selects RX11 yX11_restless yX11_restless ∈ TW := walk_tw LCW3_w LCW3_g (i := 23) rfl
theorem cd_X11_restless : Cond.code yX11_restless cX11_restless 5 (some .int) ∈ TW := walk_tw LCW3_w LCW3_g (i := 24) rfl
theorem ml_L_139 : Cond.methodLink RL 139 yX11_moveFor ∈ TW := walk_tw LCW3_w LCW3_g (i := 25) rfl
theorem im_X11_moveFor : Cond.instanceMethod yX11_moveFor ∈ TW := walk_tw LCW3_w LCW3_g (i := 26) rfl
theorem se_X11_moveFor : Cond.selects RX11 yX11_moveFor yX11_moveFor ∈ TW := walk_tw LCW3_w LCW3_g (i := 27) rfl
theorem cd_X11_moveFor : Cond.code yX11_moveFor cX11_moveFor 7 (some .int) ∈ TW := walk_tw LCW3_w LCW3_g (i := 28) rfl
theorem ml_L_143 : Cond.methodLink RL 143 yX11_bring ∈ TW := walk_tw LCW3_w LCW3_g (i := 29) rfl
theorem im_X11_bring : Cond.instanceMethod yX11_bring ∈ TW := walk_tw LCW3_w LCW3_g (i := 30) rfl
theorem se_X11_bring : Cond.selects RX11 yX11_bring yX11_bring ∈ TW := walk_tw LCW3_w LCW3_g (i := 31) rfl
def LCW4 : List (Nat × Cond) := [(1048, Cond.code yX11_bring cX11_bring 3 (some .int)), (32, Cond.methodLink RL 147 yX11_bringFrom), (0, Cond.instanceMethod yX11_bringFrom), (0, Cond.selects RX11 yX11_bringFrom yX11_bringFrom), (0, Cond.code yX11_bringFrom cX11_bringFrom 6 (some .int)), (1, Cond.methodLink RL 151 yX11_steps), (0, Cond.instanceMethod yX11_steps), (0, Cond.selects RX11 yX11_steps yX11_steps), (0, Cond.code yX11_steps cX11_steps 3 (some .int)), (1, Cond.methodLink RL 155 yX11_ring), (0, Cond.instanceMethod yX11_ring), (0, Cond.selects RX11 yX11_ring yX11_ring), (0, Cond.code yX11_ring cX11_ring 3 (some .int)), (12, Cond.methodLink RL 159 yX11_ringAt), (0, Cond.instanceMethod yX11_ringAt), (0, Cond.selects RX11 yX11_ringAt yX11_ringAt), (0, Cond.code yX11_ringAt cX11_ringAt 6 (some .int)), (0, Cond.methodLink RL 163 yX11_fits), (0, Cond.instanceMethod yX11_fits), (0, Cond.selects RX11 yX11_fits yX11_fits), (0, Cond.code yX11_fits cX11_fits 1 (some .int)), (0, Cond.methodLink RL 167 yX11_fitAt), (0, Cond.instanceMethod yX11_fitAt), (0, Cond.selects RX11 yX11_fitAt yX11_fitAt), (0, Cond.code yX11_fitAt cX11_fitAt 2 (some .int)), (0, Cond.methodLink RL 171 yX11_could), (0, Cond.instanceMethod yX11_could), (0, Cond.selects RX11 yX11_could yX11_could), (0, Cond.code yX11_could cX11_could 1 (some .int)), (4, Cond.methodLink RL 175 yX11_surely), (0, Cond.instanceMethod yX11_surely), (0, Cond.selects RX11 yX11_surely yX11_surely)]
theorem LCW4_w : walkI LCW4 lw_tbl = true := by decide +kernel
theorem LCW4_g : LCW4.all (fun q => goodWord q.2) = true := by decide +kernel
theorem cd_X11_bring : Cond.code yX11_bring cX11_bring 3 (some .int) ∈ TW := walk_tw LCW4_w LCW4_g (i := 0) rfl
theorem ml_L_147 : Cond.methodLink RL 147 yX11_bringFrom ∈ TW := walk_tw LCW4_w LCW4_g (i := 1) rfl
theorem im_X11_bringFrom : Cond.instanceMethod yX11_bringFrom ∈ TW := walk_tw LCW4_w LCW4_g (i := 2) rfl
theorem se_X11_bringFrom : Cond.selects RX11 yX11_bringFrom yX11_bringFrom ∈ TW := walk_tw LCW4_w LCW4_g (i := 3) rfl
theorem cd_X11_bringFrom : Cond.code yX11_bringFrom cX11_bringFrom 6 (some .int) ∈ TW := walk_tw LCW4_w LCW4_g (i := 4) rfl
theorem ml_L_151 : Cond.methodLink RL 151 yX11_steps ∈ TW := walk_tw LCW4_w LCW4_g (i := 5) rfl
theorem im_X11_steps : Cond.instanceMethod yX11_steps ∈ TW := walk_tw LCW4_w LCW4_g (i := 6) rfl
theorem se_X11_steps : Cond.selects RX11 yX11_steps yX11_steps ∈ TW := walk_tw LCW4_w LCW4_g (i := 7) rfl
theorem cd_X11_steps : Cond.code yX11_steps cX11_steps 3 (some .int) ∈ TW := walk_tw LCW4_w LCW4_g (i := 8) rfl
theorem ml_L_155 : Cond.methodLink RL 155 yX11_ring ∈ TW := walk_tw LCW4_w LCW4_g (i := 9) rfl
theorem im_X11_ring : Cond.instanceMethod yX11_ring ∈ TW := walk_tw LCW4_w LCW4_g (i := 10) rfl
theorem se_X11_ring : Cond.selects RX11 yX11_ring yX11_ring ∈ TW := walk_tw LCW4_w LCW4_g (i := 11) rfl
theorem cd_X11_ring : Cond.code yX11_ring cX11_ring 3 (some .int) ∈ TW := walk_tw LCW4_w LCW4_g (i := 12) rfl
theorem ml_L_159 : Cond.methodLink RL 159 yX11_ringAt ∈ TW := walk_tw LCW4_w LCW4_g (i := 13) rfl
theorem im_X11_ringAt : Cond.instanceMethod yX11_ringAt ∈ TW := walk_tw LCW4_w LCW4_g (i := 14) rfl
theorem se_X11_ringAt : Cond.selects RX11 yX11_ringAt yX11_ringAt ∈ TW := walk_tw LCW4_w LCW4_g (i := 15) rfl
theorem cd_X11_ringAt : Cond.code yX11_ringAt cX11_ringAt 6 (some .int) ∈ TW := walk_tw LCW4_w LCW4_g (i := 16) rfl
theorem ml_L_163 : Cond.methodLink RL 163 yX11_fits ∈ TW := walk_tw LCW4_w LCW4_g (i := 17) rfl
theorem im_X11_fits : Cond.instanceMethod yX11_fits ∈ TW := walk_tw LCW4_w LCW4_g (i := 18) rfl
theorem se_X11_fits : Cond.selects RX11 yX11_fits yX11_fits ∈ TW := walk_tw LCW4_w LCW4_g (i := 19) rfl
theorem cd_X11_fits : Cond.code yX11_fits cX11_fits 1 (some .int) ∈ TW := walk_tw LCW4_w LCW4_g (i := 20) rfl
theorem ml_L_167 : Cond.methodLink RL 167 yX11_fitAt ∈ TW := walk_tw LCW4_w LCW4_g (i := 21) rfl
theorem im_X11_fitAt : Cond.instanceMethod yX11_fitAt ∈ TW := walk_tw LCW4_w LCW4_g (i := 22) rfl
theorem se_X11_fitAt : Cond.selects RX11 yX11_fitAt yX11_fitAt ∈ TW := walk_tw LCW4_w LCW4_g (i := 23) rfl
theorem cd_X11_fitAt : Cond.code yX11_fitAt cX11_fitAt 2 (some .int) ∈ TW := walk_tw LCW4_w LCW4_g (i := 24) rfl
theorem ml_L_171 : Cond.methodLink RL 171 yX11_could ∈ TW := walk_tw LCW4_w LCW4_g (i := 25) rfl
theorem im_X11_could : Cond.instanceMethod yX11_could ∈ TW := walk_tw LCW4_w LCW4_g (i := 26) rfl
theorem se_X11_could : Cond.selects RX11 yX11_could yX11_could ∈ TW := walk_tw LCW4_w LCW4_g (i := 27) rfl
theorem cd_X11_could : Cond.code yX11_could cX11_could 1 (some .int) ∈ TW := walk_tw LCW4_w LCW4_g (i := 28) rfl
theorem ml_L_175 : Cond.methodLink RL 175 yX11_surely ∈ TW := walk_tw LCW4_w LCW4_g (i := 29) rfl
theorem im_X11_surely : Cond.instanceMethod yX11_surely ∈ TW := walk_tw LCW4_w LCW4_g (i := 30) rfl
theorem se_X11_surely : Cond.selects RX11 yX11_surely yX11_surely ∈ TW := walk_tw LCW4_w LCW4_g (i := 31) rfl
def LCW5 : List (Nat × Cond) := [(1130, Cond.code yX11_surely cX11_surely 1 (some .int)), (4, Cond.methodLink RL 179 yX11_ask), (0, Cond.instanceMethod yX11_ask), (0, Cond.selects RX11 yX11_ask yX11_ask), (0, Cond.code yX11_ask cX11_ask 1 (some .int)), (10, Cond.methodLink RL 183 yX11_askLeaves), (0, Cond.instanceMethod yX11_askLeaves), (0, Cond.selects RX11 yX11_askLeaves yX11_askLeaves), (0, Cond.code yX11_askLeaves cX11_askLeaves 2 (some .int)), (1, Cond.methodLink RL 187 yX11_judge), (0, Cond.instanceMethod yX11_judge), (0, Cond.selects RX11 yX11_judge yX11_judge), (0, Cond.code yX11_judge cX11_judge 1 (some .int)), (0, Cond.methodLink RL 191 yX11_chat), (0, Cond.instanceMethod yX11_chat), (0, Cond.selects RX11 yX11_chat yX11_chat), (0, Cond.code yX11_chat cX11_chat 5 (some .int)), (6, Cond.methodLink RL 196 yX11_rests), (0, Cond.instanceMethod yX11_rests), (0, Cond.selects RX11 yX11_rests yX11_rests), (0, Cond.code yX11_rests cX11_rests 4 (some .int)), (9, Cond.methodLink RL 200 yX11_rest), (0, Cond.instanceMethod yX11_rest), (0, Cond.selects RX11 yX11_rest yX11_rest), (0, Cond.code yX11_rest cX11_rest 3 (some .int)), (0, Cond.methodLink RL 204 yX11_odds), (0, Cond.instanceMethod yX11_odds), (0, Cond.selects RX11 yX11_odds yX11_odds), (0, Cond.code yX11_odds cX11_odds 4 (some .long)), (17, Cond.methodLink RL 209 yX11_most), (0, Cond.instanceMethod yX11_most), (0, Cond.selects RX11 yX11_most yX11_most)]
theorem LCW5_w : walkI LCW5 lw_tbl = true := by decide +kernel
theorem LCW5_g : LCW5.all (fun q => goodWord q.2) = true := by decide +kernel
theorem cd_X11_surely : Cond.code yX11_surely cX11_surely 1 (some .int) ∈ TW := walk_tw LCW5_w LCW5_g (i := 0) rfl
theorem ml_L_179 : Cond.methodLink RL 179 yX11_ask ∈ TW := walk_tw LCW5_w LCW5_g (i := 1) rfl
theorem im_X11_ask : Cond.instanceMethod yX11_ask ∈ TW := walk_tw LCW5_w LCW5_g (i := 2) rfl
theorem se_X11_ask : Cond.selects RX11 yX11_ask yX11_ask ∈ TW := walk_tw LCW5_w LCW5_g (i := 3) rfl
theorem cd_X11_ask : Cond.code yX11_ask cX11_ask 1 (some .int) ∈ TW := walk_tw LCW5_w LCW5_g (i := 4) rfl
theorem ml_L_183 : Cond.methodLink RL 183 yX11_askLeaves ∈ TW := walk_tw LCW5_w LCW5_g (i := 5) rfl
theorem im_X11_askLeaves : Cond.instanceMethod yX11_askLeaves ∈ TW := walk_tw LCW5_w LCW5_g (i := 6) rfl
theorem se_X11_askLeaves : Cond.selects RX11 yX11_askLeaves yX11_askLeaves ∈ TW := walk_tw LCW5_w LCW5_g (i := 7) rfl
theorem cd_X11_askLeaves : Cond.code yX11_askLeaves cX11_askLeaves 2 (some .int) ∈ TW := walk_tw LCW5_w LCW5_g (i := 8) rfl
theorem ml_L_187 : Cond.methodLink RL 187 yX11_judge ∈ TW := walk_tw LCW5_w LCW5_g (i := 9) rfl
theorem im_X11_judge : Cond.instanceMethod yX11_judge ∈ TW := walk_tw LCW5_w LCW5_g (i := 10) rfl
theorem se_X11_judge : Cond.selects RX11 yX11_judge yX11_judge ∈ TW := walk_tw LCW5_w LCW5_g (i := 11) rfl
theorem cd_X11_judge : Cond.code yX11_judge cX11_judge 1 (some .int) ∈ TW := walk_tw LCW5_w LCW5_g (i := 12) rfl
theorem ml_L_191 : Cond.methodLink RL 191 yX11_chat ∈ TW := walk_tw LCW5_w LCW5_g (i := 13) rfl
theorem im_X11_chat : Cond.instanceMethod yX11_chat ∈ TW := walk_tw LCW5_w LCW5_g (i := 14) rfl
theorem se_X11_chat : Cond.selects RX11 yX11_chat yX11_chat ∈ TW := walk_tw LCW5_w LCW5_g (i := 15) rfl
theorem cd_X11_chat : Cond.code yX11_chat cX11_chat 5 (some .int) ∈ TW := walk_tw LCW5_w LCW5_g (i := 16) rfl
theorem ml_L_196 : Cond.methodLink RL 196 yX11_rests ∈ TW := walk_tw LCW5_w LCW5_g (i := 17) rfl
theorem im_X11_rests : Cond.instanceMethod yX11_rests ∈ TW := walk_tw LCW5_w LCW5_g (i := 18) rfl
theorem se_X11_rests : Cond.selects RX11 yX11_rests yX11_rests ∈ TW := walk_tw LCW5_w LCW5_g (i := 19) rfl
theorem cd_X11_rests : Cond.code yX11_rests cX11_rests 4 (some .int) ∈ TW := walk_tw LCW5_w LCW5_g (i := 20) rfl
theorem ml_L_200 : Cond.methodLink RL 200 yX11_rest ∈ TW := walk_tw LCW5_w LCW5_g (i := 21) rfl
theorem im_X11_rest : Cond.instanceMethod yX11_rest ∈ TW := walk_tw LCW5_w LCW5_g (i := 22) rfl
theorem se_X11_rest : Cond.selects RX11 yX11_rest yX11_rest ∈ TW := walk_tw LCW5_w LCW5_g (i := 23) rfl
theorem cd_X11_rest : Cond.code yX11_rest cX11_rest 3 (some .int) ∈ TW := walk_tw LCW5_w LCW5_g (i := 24) rfl
theorem ml_L_204 : Cond.methodLink RL 204 yX11_odds ∈ TW := walk_tw LCW5_w LCW5_g (i := 25) rfl
theorem im_X11_odds : Cond.instanceMethod yX11_odds ∈ TW := walk_tw LCW5_w LCW5_g (i := 26) rfl
theorem se_X11_odds : Cond.selects RX11 yX11_odds yX11_odds ∈ TW := walk_tw LCW5_w LCW5_g (i := 27) rfl
theorem cd_X11_odds : Cond.code yX11_odds cX11_odds 4 (some .long) ∈ TW := walk_tw LCW5_w LCW5_g (i := 28) rfl
theorem ml_L_209 : Cond.methodLink RL 209 yX11_most ∈ TW := walk_tw LCW5_w LCW5_g (i := 29) rfl
theorem im_X11_most : Cond.instanceMethod yX11_most ∈ TW := walk_tw LCW5_w LCW5_g (i := 30) rfl
theorem se_X11_most : Cond.selects RX11 yX11_most yX11_most ∈ TW := walk_tw LCW5_w LCW5_g (i := 31) rfl
def LCW6 : List (Nat × Cond) := [(1209, Cond.code yX11_most cX11_most 4 (some .long)), (9, Cond.methodLink RL 213 yX11_mean), (0, Cond.instanceMethod yX11_mean), (0, Cond.selects RX11 yX11_mean yX11_mean), (0, Cond.code yX11_mean cX11_mean 7 (some .long)), (0, Cond.methodLink RL 217 yX11_heardBy), (0, Cond.instanceMethod yX11_heardBy), (0, Cond.selects RX11 yX11_heardBy yX11_heardBy), (0, Cond.code yX11_heardBy cX11_heardBy 4 (some .int)), (17, Cond.methodLink RL 221 yX11_rights), (0, Cond.instanceMethod yX11_rights), (0, Cond.selects RX11 yX11_rights yX11_rights), (0, Cond.code yX11_rights cX11_rights 6 (some .int)), (0, Cond.methodLink RL 225 yX11_night), (0, Cond.instanceMethod yX11_night), (0, Cond.selects RX11 yX11_night yX11_night), (0, Cond.code yX11_night cX11_night 2 (some .int)), (8, Cond.methodLink RL 229 yX11_move), (0, Cond.instanceMethod yX11_move), (0, Cond.selects RX11 yX11_move yX11_move), (0, Cond.code yX11_move cX11_move 4 (some .int)), (0, Cond.methodLink RL 233 yX11_hang), (0, Cond.instanceMethod yX11_hang), (0, Cond.selects RX11 yX11_hang yX11_hang), (0, Cond.code yX11_hang cX11_hang 3 (some .boolean)), (4, Cond.methodLink RL 238 yX11_take), (0, Cond.instanceMethod yX11_take), (0, Cond.selects RX11 yX11_take yX11_take), (0, Cond.code yX11_take cX11_take 2 (some .boolean)), (0, Cond.methodLink RL 243 yX11_teach), (0, Cond.instanceMethod yX11_teach), (0, Cond.selects RX11 yX11_teach yX11_teach)]
theorem LCW6_w : walkI LCW6 lw_tbl = true := by decide +kernel
theorem LCW6_g : LCW6.all (fun q => goodWord q.2) = true := by decide +kernel
theorem cd_X11_most : Cond.code yX11_most cX11_most 4 (some .long) ∈ TW := walk_tw LCW6_w LCW6_g (i := 0) rfl
theorem ml_L_213 : Cond.methodLink RL 213 yX11_mean ∈ TW := walk_tw LCW6_w LCW6_g (i := 1) rfl
theorem im_X11_mean : Cond.instanceMethod yX11_mean ∈ TW := walk_tw LCW6_w LCW6_g (i := 2) rfl
theorem se_X11_mean : Cond.selects RX11 yX11_mean yX11_mean ∈ TW := walk_tw LCW6_w LCW6_g (i := 3) rfl
theorem cd_X11_mean : Cond.code yX11_mean cX11_mean 7 (some .long) ∈ TW := walk_tw LCW6_w LCW6_g (i := 4) rfl
theorem ml_L_217 : Cond.methodLink RL 217 yX11_heardBy ∈ TW := walk_tw LCW6_w LCW6_g (i := 5) rfl
theorem im_X11_heardBy : Cond.instanceMethod yX11_heardBy ∈ TW := walk_tw LCW6_w LCW6_g (i := 6) rfl
theorem se_X11_heardBy : Cond.selects RX11 yX11_heardBy yX11_heardBy ∈ TW := walk_tw LCW6_w LCW6_g (i := 7) rfl
theorem cd_X11_heardBy : Cond.code yX11_heardBy cX11_heardBy 4 (some .int) ∈ TW := walk_tw LCW6_w LCW6_g (i := 8) rfl
theorem ml_L_221 : Cond.methodLink RL 221 yX11_rights ∈ TW := walk_tw LCW6_w LCW6_g (i := 9) rfl
theorem im_X11_rights : Cond.instanceMethod yX11_rights ∈ TW := walk_tw LCW6_w LCW6_g (i := 10) rfl
theorem se_X11_rights : Cond.selects RX11 yX11_rights yX11_rights ∈ TW := walk_tw LCW6_w LCW6_g (i := 11) rfl
theorem cd_X11_rights : Cond.code yX11_rights cX11_rights 6 (some .int) ∈ TW := walk_tw LCW6_w LCW6_g (i := 12) rfl
theorem ml_L_225 : Cond.methodLink RL 225 yX11_night ∈ TW := walk_tw LCW6_w LCW6_g (i := 13) rfl
theorem im_X11_night : Cond.instanceMethod yX11_night ∈ TW := walk_tw LCW6_w LCW6_g (i := 14) rfl
theorem se_X11_night : Cond.selects RX11 yX11_night yX11_night ∈ TW := walk_tw LCW6_w LCW6_g (i := 15) rfl
theorem cd_X11_night : Cond.code yX11_night cX11_night 2 (some .int) ∈ TW := walk_tw LCW6_w LCW6_g (i := 16) rfl
theorem ml_L_229 : Cond.methodLink RL 229 yX11_move ∈ TW := walk_tw LCW6_w LCW6_g (i := 17) rfl
theorem im_X11_move : Cond.instanceMethod yX11_move ∈ TW := walk_tw LCW6_w LCW6_g (i := 18) rfl
theorem se_X11_move : Cond.selects RX11 yX11_move yX11_move ∈ TW := walk_tw LCW6_w LCW6_g (i := 19) rfl
theorem cd_X11_move : Cond.code yX11_move cX11_move 4 (some .int) ∈ TW := walk_tw LCW6_w LCW6_g (i := 20) rfl
theorem ml_L_233 : Cond.methodLink RL 233 yX11_hang ∈ TW := walk_tw LCW6_w LCW6_g (i := 21) rfl
theorem im_X11_hang : Cond.instanceMethod yX11_hang ∈ TW := walk_tw LCW6_w LCW6_g (i := 22) rfl
theorem se_X11_hang : Cond.selects RX11 yX11_hang yX11_hang ∈ TW := walk_tw LCW6_w LCW6_g (i := 23) rfl
theorem cd_X11_hang : Cond.code yX11_hang cX11_hang 3 (some .boolean) ∈ TW := walk_tw LCW6_w LCW6_g (i := 24) rfl
theorem ml_L_238 : Cond.methodLink RL 238 yX11_take ∈ TW := walk_tw LCW6_w LCW6_g (i := 25) rfl
theorem im_X11_take : Cond.instanceMethod yX11_take ∈ TW := walk_tw LCW6_w LCW6_g (i := 26) rfl
theorem se_X11_take : Cond.selects RX11 yX11_take yX11_take ∈ TW := walk_tw LCW6_w LCW6_g (i := 27) rfl
theorem cd_X11_take : Cond.code yX11_take cX11_take 2 (some .boolean) ∈ TW := walk_tw LCW6_w LCW6_g (i := 28) rfl
theorem ml_L_243 : Cond.methodLink RL 243 yX11_teach ∈ TW := walk_tw LCW6_w LCW6_g (i := 29) rfl
theorem im_X11_teach : Cond.instanceMethod yX11_teach ∈ TW := walk_tw LCW6_w LCW6_g (i := 30) rfl
theorem se_X11_teach : Cond.selects RX11 yX11_teach yX11_teach ∈ TW := walk_tw LCW6_w LCW6_g (i := 31) rfl
def LCW7 : List (Nat × Cond) := [(1279, Cond.code yX11_teach cX11_teach 4 (some .boolean)), (0, Cond.methodLink RL 247 yX11_undo), (0, Cond.instanceMethod yX11_undo), (0, Cond.selects RX11 yX11_undo yX11_undo), (0, Cond.code yX11_undo cX11_undo 1 (some .boolean)), (5, Cond.methodLink RL 252 yX11_image), (0, Cond.instanceMethod yX11_image), (0, Cond.selects RX11 yX11_image yX11_image), (0, Cond.code yX11_image cX11_image 1 (some .int)), (1, Cond.methodLink RL 256 yX11_back), (0, Cond.instanceMethod yX11_back), (0, Cond.selects RX11 yX11_back yX11_back), (0, Cond.code yX11_back cX11_back 2 (some .boolean)), (0, Cond.methodLink RL 269 yX11_size), (0, Cond.instanceMethod yX11_size), (0, Cond.selects RX11 yX11_size yX11_size), (0, Cond.code yX11_size cX11_size 2 (some .int)), (4, Cond.methodLink RL 273 yX11_trouble), (0, Cond.instanceMethod yX11_trouble), (0, Cond.selects RX11 yX11_trouble yX11_trouble), (0, Cond.code yX11_trouble cX11_trouble 1 (some .int)), (0, Cond.methodLink RL 260 yL_led), (72, Cond.classLink RL 16 RX13), (0, Cond.instantiable RX13 33), (0, Cond.methodLink RL 18 yX13_init), (0, Cond.instanceMethod yX13_init), (0, Cond.code yX13_init cX13_init 1 none), (101, Cond.methodLink RL 266 yX13_thrown), (0, Cond.instanceMethod yX13_thrown), (0, Cond.selects RX13 yX13_thrown yX13_thrown), (0, Cond.code yX13_thrown cX13_thrown 1 (some .int)), (0, Cond.methodLink RL 23 yX13_feed)]
theorem LCW7_w : walkI LCW7 lw_tbl = true := by decide +kernel
theorem LCW7_g : LCW7.all (fun q => goodWord q.2) = true := by decide +kernel
theorem cd_X11_teach : Cond.code yX11_teach cX11_teach 4 (some .boolean) ∈ TW := walk_tw LCW7_w LCW7_g (i := 0) rfl
theorem ml_L_247 : Cond.methodLink RL 247 yX11_undo ∈ TW := walk_tw LCW7_w LCW7_g (i := 1) rfl
theorem im_X11_undo : Cond.instanceMethod yX11_undo ∈ TW := walk_tw LCW7_w LCW7_g (i := 2) rfl
theorem se_X11_undo : Cond.selects RX11 yX11_undo yX11_undo ∈ TW := walk_tw LCW7_w LCW7_g (i := 3) rfl
theorem cd_X11_undo : Cond.code yX11_undo cX11_undo 1 (some .boolean) ∈ TW := walk_tw LCW7_w LCW7_g (i := 4) rfl
theorem ml_L_252 : Cond.methodLink RL 252 yX11_image ∈ TW := walk_tw LCW7_w LCW7_g (i := 5) rfl
theorem im_X11_image : Cond.instanceMethod yX11_image ∈ TW := walk_tw LCW7_w LCW7_g (i := 6) rfl
theorem se_X11_image : Cond.selects RX11 yX11_image yX11_image ∈ TW := walk_tw LCW7_w LCW7_g (i := 7) rfl
theorem cd_X11_image : Cond.code yX11_image cX11_image 1 (some .int) ∈ TW := walk_tw LCW7_w LCW7_g (i := 8) rfl
theorem ml_L_256 : Cond.methodLink RL 256 yX11_back ∈ TW := walk_tw LCW7_w LCW7_g (i := 9) rfl
theorem im_X11_back : Cond.instanceMethod yX11_back ∈ TW := walk_tw LCW7_w LCW7_g (i := 10) rfl
theorem se_X11_back : Cond.selects RX11 yX11_back yX11_back ∈ TW := walk_tw LCW7_w LCW7_g (i := 11) rfl
theorem cd_X11_back : Cond.code yX11_back cX11_back 2 (some .boolean) ∈ TW := walk_tw LCW7_w LCW7_g (i := 12) rfl
theorem ml_L_269 : Cond.methodLink RL 269 yX11_size ∈ TW := walk_tw LCW7_w LCW7_g (i := 13) rfl
theorem im_X11_size : Cond.instanceMethod yX11_size ∈ TW := walk_tw LCW7_w LCW7_g (i := 14) rfl
theorem se_X11_size : Cond.selects RX11 yX11_size yX11_size ∈ TW := walk_tw LCW7_w LCW7_g (i := 15) rfl
theorem cd_X11_size : Cond.code yX11_size cX11_size 2 (some .int) ∈ TW := walk_tw LCW7_w LCW7_g (i := 16) rfl
theorem ml_L_273 : Cond.methodLink RL 273 yX11_trouble ∈ TW := walk_tw LCW7_w LCW7_g (i := 17) rfl
theorem im_X11_trouble : Cond.instanceMethod yX11_trouble ∈ TW := walk_tw LCW7_w LCW7_g (i := 18) rfl
theorem se_X11_trouble : Cond.selects RX11 yX11_trouble yX11_trouble ∈ TW := walk_tw LCW7_w LCW7_g (i := 19) rfl
theorem cd_X11_trouble : Cond.code yX11_trouble cX11_trouble 1 (some .int) ∈ TW := walk_tw LCW7_w LCW7_g (i := 20) rfl
theorem ml_L_260 : Cond.methodLink RL 260 yL_led ∈ TW := walk_tw LCW7_w LCW7_g (i := 21) rfl
theorem cl_L_16 : Cond.classLink RL 16 RX13 ∈ TW := walk_tw LCW7_w LCW7_g (i := 22) rfl
theorem in_X13 : Cond.instantiable RX13 33 ∈ TW := walk_tw LCW7_w LCW7_g (i := 23) rfl
theorem ml_L_18 : Cond.methodLink RL 18 yX13_init ∈ TW := walk_tw LCW7_w LCW7_g (i := 24) rfl
theorem im_X13_init : Cond.instanceMethod yX13_init ∈ TW := walk_tw LCW7_w LCW7_g (i := 25) rfl
theorem cd_X13_init : Cond.code yX13_init cX13_init 1 none ∈ TW := walk_tw LCW7_w LCW7_g (i := 26) rfl
theorem ml_L_266 : Cond.methodLink RL 266 yX13_thrown ∈ TW := walk_tw LCW7_w LCW7_g (i := 27) rfl
theorem im_X13_thrown : Cond.instanceMethod yX13_thrown ∈ TW := walk_tw LCW7_w LCW7_g (i := 28) rfl
theorem se_X13_thrown : Cond.selects RX13 yX13_thrown yX13_thrown ∈ TW := walk_tw LCW7_w LCW7_g (i := 29) rfl
theorem cd_X13_thrown : Cond.code yX13_thrown cX13_thrown 1 (some .int) ∈ TW := walk_tw LCW7_w LCW7_g (i := 30) rfl
theorem ml_L_23 : Cond.methodLink RL 23 yX13_feed ∈ TW := walk_tw LCW7_w LCW7_g (i := 31) rfl
def LCW8 : List (Nat × Cond) := [(1494, Cond.instanceMethod yX13_feed), (0, Cond.selects RX13 yX13_feed yX13_feed), (0, Cond.code yX13_feed cX13_feed 8 (some .int)), (0, Cond.methodLink RL 27 yX13_town), (0, Cond.instanceMethod yX13_town), (0, Cond.selects RX13 yX13_town yX13_town), (0, Cond.code yX13_town cX13_town 3 (some .int)), (240, Cond.methodLink RL 32 yX13_fault), (0, Cond.instanceMethod yX13_fault), (0, Cond.selects RX13 yX13_fault yX13_fault), (0, Cond.code yX13_fault cX13_fault 1 (some .int)), (0, Cond.methodLink RL 36 yX13_where), (0, Cond.instanceMethod yX13_where), (0, Cond.selects RX13 yX13_where yX13_where), (0, Cond.code yX13_where cX13_where 1 (some .int)), (0, Cond.methodLink RL 41 yX13_person), (0, Cond.instanceMethod yX13_person), (0, Cond.selects RX13 yX13_person yX13_person), (0, Cond.code yX13_person cX13_person 5 (some .int)), (36, Cond.methodLink RL 45 yX13_dead), (0, Cond.instanceMethod yX13_dead), (0, Cond.selects RX13 yX13_dead yX13_dead), (0, Cond.code yX13_dead cX13_dead 3 (some .int)), (4, Cond.methodLink RL 49 yX13_house), (0, Cond.instanceMethod yX13_house), (0, Cond.selects RX13 yX13_house yX13_house), (0, Cond.code yX13_house cX13_house 2 (some .int)), (4, Cond.methodLink RL 53 yX13_comesOut), (0, Cond.instanceMethod yX13_comesOut), (0, Cond.selects RX13 yX13_comesOut yX13_comesOut), (0, Cond.code yX13_comesOut cX13_comesOut 4 (some .int)), (4, Cond.methodLink RL 58 yX13_outIf)]
theorem LCW8_w : walkI LCW8 lw_tbl = true := by decide +kernel
theorem LCW8_g : LCW8.all (fun q => goodWord q.2) = true := by decide +kernel
theorem im_X13_feed : Cond.instanceMethod yX13_feed ∈ TW := walk_tw LCW8_w LCW8_g (i := 0) rfl
theorem se_X13_feed : Cond.selects RX13 yX13_feed yX13_feed ∈ TW := walk_tw LCW8_w LCW8_g (i := 1) rfl
theorem cd_X13_feed : Cond.code yX13_feed cX13_feed 8 (some .int) ∈ TW := walk_tw LCW8_w LCW8_g (i := 2) rfl
theorem ml_L_27 : Cond.methodLink RL 27 yX13_town ∈ TW := walk_tw LCW8_w LCW8_g (i := 3) rfl
theorem im_X13_town : Cond.instanceMethod yX13_town ∈ TW := walk_tw LCW8_w LCW8_g (i := 4) rfl
theorem se_X13_town : Cond.selects RX13 yX13_town yX13_town ∈ TW := walk_tw LCW8_w LCW8_g (i := 5) rfl
theorem cd_X13_town : Cond.code yX13_town cX13_town 3 (some .int) ∈ TW := walk_tw LCW8_w LCW8_g (i := 6) rfl
theorem ml_L_32 : Cond.methodLink RL 32 yX13_fault ∈ TW := walk_tw LCW8_w LCW8_g (i := 7) rfl
theorem im_X13_fault : Cond.instanceMethod yX13_fault ∈ TW := walk_tw LCW8_w LCW8_g (i := 8) rfl
theorem se_X13_fault : Cond.selects RX13 yX13_fault yX13_fault ∈ TW := walk_tw LCW8_w LCW8_g (i := 9) rfl
theorem cd_X13_fault : Cond.code yX13_fault cX13_fault 1 (some .int) ∈ TW := walk_tw LCW8_w LCW8_g (i := 10) rfl
theorem ml_L_36 : Cond.methodLink RL 36 yX13_where ∈ TW := walk_tw LCW8_w LCW8_g (i := 11) rfl
theorem im_X13_where : Cond.instanceMethod yX13_where ∈ TW := walk_tw LCW8_w LCW8_g (i := 12) rfl
theorem se_X13_where : Cond.selects RX13 yX13_where yX13_where ∈ TW := walk_tw LCW8_w LCW8_g (i := 13) rfl
theorem cd_X13_where : Cond.code yX13_where cX13_where 1 (some .int) ∈ TW := walk_tw LCW8_w LCW8_g (i := 14) rfl
theorem ml_L_41 : Cond.methodLink RL 41 yX13_person ∈ TW := walk_tw LCW8_w LCW8_g (i := 15) rfl
theorem im_X13_person : Cond.instanceMethod yX13_person ∈ TW := walk_tw LCW8_w LCW8_g (i := 16) rfl
theorem se_X13_person : Cond.selects RX13 yX13_person yX13_person ∈ TW := walk_tw LCW8_w LCW8_g (i := 17) rfl
theorem cd_X13_person : Cond.code yX13_person cX13_person 5 (some .int) ∈ TW := walk_tw LCW8_w LCW8_g (i := 18) rfl
theorem ml_L_45 : Cond.methodLink RL 45 yX13_dead ∈ TW := walk_tw LCW8_w LCW8_g (i := 19) rfl
theorem im_X13_dead : Cond.instanceMethod yX13_dead ∈ TW := walk_tw LCW8_w LCW8_g (i := 20) rfl
theorem se_X13_dead : Cond.selects RX13 yX13_dead yX13_dead ∈ TW := walk_tw LCW8_w LCW8_g (i := 21) rfl
theorem cd_X13_dead : Cond.code yX13_dead cX13_dead 3 (some .int) ∈ TW := walk_tw LCW8_w LCW8_g (i := 22) rfl
theorem ml_L_49 : Cond.methodLink RL 49 yX13_house ∈ TW := walk_tw LCW8_w LCW8_g (i := 23) rfl
theorem im_X13_house : Cond.instanceMethod yX13_house ∈ TW := walk_tw LCW8_w LCW8_g (i := 24) rfl
theorem se_X13_house : Cond.selects RX13 yX13_house yX13_house ∈ TW := walk_tw LCW8_w LCW8_g (i := 25) rfl
theorem cd_X13_house : Cond.code yX13_house cX13_house 2 (some .int) ∈ TW := walk_tw LCW8_w LCW8_g (i := 26) rfl
theorem ml_L_53 : Cond.methodLink RL 53 yX13_comesOut ∈ TW := walk_tw LCW8_w LCW8_g (i := 27) rfl
theorem im_X13_comesOut : Cond.instanceMethod yX13_comesOut ∈ TW := walk_tw LCW8_w LCW8_g (i := 28) rfl
theorem se_X13_comesOut : Cond.selects RX13 yX13_comesOut yX13_comesOut ∈ TW := walk_tw LCW8_w LCW8_g (i := 29) rfl
theorem cd_X13_comesOut : Cond.code yX13_comesOut cX13_comesOut 4 (some .int) ∈ TW := walk_tw LCW8_w LCW8_g (i := 30) rfl
theorem ml_L_58 : Cond.methodLink RL 58 yX13_outIf ∈ TW := walk_tw LCW8_w LCW8_g (i := 31) rfl
def LCW9 : List (Nat × Cond) := [(1814, Cond.instanceMethod yX13_outIf), (0, Cond.selects RX13 yX13_outIf yX13_outIf), (0, Cond.code yX13_outIf cX13_outIf 5 (some .int)), (0, Cond.methodLink RL 62 yX13_hears), (0, Cond.instanceMethod yX13_hears), (0, Cond.selects RX13 yX13_hears yX13_hears), (0, Cond.code yX13_hears cX13_hears 4 (some .int)), (0, Cond.methodLink RL 66 yX13_off), (0, Cond.instanceMethod yX13_off), (0, Cond.selects RX13 yX13_off yX13_off), (0, Cond.code yX13_off cX13_off 4 (some .int)), (0, Cond.methodLink RL 70 yX13_right), (0, Cond.instanceMethod yX13_right), (0, Cond.selects RX13 yX13_right yX13_right), (0, Cond.code yX13_right cX13_right 3 (some .int)), (8, Cond.methodLink RL 74 yX13_medium), (0, Cond.instanceMethod yX13_medium), (0, Cond.selects RX13 yX13_medium yX13_medium), (0, Cond.code yX13_medium cX13_medium 5 (some .int)), (3, Cond.methodLink RL 78 yX13_silent), (0, Cond.instanceMethod yX13_silent), (0, Cond.selects RX13 yX13_silent yX13_silent), (0, Cond.code yX13_silent cX13_silent 5 (some .int)), (0, Cond.methodLink RL 82 yX13_rightFrom), (0, Cond.instanceMethod yX13_rightFrom), (0, Cond.selects RX13 yX13_rightFrom yX13_rightFrom), (0, Cond.code yX13_rightFrom cX13_rightFrom 5 (some .int)), (0, Cond.methodLink RL 86 yX13_nightsOf), (0, Cond.instanceMethod yX13_nightsOf), (0, Cond.selects RX13 yX13_nightsOf yX13_nightsOf), (0, Cond.code yX13_nightsOf cX13_nightsOf 5 (some .int)), (0, Cond.methodLink RL 90 yX13_round)]
theorem LCW9_w : walkI LCW9 lw_tbl = true := by decide +kernel
theorem LCW9_g : LCW9.all (fun q => goodWord q.2) = true := by decide +kernel
theorem im_X13_outIf : Cond.instanceMethod yX13_outIf ∈ TW := walk_tw LCW9_w LCW9_g (i := 0) rfl
theorem se_X13_outIf : Cond.selects RX13 yX13_outIf yX13_outIf ∈ TW := walk_tw LCW9_w LCW9_g (i := 1) rfl
theorem cd_X13_outIf : Cond.code yX13_outIf cX13_outIf 5 (some .int) ∈ TW := walk_tw LCW9_w LCW9_g (i := 2) rfl
theorem ml_L_62 : Cond.methodLink RL 62 yX13_hears ∈ TW := walk_tw LCW9_w LCW9_g (i := 3) rfl
theorem im_X13_hears : Cond.instanceMethod yX13_hears ∈ TW := walk_tw LCW9_w LCW9_g (i := 4) rfl
theorem se_X13_hears : Cond.selects RX13 yX13_hears yX13_hears ∈ TW := walk_tw LCW9_w LCW9_g (i := 5) rfl
theorem cd_X13_hears : Cond.code yX13_hears cX13_hears 4 (some .int) ∈ TW := walk_tw LCW9_w LCW9_g (i := 6) rfl
theorem ml_L_66 : Cond.methodLink RL 66 yX13_off ∈ TW := walk_tw LCW9_w LCW9_g (i := 7) rfl
theorem im_X13_off : Cond.instanceMethod yX13_off ∈ TW := walk_tw LCW9_w LCW9_g (i := 8) rfl
theorem se_X13_off : Cond.selects RX13 yX13_off yX13_off ∈ TW := walk_tw LCW9_w LCW9_g (i := 9) rfl
theorem cd_X13_off : Cond.code yX13_off cX13_off 4 (some .int) ∈ TW := walk_tw LCW9_w LCW9_g (i := 10) rfl
theorem ml_L_70 : Cond.methodLink RL 70 yX13_right ∈ TW := walk_tw LCW9_w LCW9_g (i := 11) rfl
theorem im_X13_right : Cond.instanceMethod yX13_right ∈ TW := walk_tw LCW9_w LCW9_g (i := 12) rfl
theorem se_X13_right : Cond.selects RX13 yX13_right yX13_right ∈ TW := walk_tw LCW9_w LCW9_g (i := 13) rfl
theorem cd_X13_right : Cond.code yX13_right cX13_right 3 (some .int) ∈ TW := walk_tw LCW9_w LCW9_g (i := 14) rfl
theorem ml_L_74 : Cond.methodLink RL 74 yX13_medium ∈ TW := walk_tw LCW9_w LCW9_g (i := 15) rfl
theorem im_X13_medium : Cond.instanceMethod yX13_medium ∈ TW := walk_tw LCW9_w LCW9_g (i := 16) rfl
theorem se_X13_medium : Cond.selects RX13 yX13_medium yX13_medium ∈ TW := walk_tw LCW9_w LCW9_g (i := 17) rfl
theorem cd_X13_medium : Cond.code yX13_medium cX13_medium 5 (some .int) ∈ TW := walk_tw LCW9_w LCW9_g (i := 18) rfl
theorem ml_L_78 : Cond.methodLink RL 78 yX13_silent ∈ TW := walk_tw LCW9_w LCW9_g (i := 19) rfl
theorem im_X13_silent : Cond.instanceMethod yX13_silent ∈ TW := walk_tw LCW9_w LCW9_g (i := 20) rfl
theorem se_X13_silent : Cond.selects RX13 yX13_silent yX13_silent ∈ TW := walk_tw LCW9_w LCW9_g (i := 21) rfl
theorem cd_X13_silent : Cond.code yX13_silent cX13_silent 5 (some .int) ∈ TW := walk_tw LCW9_w LCW9_g (i := 22) rfl
theorem ml_L_82 : Cond.methodLink RL 82 yX13_rightFrom ∈ TW := walk_tw LCW9_w LCW9_g (i := 23) rfl
theorem im_X13_rightFrom : Cond.instanceMethod yX13_rightFrom ∈ TW := walk_tw LCW9_w LCW9_g (i := 24) rfl
theorem se_X13_rightFrom : Cond.selects RX13 yX13_rightFrom yX13_rightFrom ∈ TW := walk_tw LCW9_w LCW9_g (i := 25) rfl
theorem cd_X13_rightFrom : Cond.code yX13_rightFrom cX13_rightFrom 5 (some .int) ∈ TW := walk_tw LCW9_w LCW9_g (i := 26) rfl
theorem ml_L_86 : Cond.methodLink RL 86 yX13_nightsOf ∈ TW := walk_tw LCW9_w LCW9_g (i := 27) rfl
theorem im_X13_nightsOf : Cond.instanceMethod yX13_nightsOf ∈ TW := walk_tw LCW9_w LCW9_g (i := 28) rfl
theorem se_X13_nightsOf : Cond.selects RX13 yX13_nightsOf yX13_nightsOf ∈ TW := walk_tw LCW9_w LCW9_g (i := 29) rfl
theorem cd_X13_nightsOf : Cond.code yX13_nightsOf cX13_nightsOf 5 (some .int) ∈ TW := walk_tw LCW9_w LCW9_g (i := 30) rfl
theorem ml_L_90 : Cond.methodLink RL 90 yX13_round ∈ TW := walk_tw LCW9_w LCW9_g (i := 31) rfl
def LCW10 : List (Nat × Cond) := [(1857, Cond.instanceMethod yX13_round), (0, Cond.selects RX13 yX13_round yX13_round), (0, Cond.code yX13_round cX13_round 3 (some .int)), (4, Cond.methodLink RL 94 yX13_bestNight), (0, Cond.instanceMethod yX13_bestNight), (0, Cond.selects RX13 yX13_bestNight yX13_bestNight), (0, Cond.code yX13_bestNight cX13_bestNight 5 (some .int)), (0, Cond.methodLink RL 98 yX13_perfect), (0, Cond.instanceMethod yX13_perfect), (0, Cond.selects RX13 yX13_perfect yX13_perfect), (0, Cond.code yX13_perfect cX13_perfect 3 (some .int)), (0, Cond.methodLink RL 102 yX13_together), (0, Cond.instanceMethod yX13_together), (0, Cond.selects RX13 yX13_together yX13_together), (0, Cond.code yX13_together cX13_together 4 (some .int)), (0, Cond.methodLink RL 106 yX13_aimFor), (0, Cond.instanceMethod yX13_aimFor), (0, Cond.selects RX13 yX13_aimFor yX13_aimFor), (0, Cond.code yX13_aimFor cX13_aimFor 6 (some .int)), (0, Cond.methodLink RL 110 yX13_aims), (0, Cond.instanceMethod yX13_aims), (0, Cond.selects RX13 yX13_aims yX13_aims), (0, Cond.code yX13_aims cX13_aims 7 (some .int)), (0, Cond.methodLink RL 114 yX13_mirrorFor), (0, Cond.instanceMethod yX13_mirrorFor), (0, Cond.selects RX13 yX13_mirrorFor yX13_mirrorFor), (0, Cond.code yX13_mirrorFor cX13_mirrorFor 5 (some .int)), (0, Cond.methodLink RL 118 yX13_mirrorBest), (0, Cond.instanceMethod yX13_mirrorBest), (0, Cond.selects RX13 yX13_mirrorBest yX13_mirrorBest), (0, Cond.code yX13_mirrorBest cX13_mirrorBest 7 (some .int)), (0, Cond.methodLink RL 122 yX13_slipFor)]
theorem LCW10_w : walkI LCW10 lw_tbl = true := by decide +kernel
theorem LCW10_g : LCW10.all (fun q => goodWord q.2) = true := by decide +kernel
theorem im_X13_round : Cond.instanceMethod yX13_round ∈ TW := walk_tw LCW10_w LCW10_g (i := 0) rfl
theorem se_X13_round : Cond.selects RX13 yX13_round yX13_round ∈ TW := walk_tw LCW10_w LCW10_g (i := 1) rfl
theorem cd_X13_round : Cond.code yX13_round cX13_round 3 (some .int) ∈ TW := walk_tw LCW10_w LCW10_g (i := 2) rfl
theorem ml_L_94 : Cond.methodLink RL 94 yX13_bestNight ∈ TW := walk_tw LCW10_w LCW10_g (i := 3) rfl
theorem im_X13_bestNight : Cond.instanceMethod yX13_bestNight ∈ TW := walk_tw LCW10_w LCW10_g (i := 4) rfl
theorem se_X13_bestNight : Cond.selects RX13 yX13_bestNight yX13_bestNight ∈ TW := walk_tw LCW10_w LCW10_g (i := 5) rfl
theorem cd_X13_bestNight : Cond.code yX13_bestNight cX13_bestNight 5 (some .int) ∈ TW := walk_tw LCW10_w LCW10_g (i := 6) rfl
theorem ml_L_98 : Cond.methodLink RL 98 yX13_perfect ∈ TW := walk_tw LCW10_w LCW10_g (i := 7) rfl
theorem im_X13_perfect : Cond.instanceMethod yX13_perfect ∈ TW := walk_tw LCW10_w LCW10_g (i := 8) rfl
theorem se_X13_perfect : Cond.selects RX13 yX13_perfect yX13_perfect ∈ TW := walk_tw LCW10_w LCW10_g (i := 9) rfl
theorem cd_X13_perfect : Cond.code yX13_perfect cX13_perfect 3 (some .int) ∈ TW := walk_tw LCW10_w LCW10_g (i := 10) rfl
theorem ml_L_102 : Cond.methodLink RL 102 yX13_together ∈ TW := walk_tw LCW10_w LCW10_g (i := 11) rfl
theorem im_X13_together : Cond.instanceMethod yX13_together ∈ TW := walk_tw LCW10_w LCW10_g (i := 12) rfl
theorem se_X13_together : Cond.selects RX13 yX13_together yX13_together ∈ TW := walk_tw LCW10_w LCW10_g (i := 13) rfl
theorem cd_X13_together : Cond.code yX13_together cX13_together 4 (some .int) ∈ TW := walk_tw LCW10_w LCW10_g (i := 14) rfl
theorem ml_L_106 : Cond.methodLink RL 106 yX13_aimFor ∈ TW := walk_tw LCW10_w LCW10_g (i := 15) rfl
theorem im_X13_aimFor : Cond.instanceMethod yX13_aimFor ∈ TW := walk_tw LCW10_w LCW10_g (i := 16) rfl
theorem se_X13_aimFor : Cond.selects RX13 yX13_aimFor yX13_aimFor ∈ TW := walk_tw LCW10_w LCW10_g (i := 17) rfl
theorem cd_X13_aimFor : Cond.code yX13_aimFor cX13_aimFor 6 (some .int) ∈ TW := walk_tw LCW10_w LCW10_g (i := 18) rfl
theorem ml_L_110 : Cond.methodLink RL 110 yX13_aims ∈ TW := walk_tw LCW10_w LCW10_g (i := 19) rfl
theorem im_X13_aims : Cond.instanceMethod yX13_aims ∈ TW := walk_tw LCW10_w LCW10_g (i := 20) rfl
theorem se_X13_aims : Cond.selects RX13 yX13_aims yX13_aims ∈ TW := walk_tw LCW10_w LCW10_g (i := 21) rfl
theorem cd_X13_aims : Cond.code yX13_aims cX13_aims 7 (some .int) ∈ TW := walk_tw LCW10_w LCW10_g (i := 22) rfl
theorem ml_L_114 : Cond.methodLink RL 114 yX13_mirrorFor ∈ TW := walk_tw LCW10_w LCW10_g (i := 23) rfl
theorem im_X13_mirrorFor : Cond.instanceMethod yX13_mirrorFor ∈ TW := walk_tw LCW10_w LCW10_g (i := 24) rfl
theorem se_X13_mirrorFor : Cond.selects RX13 yX13_mirrorFor yX13_mirrorFor ∈ TW := walk_tw LCW10_w LCW10_g (i := 25) rfl
theorem cd_X13_mirrorFor : Cond.code yX13_mirrorFor cX13_mirrorFor 5 (some .int) ∈ TW := walk_tw LCW10_w LCW10_g (i := 26) rfl
theorem ml_L_118 : Cond.methodLink RL 118 yX13_mirrorBest ∈ TW := walk_tw LCW10_w LCW10_g (i := 27) rfl
theorem im_X13_mirrorBest : Cond.instanceMethod yX13_mirrorBest ∈ TW := walk_tw LCW10_w LCW10_g (i := 28) rfl
theorem se_X13_mirrorBest : Cond.selects RX13 yX13_mirrorBest yX13_mirrorBest ∈ TW := walk_tw LCW10_w LCW10_g (i := 29) rfl
theorem cd_X13_mirrorBest : Cond.code yX13_mirrorBest cX13_mirrorBest 7 (some .int) ∈ TW := walk_tw LCW10_w LCW10_g (i := 30) rfl
theorem ml_L_122 : Cond.methodLink RL 122 yX13_slipFor ∈ TW := walk_tw LCW10_w LCW10_g (i := 31) rfl
def LCW11 : List (Nat × Cond) := [(1893, Cond.instanceMethod yX13_slipFor), (0, Cond.selects RX13 yX13_slipFor yX13_slipFor), (0, Cond.code yX13_slipFor cX13_slipFor 5 (some .int)), (0, Cond.methodLink RL 126 yX13_seat), (0, Cond.instanceMethod yX13_seat), (0, Cond.selects RX13 yX13_seat yX13_seat), (0, Cond.code yX13_seat cX13_seat 3 (some .int)), (12, Cond.methodLink RL 130 yX13_seatAt), (0, Cond.instanceMethod yX13_seatAt), (0, Cond.selects RX13 yX13_seatAt yX13_seatAt), (0, Cond.code yX13_seatAt cX13_seatAt 4 (some .int)), (0, Cond.methodLink RL 134 yX13_likes), (0, Cond.instanceMethod yX13_likes), (0, Cond.selects RX13 yX13_likes yX13_likes), (0, Cond.code yX13_likes cX13_likes 5 (some .int)), (12, Cond.methodLink RL 138 yX13_restless), (0, Cond.instanceMethod yX13_restless), (0, Cond.selects RX13 yX13_restless yX13_restless), (0, Cond.code yX13_restless cX13_restless 6 (some .int)), (0, Cond.methodLink RL 142 yX13_moveFor), (0, Cond.instanceMethod yX13_moveFor), (0, Cond.selects RX13 yX13_moveFor yX13_moveFor), (0, Cond.code yX13_moveFor cX13_moveFor 8 (some .int)), (0, Cond.methodLink RL 146 yX13_bring), (0, Cond.instanceMethod yX13_bring), (0, Cond.selects RX13 yX13_bring yX13_bring), (0, Cond.code yX13_bring cX13_bring 4 (some .int)), (16, Cond.methodLink RL 150 yX13_bringFrom), (0, Cond.instanceMethod yX13_bringFrom), (0, Cond.selects RX13 yX13_bringFrom yX13_bringFrom), (0, Cond.code yX13_bringFrom cX13_bringFrom 7 (some .int)), (0, Cond.methodLink RL 154 yX13_steps)]
theorem LCW11_w : walkI LCW11 lw_tbl = true := by decide +kernel
theorem LCW11_g : LCW11.all (fun q => goodWord q.2) = true := by decide +kernel
theorem im_X13_slipFor : Cond.instanceMethod yX13_slipFor ∈ TW := walk_tw LCW11_w LCW11_g (i := 0) rfl
theorem se_X13_slipFor : Cond.selects RX13 yX13_slipFor yX13_slipFor ∈ TW := walk_tw LCW11_w LCW11_g (i := 1) rfl
theorem cd_X13_slipFor : Cond.code yX13_slipFor cX13_slipFor 5 (some .int) ∈ TW := walk_tw LCW11_w LCW11_g (i := 2) rfl
theorem ml_L_126 : Cond.methodLink RL 126 yX13_seat ∈ TW := walk_tw LCW11_w LCW11_g (i := 3) rfl
theorem im_X13_seat : Cond.instanceMethod yX13_seat ∈ TW := walk_tw LCW11_w LCW11_g (i := 4) rfl
theorem se_X13_seat : Cond.selects RX13 yX13_seat yX13_seat ∈ TW := walk_tw LCW11_w LCW11_g (i := 5) rfl
theorem cd_X13_seat : Cond.code yX13_seat cX13_seat 3 (some .int) ∈ TW := walk_tw LCW11_w LCW11_g (i := 6) rfl
theorem ml_L_130 : Cond.methodLink RL 130 yX13_seatAt ∈ TW := walk_tw LCW11_w LCW11_g (i := 7) rfl
theorem im_X13_seatAt : Cond.instanceMethod yX13_seatAt ∈ TW := walk_tw LCW11_w LCW11_g (i := 8) rfl
theorem se_X13_seatAt : Cond.selects RX13 yX13_seatAt yX13_seatAt ∈ TW := walk_tw LCW11_w LCW11_g (i := 9) rfl
theorem cd_X13_seatAt : Cond.code yX13_seatAt cX13_seatAt 4 (some .int) ∈ TW := walk_tw LCW11_w LCW11_g (i := 10) rfl
theorem ml_L_134 : Cond.methodLink RL 134 yX13_likes ∈ TW := walk_tw LCW11_w LCW11_g (i := 11) rfl
theorem im_X13_likes : Cond.instanceMethod yX13_likes ∈ TW := walk_tw LCW11_w LCW11_g (i := 12) rfl
theorem se_X13_likes : Cond.selects RX13 yX13_likes yX13_likes ∈ TW := walk_tw LCW11_w LCW11_g (i := 13) rfl
theorem cd_X13_likes : Cond.code yX13_likes cX13_likes 5 (some .int) ∈ TW := walk_tw LCW11_w LCW11_g (i := 14) rfl
theorem ml_L_138 : Cond.methodLink RL 138 yX13_restless ∈ TW := walk_tw LCW11_w LCW11_g (i := 15) rfl
theorem im_X13_restless : Cond.instanceMethod yX13_restless ∈ TW := walk_tw LCW11_w LCW11_g (i := 16) rfl
theorem se_X13_restless : Cond.selects RX13 yX13_restless yX13_restless ∈ TW := walk_tw LCW11_w LCW11_g (i := 17) rfl
theorem cd_X13_restless : Cond.code yX13_restless cX13_restless 6 (some .int) ∈ TW := walk_tw LCW11_w LCW11_g (i := 18) rfl
theorem ml_L_142 : Cond.methodLink RL 142 yX13_moveFor ∈ TW := walk_tw LCW11_w LCW11_g (i := 19) rfl
theorem im_X13_moveFor : Cond.instanceMethod yX13_moveFor ∈ TW := walk_tw LCW11_w LCW11_g (i := 20) rfl
theorem se_X13_moveFor : Cond.selects RX13 yX13_moveFor yX13_moveFor ∈ TW := walk_tw LCW11_w LCW11_g (i := 21) rfl
theorem cd_X13_moveFor : Cond.code yX13_moveFor cX13_moveFor 8 (some .int) ∈ TW := walk_tw LCW11_w LCW11_g (i := 22) rfl
theorem ml_L_146 : Cond.methodLink RL 146 yX13_bring ∈ TW := walk_tw LCW11_w LCW11_g (i := 23) rfl
theorem im_X13_bring : Cond.instanceMethod yX13_bring ∈ TW := walk_tw LCW11_w LCW11_g (i := 24) rfl
theorem se_X13_bring : Cond.selects RX13 yX13_bring yX13_bring ∈ TW := walk_tw LCW11_w LCW11_g (i := 25) rfl
theorem cd_X13_bring : Cond.code yX13_bring cX13_bring 4 (some .int) ∈ TW := walk_tw LCW11_w LCW11_g (i := 26) rfl
theorem ml_L_150 : Cond.methodLink RL 150 yX13_bringFrom ∈ TW := walk_tw LCW11_w LCW11_g (i := 27) rfl
theorem im_X13_bringFrom : Cond.instanceMethod yX13_bringFrom ∈ TW := walk_tw LCW11_w LCW11_g (i := 28) rfl
theorem se_X13_bringFrom : Cond.selects RX13 yX13_bringFrom yX13_bringFrom ∈ TW := walk_tw LCW11_w LCW11_g (i := 29) rfl
theorem cd_X13_bringFrom : Cond.code yX13_bringFrom cX13_bringFrom 7 (some .int) ∈ TW := walk_tw LCW11_w LCW11_g (i := 30) rfl
theorem ml_L_154 : Cond.methodLink RL 154 yX13_steps ∈ TW := walk_tw LCW11_w LCW11_g (i := 31) rfl
def LCW12 : List (Nat × Cond) := [(1965, Cond.instanceMethod yX13_steps), (0, Cond.selects RX13 yX13_steps yX13_steps), (0, Cond.code yX13_steps cX13_steps 3 (some .int)), (0, Cond.methodLink RL 158 yX13_ring), (0, Cond.instanceMethod yX13_ring), (0, Cond.selects RX13 yX13_ring yX13_ring), (0, Cond.code yX13_ring cX13_ring 4 (some .int)), (12, Cond.methodLink RL 162 yX13_ringAt), (0, Cond.instanceMethod yX13_ringAt), (0, Cond.selects RX13 yX13_ringAt yX13_ringAt), (0, Cond.code yX13_ringAt cX13_ringAt 7 (some .int)), (0, Cond.methodLink RL 166 yX13_fits), (0, Cond.instanceMethod yX13_fits), (0, Cond.selects RX13 yX13_fits yX13_fits), (0, Cond.code yX13_fits cX13_fits 1 (some .int)), (8, Cond.methodLink RL 170 yX13_fitAt), (0, Cond.instanceMethod yX13_fitAt), (0, Cond.selects RX13 yX13_fitAt yX13_fitAt), (0, Cond.code yX13_fitAt cX13_fitAt 3 (some .int)), (0, Cond.methodLink RL 174 yX13_could), (0, Cond.instanceMethod yX13_could), (0, Cond.selects RX13 yX13_could yX13_could), (0, Cond.code yX13_could cX13_could 1 (some .int)), (0, Cond.methodLink RL 178 yX13_surely), (0, Cond.instanceMethod yX13_surely), (0, Cond.selects RX13 yX13_surely yX13_surely), (0, Cond.code yX13_surely cX13_surely 1 (some .int)), (0, Cond.methodLink RL 182 yX13_ask), (0, Cond.instanceMethod yX13_ask), (0, Cond.selects RX13 yX13_ask yX13_ask), (0, Cond.code yX13_ask cX13_ask 1 (some .int)), (4, Cond.methodLink RL 186 yX13_askLeaves)]
theorem LCW12_w : walkI LCW12 lw_tbl = true := by decide +kernel
theorem LCW12_g : LCW12.all (fun q => goodWord q.2) = true := by decide +kernel
theorem im_X13_steps : Cond.instanceMethod yX13_steps ∈ TW := walk_tw LCW12_w LCW12_g (i := 0) rfl
theorem se_X13_steps : Cond.selects RX13 yX13_steps yX13_steps ∈ TW := walk_tw LCW12_w LCW12_g (i := 1) rfl
theorem cd_X13_steps : Cond.code yX13_steps cX13_steps 3 (some .int) ∈ TW := walk_tw LCW12_w LCW12_g (i := 2) rfl
theorem ml_L_158 : Cond.methodLink RL 158 yX13_ring ∈ TW := walk_tw LCW12_w LCW12_g (i := 3) rfl
theorem im_X13_ring : Cond.instanceMethod yX13_ring ∈ TW := walk_tw LCW12_w LCW12_g (i := 4) rfl
theorem se_X13_ring : Cond.selects RX13 yX13_ring yX13_ring ∈ TW := walk_tw LCW12_w LCW12_g (i := 5) rfl
theorem cd_X13_ring : Cond.code yX13_ring cX13_ring 4 (some .int) ∈ TW := walk_tw LCW12_w LCW12_g (i := 6) rfl
theorem ml_L_162 : Cond.methodLink RL 162 yX13_ringAt ∈ TW := walk_tw LCW12_w LCW12_g (i := 7) rfl
theorem im_X13_ringAt : Cond.instanceMethod yX13_ringAt ∈ TW := walk_tw LCW12_w LCW12_g (i := 8) rfl
theorem se_X13_ringAt : Cond.selects RX13 yX13_ringAt yX13_ringAt ∈ TW := walk_tw LCW12_w LCW12_g (i := 9) rfl
theorem cd_X13_ringAt : Cond.code yX13_ringAt cX13_ringAt 7 (some .int) ∈ TW := walk_tw LCW12_w LCW12_g (i := 10) rfl
theorem ml_L_166 : Cond.methodLink RL 166 yX13_fits ∈ TW := walk_tw LCW12_w LCW12_g (i := 11) rfl
theorem im_X13_fits : Cond.instanceMethod yX13_fits ∈ TW := walk_tw LCW12_w LCW12_g (i := 12) rfl
theorem se_X13_fits : Cond.selects RX13 yX13_fits yX13_fits ∈ TW := walk_tw LCW12_w LCW12_g (i := 13) rfl
theorem cd_X13_fits : Cond.code yX13_fits cX13_fits 1 (some .int) ∈ TW := walk_tw LCW12_w LCW12_g (i := 14) rfl
theorem ml_L_170 : Cond.methodLink RL 170 yX13_fitAt ∈ TW := walk_tw LCW12_w LCW12_g (i := 15) rfl
theorem im_X13_fitAt : Cond.instanceMethod yX13_fitAt ∈ TW := walk_tw LCW12_w LCW12_g (i := 16) rfl
theorem se_X13_fitAt : Cond.selects RX13 yX13_fitAt yX13_fitAt ∈ TW := walk_tw LCW12_w LCW12_g (i := 17) rfl
theorem cd_X13_fitAt : Cond.code yX13_fitAt cX13_fitAt 3 (some .int) ∈ TW := walk_tw LCW12_w LCW12_g (i := 18) rfl
theorem ml_L_174 : Cond.methodLink RL 174 yX13_could ∈ TW := walk_tw LCW12_w LCW12_g (i := 19) rfl
theorem im_X13_could : Cond.instanceMethod yX13_could ∈ TW := walk_tw LCW12_w LCW12_g (i := 20) rfl
theorem se_X13_could : Cond.selects RX13 yX13_could yX13_could ∈ TW := walk_tw LCW12_w LCW12_g (i := 21) rfl
theorem cd_X13_could : Cond.code yX13_could cX13_could 1 (some .int) ∈ TW := walk_tw LCW12_w LCW12_g (i := 22) rfl
theorem ml_L_178 : Cond.methodLink RL 178 yX13_surely ∈ TW := walk_tw LCW12_w LCW12_g (i := 23) rfl
theorem im_X13_surely : Cond.instanceMethod yX13_surely ∈ TW := walk_tw LCW12_w LCW12_g (i := 24) rfl
theorem se_X13_surely : Cond.selects RX13 yX13_surely yX13_surely ∈ TW := walk_tw LCW12_w LCW12_g (i := 25) rfl
theorem cd_X13_surely : Cond.code yX13_surely cX13_surely 1 (some .int) ∈ TW := walk_tw LCW12_w LCW12_g (i := 26) rfl
theorem ml_L_182 : Cond.methodLink RL 182 yX13_ask ∈ TW := walk_tw LCW12_w LCW12_g (i := 27) rfl
theorem im_X13_ask : Cond.instanceMethod yX13_ask ∈ TW := walk_tw LCW12_w LCW12_g (i := 28) rfl
theorem se_X13_ask : Cond.selects RX13 yX13_ask yX13_ask ∈ TW := walk_tw LCW12_w LCW12_g (i := 29) rfl
theorem cd_X13_ask : Cond.code yX13_ask cX13_ask 1 (some .int) ∈ TW := walk_tw LCW12_w LCW12_g (i := 30) rfl
theorem ml_L_186 : Cond.methodLink RL 186 yX13_askLeaves ∈ TW := walk_tw LCW12_w LCW12_g (i := 31) rfl
def LCW13 : List (Nat × Cond) := [(2021, Cond.instanceMethod yX13_askLeaves), (0, Cond.selects RX13 yX13_askLeaves yX13_askLeaves), (0, Cond.code yX13_askLeaves cX13_askLeaves 1 (some .int)), (0, Cond.methodLink RL 190 yX13_judge), (0, Cond.instanceMethod yX13_judge), (0, Cond.selects RX13 yX13_judge yX13_judge), (0, Cond.code yX13_judge cX13_judge 1 (some .int)), (0, Cond.methodLink RL 195 yX13_chat), (0, Cond.instanceMethod yX13_chat), (0, Cond.selects RX13 yX13_chat yX13_chat), (0, Cond.code yX13_chat cX13_chat 6 (some .int)), (11, Cond.methodLink RL 199 yX13_rests), (0, Cond.instanceMethod yX13_rests), (0, Cond.selects RX13 yX13_rests yX13_rests), (0, Cond.code yX13_rests cX13_rests 5 (some .int)), (3, Cond.methodLink RL 203 yX13_rest), (0, Cond.instanceMethod yX13_rest), (0, Cond.selects RX13 yX13_rest yX13_rest), (0, Cond.code yX13_rest cX13_rest 4 (some .int)), (0, Cond.methodLink RL 208 yX13_odds), (0, Cond.instanceMethod yX13_odds), (0, Cond.selects RX13 yX13_odds yX13_odds), (0, Cond.code yX13_odds cX13_odds 5 (some .long)), (16, Cond.methodLink RL 212 yX13_most), (0, Cond.instanceMethod yX13_most), (0, Cond.selects RX13 yX13_most yX13_most), (0, Cond.code yX13_most cX13_most 9 (some .long)), (0, Cond.methodLink RL 216 yX13_mean), (0, Cond.instanceMethod yX13_mean), (0, Cond.selects RX13 yX13_mean yX13_mean), (0, Cond.code yX13_mean cX13_mean 8 (some .long)), (0, Cond.methodLink RL 220 yX13_heardBy)]
theorem LCW13_w : walkI LCW13 lw_tbl = true := by decide +kernel
theorem LCW13_g : LCW13.all (fun q => goodWord q.2) = true := by decide +kernel
theorem im_X13_askLeaves : Cond.instanceMethod yX13_askLeaves ∈ TW := walk_tw LCW13_w LCW13_g (i := 0) rfl
theorem se_X13_askLeaves : Cond.selects RX13 yX13_askLeaves yX13_askLeaves ∈ TW := walk_tw LCW13_w LCW13_g (i := 1) rfl
theorem cd_X13_askLeaves : Cond.code yX13_askLeaves cX13_askLeaves 1 (some .int) ∈ TW := walk_tw LCW13_w LCW13_g (i := 2) rfl
theorem ml_L_190 : Cond.methodLink RL 190 yX13_judge ∈ TW := walk_tw LCW13_w LCW13_g (i := 3) rfl
theorem im_X13_judge : Cond.instanceMethod yX13_judge ∈ TW := walk_tw LCW13_w LCW13_g (i := 4) rfl
theorem se_X13_judge : Cond.selects RX13 yX13_judge yX13_judge ∈ TW := walk_tw LCW13_w LCW13_g (i := 5) rfl
theorem cd_X13_judge : Cond.code yX13_judge cX13_judge 1 (some .int) ∈ TW := walk_tw LCW13_w LCW13_g (i := 6) rfl
theorem ml_L_195 : Cond.methodLink RL 195 yX13_chat ∈ TW := walk_tw LCW13_w LCW13_g (i := 7) rfl
theorem im_X13_chat : Cond.instanceMethod yX13_chat ∈ TW := walk_tw LCW13_w LCW13_g (i := 8) rfl
theorem se_X13_chat : Cond.selects RX13 yX13_chat yX13_chat ∈ TW := walk_tw LCW13_w LCW13_g (i := 9) rfl
theorem cd_X13_chat : Cond.code yX13_chat cX13_chat 6 (some .int) ∈ TW := walk_tw LCW13_w LCW13_g (i := 10) rfl
theorem ml_L_199 : Cond.methodLink RL 199 yX13_rests ∈ TW := walk_tw LCW13_w LCW13_g (i := 11) rfl
theorem im_X13_rests : Cond.instanceMethod yX13_rests ∈ TW := walk_tw LCW13_w LCW13_g (i := 12) rfl
theorem se_X13_rests : Cond.selects RX13 yX13_rests yX13_rests ∈ TW := walk_tw LCW13_w LCW13_g (i := 13) rfl
theorem cd_X13_rests : Cond.code yX13_rests cX13_rests 5 (some .int) ∈ TW := walk_tw LCW13_w LCW13_g (i := 14) rfl
theorem ml_L_203 : Cond.methodLink RL 203 yX13_rest ∈ TW := walk_tw LCW13_w LCW13_g (i := 15) rfl
theorem im_X13_rest : Cond.instanceMethod yX13_rest ∈ TW := walk_tw LCW13_w LCW13_g (i := 16) rfl
theorem se_X13_rest : Cond.selects RX13 yX13_rest yX13_rest ∈ TW := walk_tw LCW13_w LCW13_g (i := 17) rfl
theorem cd_X13_rest : Cond.code yX13_rest cX13_rest 4 (some .int) ∈ TW := walk_tw LCW13_w LCW13_g (i := 18) rfl
theorem ml_L_208 : Cond.methodLink RL 208 yX13_odds ∈ TW := walk_tw LCW13_w LCW13_g (i := 19) rfl
theorem im_X13_odds : Cond.instanceMethod yX13_odds ∈ TW := walk_tw LCW13_w LCW13_g (i := 20) rfl
theorem se_X13_odds : Cond.selects RX13 yX13_odds yX13_odds ∈ TW := walk_tw LCW13_w LCW13_g (i := 21) rfl
theorem cd_X13_odds : Cond.code yX13_odds cX13_odds 5 (some .long) ∈ TW := walk_tw LCW13_w LCW13_g (i := 22) rfl
theorem ml_L_212 : Cond.methodLink RL 212 yX13_most ∈ TW := walk_tw LCW13_w LCW13_g (i := 23) rfl
theorem im_X13_most : Cond.instanceMethod yX13_most ∈ TW := walk_tw LCW13_w LCW13_g (i := 24) rfl
theorem se_X13_most : Cond.selects RX13 yX13_most yX13_most ∈ TW := walk_tw LCW13_w LCW13_g (i := 25) rfl
theorem cd_X13_most : Cond.code yX13_most cX13_most 9 (some .long) ∈ TW := walk_tw LCW13_w LCW13_g (i := 26) rfl
theorem ml_L_216 : Cond.methodLink RL 216 yX13_mean ∈ TW := walk_tw LCW13_w LCW13_g (i := 27) rfl
theorem im_X13_mean : Cond.instanceMethod yX13_mean ∈ TW := walk_tw LCW13_w LCW13_g (i := 28) rfl
theorem se_X13_mean : Cond.selects RX13 yX13_mean yX13_mean ∈ TW := walk_tw LCW13_w LCW13_g (i := 29) rfl
theorem cd_X13_mean : Cond.code yX13_mean cX13_mean 8 (some .long) ∈ TW := walk_tw LCW13_w LCW13_g (i := 30) rfl
theorem ml_L_220 : Cond.methodLink RL 220 yX13_heardBy ∈ TW := walk_tw LCW13_w LCW13_g (i := 31) rfl
def LCW14 : List (Nat × Cond) := [(2083, Cond.instanceMethod yX13_heardBy), (0, Cond.selects RX13 yX13_heardBy yX13_heardBy), (0, Cond.code yX13_heardBy cX13_heardBy 6 (some .int)), (8, Cond.methodLink RL 224 yX13_rights), (0, Cond.instanceMethod yX13_rights), (0, Cond.selects RX13 yX13_rights yX13_rights), (0, Cond.code yX13_rights cX13_rights 6 (some .int)), (0, Cond.methodLink RL 228 yX13_night), (0, Cond.instanceMethod yX13_night), (0, Cond.selects RX13 yX13_night yX13_night), (0, Cond.code yX13_night cX13_night 1 (some .int)), (4, Cond.methodLink RL 232 yX13_move), (0, Cond.instanceMethod yX13_move), (0, Cond.selects RX13 yX13_move yX13_move), (0, Cond.code yX13_move cX13_move 3 (some .int)), (0, Cond.methodLink RL 237 yX13_hang), (0, Cond.instanceMethod yX13_hang), (0, Cond.selects RX13 yX13_hang yX13_hang), (0, Cond.code yX13_hang cX13_hang 3 (some .boolean)), (12, Cond.methodLink RL 242 yX13_take), (0, Cond.instanceMethod yX13_take), (0, Cond.selects RX13 yX13_take yX13_take), (0, Cond.code yX13_take cX13_take 2 (some .boolean)), (0, Cond.methodLink RL 246 yX13_teach), (0, Cond.instanceMethod yX13_teach), (0, Cond.selects RX13 yX13_teach yX13_teach), (0, Cond.code yX13_teach cX13_teach 3 (some .boolean)), (0, Cond.methodLink RL 251 yX13_undo), (0, Cond.instanceMethod yX13_undo), (0, Cond.selects RX13 yX13_undo yX13_undo), (0, Cond.code yX13_undo cX13_undo 2 (some .boolean)), (0, Cond.methodLink RL 255 yX13_image)]
theorem LCW14_w : walkI LCW14 lw_tbl = true := by decide +kernel
theorem LCW14_g : LCW14.all (fun q => goodWord q.2) = true := by decide +kernel
theorem im_X13_heardBy : Cond.instanceMethod yX13_heardBy ∈ TW := walk_tw LCW14_w LCW14_g (i := 0) rfl
theorem se_X13_heardBy : Cond.selects RX13 yX13_heardBy yX13_heardBy ∈ TW := walk_tw LCW14_w LCW14_g (i := 1) rfl
theorem cd_X13_heardBy : Cond.code yX13_heardBy cX13_heardBy 6 (some .int) ∈ TW := walk_tw LCW14_w LCW14_g (i := 2) rfl
theorem ml_L_224 : Cond.methodLink RL 224 yX13_rights ∈ TW := walk_tw LCW14_w LCW14_g (i := 3) rfl
theorem im_X13_rights : Cond.instanceMethod yX13_rights ∈ TW := walk_tw LCW14_w LCW14_g (i := 4) rfl
theorem se_X13_rights : Cond.selects RX13 yX13_rights yX13_rights ∈ TW := walk_tw LCW14_w LCW14_g (i := 5) rfl
theorem cd_X13_rights : Cond.code yX13_rights cX13_rights 6 (some .int) ∈ TW := walk_tw LCW14_w LCW14_g (i := 6) rfl
theorem ml_L_228 : Cond.methodLink RL 228 yX13_night ∈ TW := walk_tw LCW14_w LCW14_g (i := 7) rfl
theorem im_X13_night : Cond.instanceMethod yX13_night ∈ TW := walk_tw LCW14_w LCW14_g (i := 8) rfl
theorem se_X13_night : Cond.selects RX13 yX13_night yX13_night ∈ TW := walk_tw LCW14_w LCW14_g (i := 9) rfl
theorem cd_X13_night : Cond.code yX13_night cX13_night 1 (some .int) ∈ TW := walk_tw LCW14_w LCW14_g (i := 10) rfl
theorem ml_L_232 : Cond.methodLink RL 232 yX13_move ∈ TW := walk_tw LCW14_w LCW14_g (i := 11) rfl
theorem im_X13_move : Cond.instanceMethod yX13_move ∈ TW := walk_tw LCW14_w LCW14_g (i := 12) rfl
theorem se_X13_move : Cond.selects RX13 yX13_move yX13_move ∈ TW := walk_tw LCW14_w LCW14_g (i := 13) rfl
theorem cd_X13_move : Cond.code yX13_move cX13_move 3 (some .int) ∈ TW := walk_tw LCW14_w LCW14_g (i := 14) rfl
theorem ml_L_237 : Cond.methodLink RL 237 yX13_hang ∈ TW := walk_tw LCW14_w LCW14_g (i := 15) rfl
theorem im_X13_hang : Cond.instanceMethod yX13_hang ∈ TW := walk_tw LCW14_w LCW14_g (i := 16) rfl
theorem se_X13_hang : Cond.selects RX13 yX13_hang yX13_hang ∈ TW := walk_tw LCW14_w LCW14_g (i := 17) rfl
theorem cd_X13_hang : Cond.code yX13_hang cX13_hang 3 (some .boolean) ∈ TW := walk_tw LCW14_w LCW14_g (i := 18) rfl
theorem ml_L_242 : Cond.methodLink RL 242 yX13_take ∈ TW := walk_tw LCW14_w LCW14_g (i := 19) rfl
theorem im_X13_take : Cond.instanceMethod yX13_take ∈ TW := walk_tw LCW14_w LCW14_g (i := 20) rfl
theorem se_X13_take : Cond.selects RX13 yX13_take yX13_take ∈ TW := walk_tw LCW14_w LCW14_g (i := 21) rfl
theorem cd_X13_take : Cond.code yX13_take cX13_take 2 (some .boolean) ∈ TW := walk_tw LCW14_w LCW14_g (i := 22) rfl
theorem ml_L_246 : Cond.methodLink RL 246 yX13_teach ∈ TW := walk_tw LCW14_w LCW14_g (i := 23) rfl
theorem im_X13_teach : Cond.instanceMethod yX13_teach ∈ TW := walk_tw LCW14_w LCW14_g (i := 24) rfl
theorem se_X13_teach : Cond.selects RX13 yX13_teach yX13_teach ∈ TW := walk_tw LCW14_w LCW14_g (i := 25) rfl
theorem cd_X13_teach : Cond.code yX13_teach cX13_teach 3 (some .boolean) ∈ TW := walk_tw LCW14_w LCW14_g (i := 26) rfl
theorem ml_L_251 : Cond.methodLink RL 251 yX13_undo ∈ TW := walk_tw LCW14_w LCW14_g (i := 27) rfl
theorem im_X13_undo : Cond.instanceMethod yX13_undo ∈ TW := walk_tw LCW14_w LCW14_g (i := 28) rfl
theorem se_X13_undo : Cond.selects RX13 yX13_undo yX13_undo ∈ TW := walk_tw LCW14_w LCW14_g (i := 29) rfl
theorem cd_X13_undo : Cond.code yX13_undo cX13_undo 2 (some .boolean) ∈ TW := walk_tw LCW14_w LCW14_g (i := 30) rfl
theorem ml_L_255 : Cond.methodLink RL 255 yX13_image ∈ TW := walk_tw LCW14_w LCW14_g (i := 31) rfl
def LCW15 : List (Nat × Cond) := [(2139, Cond.instanceMethod yX13_image), (0, Cond.selects RX13 yX13_image yX13_image), (0, Cond.code yX13_image cX13_image 2 (some .int)), (0, Cond.methodLink RL 259 yX13_back), (0, Cond.instanceMethod yX13_back), (0, Cond.selects RX13 yX13_back yX13_back), (0, Cond.code yX13_back cX13_back 3 (some .boolean)), (0, Cond.methodLink RL 265 yX13_led), (0, Cond.instanceMethod yX13_led), (0, Cond.selects RX13 yX13_led yX13_led), (0, Cond.code yX13_led cX13_led 4 (some .int)), (0, Cond.methodLink RL 272 yX13_size), (0, Cond.instanceMethod yX13_size), (0, Cond.selects RX13 yX13_size yX13_size), (0, Cond.code yX13_size cX13_size 2 (some .int)), (4, Cond.methodLink RL 276 yX13_trouble), (0, Cond.instanceMethod yX13_trouble), (0, Cond.selects RX13 yX13_trouble yX13_trouble), (0, Cond.code yX13_trouble cX13_trouble 1 (some .int))]
theorem LCW15_w : walkI LCW15 lw_tbl = true := by decide +kernel
theorem LCW15_g : LCW15.all (fun q => goodWord q.2) = true := by decide +kernel
theorem im_X13_image : Cond.instanceMethod yX13_image ∈ TW := walk_tw LCW15_w LCW15_g (i := 0) rfl
theorem se_X13_image : Cond.selects RX13 yX13_image yX13_image ∈ TW := walk_tw LCW15_w LCW15_g (i := 1) rfl
theorem cd_X13_image : Cond.code yX13_image cX13_image 2 (some .int) ∈ TW := walk_tw LCW15_w LCW15_g (i := 2) rfl
theorem ml_L_259 : Cond.methodLink RL 259 yX13_back ∈ TW := walk_tw LCW15_w LCW15_g (i := 3) rfl
theorem im_X13_back : Cond.instanceMethod yX13_back ∈ TW := walk_tw LCW15_w LCW15_g (i := 4) rfl
theorem se_X13_back : Cond.selects RX13 yX13_back yX13_back ∈ TW := walk_tw LCW15_w LCW15_g (i := 5) rfl
theorem cd_X13_back : Cond.code yX13_back cX13_back 3 (some .boolean) ∈ TW := walk_tw LCW15_w LCW15_g (i := 6) rfl
theorem ml_L_265 : Cond.methodLink RL 265 yX13_led ∈ TW := walk_tw LCW15_w LCW15_g (i := 7) rfl
theorem im_X13_led : Cond.instanceMethod yX13_led ∈ TW := walk_tw LCW15_w LCW15_g (i := 8) rfl
theorem se_X13_led : Cond.selects RX13 yX13_led yX13_led ∈ TW := walk_tw LCW15_w LCW15_g (i := 9) rfl
theorem cd_X13_led : Cond.code yX13_led cX13_led 4 (some .int) ∈ TW := walk_tw LCW15_w LCW15_g (i := 10) rfl
theorem ml_L_272 : Cond.methodLink RL 272 yX13_size ∈ TW := walk_tw LCW15_w LCW15_g (i := 11) rfl
theorem im_X13_size : Cond.instanceMethod yX13_size ∈ TW := walk_tw LCW15_w LCW15_g (i := 12) rfl
theorem se_X13_size : Cond.selects RX13 yX13_size yX13_size ∈ TW := walk_tw LCW15_w LCW15_g (i := 13) rfl
theorem cd_X13_size : Cond.code yX13_size cX13_size 2 (some .int) ∈ TW := walk_tw LCW15_w LCW15_g (i := 14) rfl
theorem ml_L_276 : Cond.methodLink RL 276 yX13_trouble ∈ TW := walk_tw LCW15_w LCW15_g (i := 15) rfl
theorem im_X13_trouble : Cond.instanceMethod yX13_trouble ∈ TW := walk_tw LCW15_w LCW15_g (i := 16) rfl
theorem se_X13_trouble : Cond.selects RX13 yX13_trouble yX13_trouble ∈ TW := walk_tw LCW15_w LCW15_g (i := 17) rfl
theorem cd_X13_trouble : Cond.code yX13_trouble cX13_trouble 1 (some .int) ∈ TW := walk_tw LCW15_w LCW15_g (i := 18) rfl
theorem cal_X11_aimFor : CalV mX11_aimFor 3 := ⟨⟨cd_X11_aimFor, iz_X11, ⟨by decide +kernel, by decide +kernel⟩, by decide +kernel⟩, im_X11_aimFor, se_X11_aimFor⟩
theorem cal_X11_aims : CalV mX11_aims 3 := ⟨⟨cd_X11_aims, iz_X11, ⟨by decide +kernel, by decide +kernel⟩, by decide +kernel⟩, im_X11_aims, se_X11_aims⟩
theorem cal_X11_ask : CalV mX11_ask 0 := ⟨⟨cd_X11_ask, iz_X11, ⟨by decide +kernel, by decide +kernel⟩, by decide +kernel⟩, im_X11_ask, se_X11_ask⟩
theorem cal_X11_askLeaves : CalV mX11_askLeaves 0 := ⟨⟨cd_X11_askLeaves, iz_X11, ⟨by decide +kernel, by decide +kernel⟩, by decide +kernel⟩, im_X11_askLeaves, se_X11_askLeaves⟩
theorem cal_X11_back : CalV mX11_back 1 := ⟨⟨cd_X11_back, iz_X11, ⟨by decide +kernel, by decide +kernel⟩, by decide +kernel⟩, im_X11_back, se_X11_back⟩
theorem cal_X11_bestNight : CalV mX11_bestNight 0 := ⟨⟨cd_X11_bestNight, iz_X11, ⟨by decide +kernel, by decide +kernel⟩, by decide +kernel⟩, im_X11_bestNight, se_X11_bestNight⟩
theorem cal_X11_bring : CalV mX11_bring 2 := ⟨⟨cd_X11_bring, iz_X11, ⟨by decide +kernel, by decide +kernel⟩, by decide +kernel⟩, im_X11_bring, se_X11_bring⟩
theorem cal_X11_bringFrom : CalV mX11_bringFrom 1 := ⟨⟨cd_X11_bringFrom, iz_X11, ⟨by decide +kernel, by decide +kernel⟩, by decide +kernel⟩, im_X11_bringFrom, se_X11_bringFrom⟩
theorem cal_X11_chat : CalV mX11_chat 4 := ⟨⟨cd_X11_chat, iz_X11, ⟨by decide +kernel, by decide +kernel⟩, by decide +kernel⟩, im_X11_chat, se_X11_chat⟩
theorem cal_X11_comesOut : CalV mX11_comesOut 2 := ⟨⟨cd_X11_comesOut, iz_X11, ⟨by decide +kernel, by decide +kernel⟩, by decide +kernel⟩, im_X11_comesOut, se_X11_comesOut⟩
theorem cal_X11_could : CalV mX11_could 0 := ⟨⟨cd_X11_could, iz_X11, ⟨by decide +kernel, by decide +kernel⟩, by decide +kernel⟩, im_X11_could, se_X11_could⟩
theorem cal_X11_dead : CalV mX11_dead 2 := ⟨⟨cd_X11_dead, iz_X11, ⟨by decide +kernel, by decide +kernel⟩, by decide +kernel⟩, im_X11_dead, se_X11_dead⟩
theorem cal_X11_fault : CalV mX11_fault 0 := ⟨⟨cd_X11_fault, iz_X11, ⟨by decide +kernel, by decide +kernel⟩, by decide +kernel⟩, im_X11_fault, se_X11_fault⟩
theorem cal_X11_feed : CalV mX11_feed 5 := ⟨⟨cd_X11_feed, iz_X11, ⟨by decide +kernel, by decide +kernel⟩, by decide +kernel⟩, im_X11_feed, se_X11_feed⟩
theorem cal_X11_fitAt : CalV mX11_fitAt 1 := ⟨⟨cd_X11_fitAt, iz_X11, ⟨by decide +kernel, by decide +kernel⟩, by decide +kernel⟩, im_X11_fitAt, se_X11_fitAt⟩
theorem cal_X11_fits : CalV mX11_fits 0 := ⟨⟨cd_X11_fits, iz_X11, ⟨by decide +kernel, by decide +kernel⟩, by decide +kernel⟩, im_X11_fits, se_X11_fits⟩
theorem cal_X11_hang : CalV mX11_hang 2 := ⟨⟨cd_X11_hang, iz_X11, ⟨by decide +kernel, by decide +kernel⟩, by decide +kernel⟩, im_X11_hang, se_X11_hang⟩
theorem cal_X11_heardBy : CalV mX11_heardBy 3 := ⟨⟨cd_X11_heardBy, iz_X11, ⟨by decide +kernel, by decide +kernel⟩, by decide +kernel⟩, im_X11_heardBy, se_X11_heardBy⟩
theorem cal_X11_hears : CalV mX11_hears 2 := ⟨⟨cd_X11_hears, iz_X11, ⟨by decide +kernel, by decide +kernel⟩, by decide +kernel⟩, im_X11_hears, se_X11_hears⟩
theorem cal_X11_house : CalV mX11_house 1 := ⟨⟨cd_X11_house, iz_X11, ⟨by decide +kernel, by decide +kernel⟩, by decide +kernel⟩, im_X11_house, se_X11_house⟩
theorem cal_X11_image : CalV mX11_image 0 := ⟨⟨cd_X11_image, iz_X11, ⟨by decide +kernel, by decide +kernel⟩, by decide +kernel⟩, im_X11_image, se_X11_image⟩
theorem cal_X11_init : CalI mX11_init 0 := ⟨⟨cd_X11_init, iz_X11, ⟨by decide +kernel, by decide +kernel⟩, by decide +kernel⟩, rfl, im_X11_init⟩
theorem cal_X11_judge : CalV mX11_judge 0 := ⟨⟨cd_X11_judge, iz_X11, ⟨by decide +kernel, by decide +kernel⟩, by decide +kernel⟩, im_X11_judge, se_X11_judge⟩
theorem cal_X11_likes : CalV mX11_likes 3 := ⟨⟨cd_X11_likes, iz_X11, ⟨by decide +kernel, by decide +kernel⟩, by decide +kernel⟩, im_X11_likes, se_X11_likes⟩
theorem cal_X11_mean : CalV mX11_mean 3 := ⟨⟨cd_X11_mean, iz_X11, ⟨by decide +kernel, by decide +kernel⟩, by decide +kernel⟩, im_X11_mean, se_X11_mean⟩
theorem cal_X11_medium : CalV mX11_medium 1 := ⟨⟨cd_X11_medium, iz_X11, ⟨by decide +kernel, by decide +kernel⟩, by decide +kernel⟩, im_X11_medium, se_X11_medium⟩
theorem cal_X11_mirrorBest : CalV mX11_mirrorBest 1 := ⟨⟨cd_X11_mirrorBest, iz_X11, ⟨by decide +kernel, by decide +kernel⟩, by decide +kernel⟩, im_X11_mirrorBest, se_X11_mirrorBest⟩
theorem cal_X11_mirrorFor : CalV mX11_mirrorFor 2 := ⟨⟨cd_X11_mirrorFor, iz_X11, ⟨by decide +kernel, by decide +kernel⟩, by decide +kernel⟩, im_X11_mirrorFor, se_X11_mirrorFor⟩
theorem cal_X11_most : CalV mX11_most 3 := ⟨⟨cd_X11_most, iz_X11, ⟨by decide +kernel, by decide +kernel⟩, by decide +kernel⟩, im_X11_most, se_X11_most⟩
theorem cal_X11_move : CalV mX11_move 2 := ⟨⟨cd_X11_move, iz_X11, ⟨by decide +kernel, by decide +kernel⟩, by decide +kernel⟩, im_X11_move, se_X11_move⟩
theorem cal_X11_moveFor : CalV mX11_moveFor 2 := ⟨⟨cd_X11_moveFor, iz_X11, ⟨by decide +kernel, by decide +kernel⟩, by decide +kernel⟩, im_X11_moveFor, se_X11_moveFor⟩
theorem cal_X11_night : CalV mX11_night 0 := ⟨⟨cd_X11_night, iz_X11, ⟨by decide +kernel, by decide +kernel⟩, by decide +kernel⟩, im_X11_night, se_X11_night⟩
theorem cal_X11_nightsOf : CalV mX11_nightsOf 2 := ⟨⟨cd_X11_nightsOf, iz_X11, ⟨by decide +kernel, by decide +kernel⟩, by decide +kernel⟩, im_X11_nightsOf, se_X11_nightsOf⟩
theorem cal_X11_odds : CalV mX11_odds 3 := ⟨⟨cd_X11_odds, iz_X11, ⟨by decide +kernel, by decide +kernel⟩, by decide +kernel⟩, im_X11_odds, se_X11_odds⟩
theorem cal_X11_off : CalV mX11_off 2 := ⟨⟨cd_X11_off, iz_X11, ⟨by decide +kernel, by decide +kernel⟩, by decide +kernel⟩, im_X11_off, se_X11_off⟩
theorem cal_X11_outIf : CalV mX11_outIf 3 := ⟨⟨cd_X11_outIf, iz_X11, ⟨by decide +kernel, by decide +kernel⟩, by decide +kernel⟩, im_X11_outIf, se_X11_outIf⟩
theorem cal_X11_perfect : CalV mX11_perfect 0 := ⟨⟨cd_X11_perfect, iz_X11, ⟨by decide +kernel, by decide +kernel⟩, by decide +kernel⟩, im_X11_perfect, se_X11_perfect⟩
theorem cal_X11_person : CalV mX11_person 2 := ⟨⟨cd_X11_person, iz_X11, ⟨by decide +kernel, by decide +kernel⟩, by decide +kernel⟩, im_X11_person, se_X11_person⟩
theorem cal_X11_rest : CalV mX11_rest 1 := ⟨⟨cd_X11_rest, iz_X11, ⟨by decide +kernel, by decide +kernel⟩, by decide +kernel⟩, im_X11_rest, se_X11_rest⟩
theorem cal_X11_restless : CalV mX11_restless 1 := ⟨⟨cd_X11_restless, iz_X11, ⟨by decide +kernel, by decide +kernel⟩, by decide +kernel⟩, im_X11_restless, se_X11_restless⟩
theorem cal_X11_rests : CalV mX11_rests 1 := ⟨⟨cd_X11_rests, iz_X11, ⟨by decide +kernel, by decide +kernel⟩, by decide +kernel⟩, im_X11_rests, se_X11_rests⟩
theorem cal_X11_right : CalV mX11_right 1 := ⟨⟨cd_X11_right, iz_X11, ⟨by decide +kernel, by decide +kernel⟩, by decide +kernel⟩, im_X11_right, se_X11_right⟩
theorem cal_X11_rightFrom : CalV mX11_rightFrom 2 := ⟨⟨cd_X11_rightFrom, iz_X11, ⟨by decide +kernel, by decide +kernel⟩, by decide +kernel⟩, im_X11_rightFrom, se_X11_rightFrom⟩
theorem cal_X11_rights : CalV mX11_rights 2 := ⟨⟨cd_X11_rights, iz_X11, ⟨by decide +kernel, by decide +kernel⟩, by decide +kernel⟩, im_X11_rights, se_X11_rights⟩
theorem cal_X11_ring : CalV mX11_ring 2 := ⟨⟨cd_X11_ring, iz_X11, ⟨by decide +kernel, by decide +kernel⟩, by decide +kernel⟩, im_X11_ring, se_X11_ring⟩
theorem cal_X11_ringAt : CalV mX11_ringAt 3 := ⟨⟨cd_X11_ringAt, iz_X11, ⟨by decide +kernel, by decide +kernel⟩, by decide +kernel⟩, im_X11_ringAt, se_X11_ringAt⟩
theorem cal_X11_round : CalV mX11_round 1 := ⟨⟨cd_X11_round, iz_X11, ⟨by decide +kernel, by decide +kernel⟩, by decide +kernel⟩, im_X11_round, se_X11_round⟩
theorem cal_X11_seat : CalV mX11_seat 1 := ⟨⟨cd_X11_seat, iz_X11, ⟨by decide +kernel, by decide +kernel⟩, by decide +kernel⟩, im_X11_seat, se_X11_seat⟩
theorem cal_X11_seatAt : CalV mX11_seatAt 2 := ⟨⟨cd_X11_seatAt, iz_X11, ⟨by decide +kernel, by decide +kernel⟩, by decide +kernel⟩, im_X11_seatAt, se_X11_seatAt⟩
theorem cal_X11_silent : CalV mX11_silent 1 := ⟨⟨cd_X11_silent, iz_X11, ⟨by decide +kernel, by decide +kernel⟩, by decide +kernel⟩, im_X11_silent, se_X11_silent⟩
theorem cal_X11_size : CalV mX11_size 1 := ⟨⟨cd_X11_size, iz_X11, ⟨by decide +kernel, by decide +kernel⟩, by decide +kernel⟩, im_X11_size, se_X11_size⟩
theorem cal_X11_slipFor : CalV mX11_slipFor 2 := ⟨⟨cd_X11_slipFor, iz_X11, ⟨by decide +kernel, by decide +kernel⟩, by decide +kernel⟩, im_X11_slipFor, se_X11_slipFor⟩
theorem cal_X11_steps : CalV mX11_steps 2 := ⟨⟨cd_X11_steps, iz_X11, ⟨by decide +kernel, by decide +kernel⟩, by decide +kernel⟩, im_X11_steps, se_X11_steps⟩
theorem cal_X11_surely : CalV mX11_surely 0 := ⟨⟨cd_X11_surely, iz_X11, ⟨by decide +kernel, by decide +kernel⟩, by decide +kernel⟩, im_X11_surely, se_X11_surely⟩
theorem cal_X11_take : CalV mX11_take 1 := ⟨⟨cd_X11_take, iz_X11, ⟨by decide +kernel, by decide +kernel⟩, by decide +kernel⟩, im_X11_take, se_X11_take⟩
theorem cal_X11_teach : CalV mX11_teach 2 := ⟨⟨cd_X11_teach, iz_X11, ⟨by decide +kernel, by decide +kernel⟩, by decide +kernel⟩, im_X11_teach, se_X11_teach⟩
theorem cal_X11_together : CalV mX11_together 2 := ⟨⟨cd_X11_together, iz_X11, ⟨by decide +kernel, by decide +kernel⟩, by decide +kernel⟩, im_X11_together, se_X11_together⟩
theorem cal_X11_town : CalV mX11_town 1 := ⟨⟨cd_X11_town, iz_X11, ⟨by decide +kernel, by decide +kernel⟩, by decide +kernel⟩, im_X11_town, se_X11_town⟩
theorem cal_X11_trouble : CalV mX11_trouble 0 := ⟨⟨cd_X11_trouble, iz_X11, ⟨by decide +kernel, by decide +kernel⟩, by decide +kernel⟩, im_X11_trouble, se_X11_trouble⟩
theorem cal_X11_undo : CalV mX11_undo 0 := ⟨⟨cd_X11_undo, iz_X11, ⟨by decide +kernel, by decide +kernel⟩, by decide +kernel⟩, im_X11_undo, se_X11_undo⟩
theorem cal_X11_where : CalV mX11_where 0 := ⟨⟨cd_X11_where, iz_X11, ⟨by decide +kernel, by decide +kernel⟩, by decide +kernel⟩, im_X11_where, se_X11_where⟩
theorem cal_X13_aimFor : CalV mX13_aimFor 3 := ⟨⟨cd_X13_aimFor, iz_X13, ⟨by decide +kernel, by decide +kernel⟩, by decide +kernel⟩, im_X13_aimFor, se_X13_aimFor⟩
theorem cal_X13_aims : CalV mX13_aims 3 := ⟨⟨cd_X13_aims, iz_X13, ⟨by decide +kernel, by decide +kernel⟩, by decide +kernel⟩, im_X13_aims, se_X13_aims⟩
theorem cal_X13_ask : CalV mX13_ask 0 := ⟨⟨cd_X13_ask, iz_X13, ⟨by decide +kernel, by decide +kernel⟩, by decide +kernel⟩, im_X13_ask, se_X13_ask⟩
theorem cal_X13_askLeaves : CalV mX13_askLeaves 0 := ⟨⟨cd_X13_askLeaves, iz_X13, ⟨by decide +kernel, by decide +kernel⟩, by decide +kernel⟩, im_X13_askLeaves, se_X13_askLeaves⟩
theorem cal_X13_back : CalV mX13_back 1 := ⟨⟨cd_X13_back, iz_X13, ⟨by decide +kernel, by decide +kernel⟩, by decide +kernel⟩, im_X13_back, se_X13_back⟩
theorem cal_X13_bestNight : CalV mX13_bestNight 0 := ⟨⟨cd_X13_bestNight, iz_X13, ⟨by decide +kernel, by decide +kernel⟩, by decide +kernel⟩, im_X13_bestNight, se_X13_bestNight⟩
theorem cal_X13_bring : CalV mX13_bring 2 := ⟨⟨cd_X13_bring, iz_X13, ⟨by decide +kernel, by decide +kernel⟩, by decide +kernel⟩, im_X13_bring, se_X13_bring⟩
theorem cal_X13_bringFrom : CalV mX13_bringFrom 1 := ⟨⟨cd_X13_bringFrom, iz_X13, ⟨by decide +kernel, by decide +kernel⟩, by decide +kernel⟩, im_X13_bringFrom, se_X13_bringFrom⟩
theorem cal_X13_chat : CalV mX13_chat 4 := ⟨⟨cd_X13_chat, iz_X13, ⟨by decide +kernel, by decide +kernel⟩, by decide +kernel⟩, im_X13_chat, se_X13_chat⟩
theorem cal_X13_comesOut : CalV mX13_comesOut 2 := ⟨⟨cd_X13_comesOut, iz_X13, ⟨by decide +kernel, by decide +kernel⟩, by decide +kernel⟩, im_X13_comesOut, se_X13_comesOut⟩
theorem cal_X13_could : CalV mX13_could 0 := ⟨⟨cd_X13_could, iz_X13, ⟨by decide +kernel, by decide +kernel⟩, by decide +kernel⟩, im_X13_could, se_X13_could⟩
theorem cal_X13_dead : CalV mX13_dead 2 := ⟨⟨cd_X13_dead, iz_X13, ⟨by decide +kernel, by decide +kernel⟩, by decide +kernel⟩, im_X13_dead, se_X13_dead⟩
theorem cal_X13_fault : CalV mX13_fault 0 := ⟨⟨cd_X13_fault, iz_X13, ⟨by decide +kernel, by decide +kernel⟩, by decide +kernel⟩, im_X13_fault, se_X13_fault⟩
theorem cal_X13_feed : CalV mX13_feed 5 := ⟨⟨cd_X13_feed, iz_X13, ⟨by decide +kernel, by decide +kernel⟩, by decide +kernel⟩, im_X13_feed, se_X13_feed⟩
theorem cal_X13_fitAt : CalV mX13_fitAt 1 := ⟨⟨cd_X13_fitAt, iz_X13, ⟨by decide +kernel, by decide +kernel⟩, by decide +kernel⟩, im_X13_fitAt, se_X13_fitAt⟩
theorem cal_X13_fits : CalV mX13_fits 0 := ⟨⟨cd_X13_fits, iz_X13, ⟨by decide +kernel, by decide +kernel⟩, by decide +kernel⟩, im_X13_fits, se_X13_fits⟩
theorem cal_X13_hang : CalV mX13_hang 2 := ⟨⟨cd_X13_hang, iz_X13, ⟨by decide +kernel, by decide +kernel⟩, by decide +kernel⟩, im_X13_hang, se_X13_hang⟩
theorem cal_X13_heardBy : CalV mX13_heardBy 3 := ⟨⟨cd_X13_heardBy, iz_X13, ⟨by decide +kernel, by decide +kernel⟩, by decide +kernel⟩, im_X13_heardBy, se_X13_heardBy⟩
theorem cal_X13_hears : CalV mX13_hears 2 := ⟨⟨cd_X13_hears, iz_X13, ⟨by decide +kernel, by decide +kernel⟩, by decide +kernel⟩, im_X13_hears, se_X13_hears⟩
theorem cal_X13_house : CalV mX13_house 1 := ⟨⟨cd_X13_house, iz_X13, ⟨by decide +kernel, by decide +kernel⟩, by decide +kernel⟩, im_X13_house, se_X13_house⟩
theorem cal_X13_image : CalV mX13_image 0 := ⟨⟨cd_X13_image, iz_X13, ⟨by decide +kernel, by decide +kernel⟩, by decide +kernel⟩, im_X13_image, se_X13_image⟩
theorem cal_X13_init : CalI mX13_init 0 := ⟨⟨cd_X13_init, iz_X13, ⟨by decide +kernel, by decide +kernel⟩, by decide +kernel⟩, rfl, im_X13_init⟩
theorem cal_X13_judge : CalV mX13_judge 0 := ⟨⟨cd_X13_judge, iz_X13, ⟨by decide +kernel, by decide +kernel⟩, by decide +kernel⟩, im_X13_judge, se_X13_judge⟩
theorem cal_X13_led : CalV mX13_led 1 := ⟨⟨cd_X13_led, iz_X13, ⟨by decide +kernel, by decide +kernel⟩, by decide +kernel⟩, im_X13_led, se_X13_led⟩
theorem cal_X13_likes : CalV mX13_likes 3 := ⟨⟨cd_X13_likes, iz_X13, ⟨by decide +kernel, by decide +kernel⟩, by decide +kernel⟩, im_X13_likes, se_X13_likes⟩
theorem cal_X13_mean : CalV mX13_mean 3 := ⟨⟨cd_X13_mean, iz_X13, ⟨by decide +kernel, by decide +kernel⟩, by decide +kernel⟩, im_X13_mean, se_X13_mean⟩
theorem cal_X13_medium : CalV mX13_medium 1 := ⟨⟨cd_X13_medium, iz_X13, ⟨by decide +kernel, by decide +kernel⟩, by decide +kernel⟩, im_X13_medium, se_X13_medium⟩
theorem cal_X13_mirrorBest : CalV mX13_mirrorBest 1 := ⟨⟨cd_X13_mirrorBest, iz_X13, ⟨by decide +kernel, by decide +kernel⟩, by decide +kernel⟩, im_X13_mirrorBest, se_X13_mirrorBest⟩
theorem cal_X13_mirrorFor : CalV mX13_mirrorFor 2 := ⟨⟨cd_X13_mirrorFor, iz_X13, ⟨by decide +kernel, by decide +kernel⟩, by decide +kernel⟩, im_X13_mirrorFor, se_X13_mirrorFor⟩
theorem cal_X13_most : CalV mX13_most 3 := ⟨⟨cd_X13_most, iz_X13, ⟨by decide +kernel, by decide +kernel⟩, by decide +kernel⟩, im_X13_most, se_X13_most⟩
theorem cal_X13_move : CalV mX13_move 2 := ⟨⟨cd_X13_move, iz_X13, ⟨by decide +kernel, by decide +kernel⟩, by decide +kernel⟩, im_X13_move, se_X13_move⟩
theorem cal_X13_moveFor : CalV mX13_moveFor 2 := ⟨⟨cd_X13_moveFor, iz_X13, ⟨by decide +kernel, by decide +kernel⟩, by decide +kernel⟩, im_X13_moveFor, se_X13_moveFor⟩
theorem cal_X13_night : CalV mX13_night 0 := ⟨⟨cd_X13_night, iz_X13, ⟨by decide +kernel, by decide +kernel⟩, by decide +kernel⟩, im_X13_night, se_X13_night⟩
theorem cal_X13_nightsOf : CalV mX13_nightsOf 2 := ⟨⟨cd_X13_nightsOf, iz_X13, ⟨by decide +kernel, by decide +kernel⟩, by decide +kernel⟩, im_X13_nightsOf, se_X13_nightsOf⟩
theorem cal_X13_odds : CalV mX13_odds 3 := ⟨⟨cd_X13_odds, iz_X13, ⟨by decide +kernel, by decide +kernel⟩, by decide +kernel⟩, im_X13_odds, se_X13_odds⟩
theorem cal_X13_off : CalV mX13_off 2 := ⟨⟨cd_X13_off, iz_X13, ⟨by decide +kernel, by decide +kernel⟩, by decide +kernel⟩, im_X13_off, se_X13_off⟩
theorem cal_X13_outIf : CalV mX13_outIf 3 := ⟨⟨cd_X13_outIf, iz_X13, ⟨by decide +kernel, by decide +kernel⟩, by decide +kernel⟩, im_X13_outIf, se_X13_outIf⟩
theorem cal_X13_perfect : CalV mX13_perfect 0 := ⟨⟨cd_X13_perfect, iz_X13, ⟨by decide +kernel, by decide +kernel⟩, by decide +kernel⟩, im_X13_perfect, se_X13_perfect⟩
theorem cal_X13_person : CalV mX13_person 2 := ⟨⟨cd_X13_person, iz_X13, ⟨by decide +kernel, by decide +kernel⟩, by decide +kernel⟩, im_X13_person, se_X13_person⟩
theorem cal_X13_rest : CalV mX13_rest 1 := ⟨⟨cd_X13_rest, iz_X13, ⟨by decide +kernel, by decide +kernel⟩, by decide +kernel⟩, im_X13_rest, se_X13_rest⟩
theorem cal_X13_restless : CalV mX13_restless 1 := ⟨⟨cd_X13_restless, iz_X13, ⟨by decide +kernel, by decide +kernel⟩, by decide +kernel⟩, im_X13_restless, se_X13_restless⟩
theorem cal_X13_rests : CalV mX13_rests 1 := ⟨⟨cd_X13_rests, iz_X13, ⟨by decide +kernel, by decide +kernel⟩, by decide +kernel⟩, im_X13_rests, se_X13_rests⟩
theorem cal_X13_right : CalV mX13_right 1 := ⟨⟨cd_X13_right, iz_X13, ⟨by decide +kernel, by decide +kernel⟩, by decide +kernel⟩, im_X13_right, se_X13_right⟩
theorem cal_X13_rightFrom : CalV mX13_rightFrom 2 := ⟨⟨cd_X13_rightFrom, iz_X13, ⟨by decide +kernel, by decide +kernel⟩, by decide +kernel⟩, im_X13_rightFrom, se_X13_rightFrom⟩
theorem cal_X13_rights : CalV mX13_rights 2 := ⟨⟨cd_X13_rights, iz_X13, ⟨by decide +kernel, by decide +kernel⟩, by decide +kernel⟩, im_X13_rights, se_X13_rights⟩
theorem cal_X13_ring : CalV mX13_ring 2 := ⟨⟨cd_X13_ring, iz_X13, ⟨by decide +kernel, by decide +kernel⟩, by decide +kernel⟩, im_X13_ring, se_X13_ring⟩
theorem cal_X13_ringAt : CalV mX13_ringAt 3 := ⟨⟨cd_X13_ringAt, iz_X13, ⟨by decide +kernel, by decide +kernel⟩, by decide +kernel⟩, im_X13_ringAt, se_X13_ringAt⟩
theorem cal_X13_round : CalV mX13_round 1 := ⟨⟨cd_X13_round, iz_X13, ⟨by decide +kernel, by decide +kernel⟩, by decide +kernel⟩, im_X13_round, se_X13_round⟩
theorem cal_X13_seat : CalV mX13_seat 1 := ⟨⟨cd_X13_seat, iz_X13, ⟨by decide +kernel, by decide +kernel⟩, by decide +kernel⟩, im_X13_seat, se_X13_seat⟩
theorem cal_X13_seatAt : CalV mX13_seatAt 2 := ⟨⟨cd_X13_seatAt, iz_X13, ⟨by decide +kernel, by decide +kernel⟩, by decide +kernel⟩, im_X13_seatAt, se_X13_seatAt⟩
theorem cal_X13_silent : CalV mX13_silent 1 := ⟨⟨cd_X13_silent, iz_X13, ⟨by decide +kernel, by decide +kernel⟩, by decide +kernel⟩, im_X13_silent, se_X13_silent⟩
theorem cal_X13_size : CalV mX13_size 1 := ⟨⟨cd_X13_size, iz_X13, ⟨by decide +kernel, by decide +kernel⟩, by decide +kernel⟩, im_X13_size, se_X13_size⟩
theorem cal_X13_slipFor : CalV mX13_slipFor 2 := ⟨⟨cd_X13_slipFor, iz_X13, ⟨by decide +kernel, by decide +kernel⟩, by decide +kernel⟩, im_X13_slipFor, se_X13_slipFor⟩
theorem cal_X13_steps : CalV mX13_steps 2 := ⟨⟨cd_X13_steps, iz_X13, ⟨by decide +kernel, by decide +kernel⟩, by decide +kernel⟩, im_X13_steps, se_X13_steps⟩
theorem cal_X13_surely : CalV mX13_surely 0 := ⟨⟨cd_X13_surely, iz_X13, ⟨by decide +kernel, by decide +kernel⟩, by decide +kernel⟩, im_X13_surely, se_X13_surely⟩
theorem cal_X13_take : CalV mX13_take 1 := ⟨⟨cd_X13_take, iz_X13, ⟨by decide +kernel, by decide +kernel⟩, by decide +kernel⟩, im_X13_take, se_X13_take⟩
theorem cal_X13_teach : CalV mX13_teach 2 := ⟨⟨cd_X13_teach, iz_X13, ⟨by decide +kernel, by decide +kernel⟩, by decide +kernel⟩, im_X13_teach, se_X13_teach⟩
theorem cal_X13_thrown : CalV mX13_thrown 0 := ⟨⟨cd_X13_thrown, iz_X13, ⟨by decide +kernel, by decide +kernel⟩, by decide +kernel⟩, im_X13_thrown, se_X13_thrown⟩
theorem cal_X13_together : CalV mX13_together 2 := ⟨⟨cd_X13_together, iz_X13, ⟨by decide +kernel, by decide +kernel⟩, by decide +kernel⟩, im_X13_together, se_X13_together⟩
theorem cal_X13_town : CalV mX13_town 1 := ⟨⟨cd_X13_town, iz_X13, ⟨by decide +kernel, by decide +kernel⟩, by decide +kernel⟩, im_X13_town, se_X13_town⟩
theorem cal_X13_trouble : CalV mX13_trouble 0 := ⟨⟨cd_X13_trouble, iz_X13, ⟨by decide +kernel, by decide +kernel⟩, by decide +kernel⟩, im_X13_trouble, se_X13_trouble⟩
theorem cal_X13_undo : CalV mX13_undo 0 := ⟨⟨cd_X13_undo, iz_X13, ⟨by decide +kernel, by decide +kernel⟩, by decide +kernel⟩, im_X13_undo, se_X13_undo⟩
theorem cal_X13_where : CalV mX13_where 0 := ⟨⟨cd_X13_where, iz_X13, ⟨by decide +kernel, by decide +kernel⟩, by decide +kernel⟩, im_X13_where, se_X13_where⟩
