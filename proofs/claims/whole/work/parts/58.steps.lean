/-! the reading calls as steps -/
section STEPS
variable {s : St}
theorem s_person (a b : Int) (h : INV s) : STP s (fun s => X11_person s 0 a b) (fun s => X13_person s 76 a b) := by
  obtain ⟨W, L, I, tr, fl, fp, tp, hO, ht, hC, hM⟩ := h
  exact step_read hO ht hC hM (q_person W a b) (rd_ne (fun T => g2_le _ _)) (CR_eq (cc_person hC.1 a b)) (fun s1 h1 => mm_person h1 a b)
theorem s_dead (a b : Int) (h : INV s) : STP s (fun s => X11_dead s 0 a b) (fun s => X13_dead s 76 a b) := by
  obtain ⟨W, L, I, tr, fl, fp, tp, hO, ht, hC, hM⟩ := h
  exact step_read hO ht hC hM (q_dead W a b) (rd_ne (fun T => g2_le _ _)) (CR_eq (cc_dead hC.1 a b)) (fun s1 h1 => mm_dead h1 a b)
theorem s_house (a : Int) (h : INV s) : STP s (fun s => X11_house s 0 a) (fun s => X13_house s 76 a) := by
  obtain ⟨W, L, I, tr, fl, fp, tp, hO, ht, hC, hM⟩ := h
  exact step_read hO ht hC hM (q_house W a) (rd_ne (fun T => g2_le _ _)) (CR_eq (cc_house hC.1 a)) (fun s1 h1 => mm_house h1 a)
theorem s_comesOut (a b : Int) (h : INV s) : STP s (fun s => X11_comesOut s 0 a b) (fun s => X13_comesOut s 76 a b) := by
  obtain ⟨W, L, I, tr, fl, fp, tp, hO, ht, hC, hM⟩ := h
  exact step_read hO ht hC hM (q_comesOut W a b) (rd_ne (fun T => g2_le _ _)) (CR_eq (c_comesOut hC.1 a b)) (fun s1 h1 => mm_comesOut h1 a b)
theorem s_outIf (a b c : Int) (h : INV s) : STP s (fun s => X11_outIf s 0 a b c) (fun s => X13_outIf s 76 a b c) := by
  obtain ⟨W, L, I, tr, fl, fp, tp, hO, ht, hC, hM⟩ := h
  exact step_read hO ht hC hM (q_outIf W a b c) (rd_ne (fun T => g2_le _ _)) (CR_eq (cc_outIf hC.1 a b c)) (fun s1 h1 => mm_outIf h1 a b c)
theorem s_hears (a b : Int) (h : INV s) : STP s (fun s => X11_hears s 0 a b) (fun s => X13_hears s 76 a b) := by
  obtain ⟨W, L, I, tr, fl, fp, tp, hO, ht, hC, hM⟩ := h
  exact step_read hO ht hC hM (q_hears W a b) (rd_ne (fun T => g2_le _ _)) (CR_eq (cc_hears hC.1 a b)) (fun s1 h1 => mm_hears h1 a b)
theorem s_off (a b : Int) (h : INV s) : STP s (fun s => X11_off s 0 a b) (fun s => X13_off s 76 a b) := by
  obtain ⟨W, L, I, tr, fl, fp, tp, hO, ht, hC, hM⟩ := h
  exact step_read hO ht hC hM (q_off W a b) (rd_ne (fun T => g2_le _ _)) (CR_eq (cc_off hC.1 a b)) (fun s1 h1 => mm_off h1 a b)
theorem s_right (a : Int) (h : INV s) : STP s (fun s => X11_right s 0 a) (fun s => X13_right s 76 a) := by
  obtain ⟨W, L, I, tr, fl, fp, tp, hO, ht, hC, hM⟩ := h
  exact step_read hO ht hC hM (q_right W a) (rd_ne (fun T => g2_le _ _)) (CR_eq (cc_right hC.1 a)) (fun s1 h1 => mm_right h1 a)
theorem s_medium (a : Int) (h : INV s) : STP s (fun s => X11_medium s 0 a) (fun s => X13_medium s 76 a) := by
  obtain ⟨W, L, I, tr, fl, fp, tp, hO, ht, hC, hM⟩ := h
  exact step_read hO ht hC hM (q_medium W a) (rd_ne (fun T => g2_le _ _)) (CR_eq (cc_medium hC.1 a)) (fun s1 h1 => mm_medium h1 a)
theorem s_silent (a : Int) (h : INV s) : STP s (fun s => X11_silent s 0 a) (fun s => X13_silent s 76 a) := by
  obtain ⟨W, L, I, tr, fl, fp, tp, hO, ht, hC, hM⟩ := h
  exact step_read hO ht hC hM (q_silent W a) (rd_ne (fun T => g2_le _ _)) (CR_eq (cc_silent hC.1 a)) (fun s1 h1 => mm_silent h1 a)
theorem s_rightFrom (a b : Int) (h : INV s) : STP s (fun s => X11_rightFrom s 0 a b) (fun s => X13_rightFrom s 76 a b) := by
  obtain ⟨W, L, I, tr, fl, fp, tp, hO, ht, hC, hM⟩ := h
  exact step_read hO ht hC hM (q_rightFrom W a b) (rd_ne (fun T => g2_le _ _)) (CR_eq (cc_rightFrom hC.1 a b)) (fun s1 h1 => mm_rightFrom h1 a b)
theorem s_nightsOf (a b : Int) (h : INV s) : STP s (fun s => X11_nightsOf s 0 a b) (fun s => X13_nightsOf s 76 a b) := by
  obtain ⟨W, L, I, tr, fl, fp, tp, hO, ht, hC, hM⟩ := h
  exact step_read hO ht hC hM (q_nightsOf W a b) (rd_ne (fun T => g2_le _ _)) (CR_eq (cc_nightsOf hC.1 a b)) (fun s1 h1 => mm_nightsOf h1 a b)
theorem s_round (a : Int) (h : INV s) : STP s (fun s => X11_round s 0 a) (fun s => X13_round s 76 a) := by
  obtain ⟨W, L, I, tr, fl, fp, tp, hO, ht, hC, hM⟩ := h
  exact step_read hO ht hC hM (q_round W a) (rd_ne (fun T => g2_le _ _)) (CR_eq (cc_round hC.1 a)) (fun s1 h1 => mm_round h1 a)
theorem s_bestNight (h : INV s) : STP s (fun s => X11_bestNight s 0) (fun s => X13_bestNight s 76) := by
  obtain ⟨W, L, I, tr, fl, fp, tp, hO, ht, hC, hM⟩ := h
  exact step_read hO ht hC hM (q_bestNight W) (rd_ne (fun T => g2_le _ _)) (CR_eq (cc_bestNight hC.1)) (fun s1 h1 => mm_bestNight h1)
theorem s_perfect (h : INV s) : STP s (fun s => X11_perfect s 0) (fun s => X13_perfect s 76) := by
  obtain ⟨W, L, I, tr, fl, fp, tp, hO, ht, hC, hM⟩ := h
  exact step_read hO ht hC hM (q_perfect W) (rd_ne (fun T => g2_le _ _)) (CR_eq (cc_perfect hC.1)) (fun s1 h1 => mm_perfect h1)
theorem s_together (a b : Int) (h : INV s) : STP s (fun s => X11_together s 0 a b) (fun s => X13_together s 76 a b) := by
  obtain ⟨W, L, I, tr, fl, fp, tp, hO, ht, hC, hM⟩ := h
  exact step_read hO ht hC hM (q_together W a b) (rd_ne (fun T => g2_le _ _)) (CR_eq (cc_together hC.1 a b)) (fun s1 h1 => mm_together h1 a b)
theorem s_aimFor (a b c : Int) (h : INV s) : STP s (fun s => X11_aimFor s 0 a b c) (fun s => X13_aimFor s 76 a b c) := by
  obtain ⟨W, L, I, tr, fl, fp, tp, hO, ht, hC, hM⟩ := h
  exact step_read hO ht hC hM (q_aimFor W a b c) (rd_ne (fun T => g2_le _ _)) (CR_eq (cc_aimFor hC.1 a b c)) (fun s1 h1 => mm_aimFor h1 a b c)
theorem s_aims (a b c : Int) (h : INV s) : STP s (fun s => X11_aims s 0 a b c) (fun s => X13_aims s 76 a b c) := by
  obtain ⟨W, L, I, tr, fl, fp, tp, hO, ht, hC, hM⟩ := h
  exact step_read hO ht hC hM (q_aims W a b c) (rd_ne (fun T => g2_le _ _)) (CR_eq (cc_aims hC.1 a b c)) (fun s1 h1 => mm_aims h1 a b c)
theorem s_mirrorFor (a b : Int) (h : INV s) : STP s (fun s => X11_mirrorFor s 0 a b) (fun s => X13_mirrorFor s 76 a b) := by
  obtain ⟨W, L, I, tr, fl, fp, tp, hO, ht, hC, hM⟩ := h
  exact step_read hO ht hC hM (q_mirrorFor W a b) (rd_ne (fun T => g2_le _ _)) (CR_eq (cc_mirrorFor hC.1 a b)) (fun s1 h1 => mm_mirrorFor h1 a b)
theorem s_mirrorBest (a : Int) (h : INV s) : STP s (fun s => X11_mirrorBest s 0 a) (fun s => X13_mirrorBest s 76 a) := by
  obtain ⟨W, L, I, tr, fl, fp, tp, hO, ht, hC, hM⟩ := h
  exact step_read hO ht hC hM (q_mirrorBest W a) (rd_ne (fun T => g2_le _ _)) (CR_eq (cc_mirrorBest hC.1 a)) (fun s1 h1 => mm_mirrorBest h1 a)
theorem s_slipFor (a b : Int) (h : INV s) : STP s (fun s => X11_slipFor s 0 a b) (fun s => X13_slipFor s 76 a b) := by
  obtain ⟨W, L, I, tr, fl, fp, tp, hO, ht, hC, hM⟩ := h
  exact step_read hO ht hC hM (q_slipFor W a b) (rd_ne (fun T => g2_le _ _)) (CR_eq (cc_slipFor hC.1 a b)) (fun s1 h1 => mm_slipFor h1 a b)
theorem s_steps (a b : Int) (h : INV s) : STP s (fun s => X11_steps s 0 a b) (fun s => X13_steps s 76 a b) := by
  obtain ⟨W, L, I, tr, fl, fp, tp, hO, ht, hC, hM⟩ := h
  exact step_read hO ht hC hM (q_steps W a b) (rd_ne (fun T => g2_le _ _)) (CR_eq (cc_steps hC.1 a b)) (fun s1 h1 => mm_steps h1 a b)
theorem s_ring (a b : Int) (h : INV s) : STP s (fun s => X11_ring s 0 a b) (fun s => X13_ring s 76 a b) := by
  obtain ⟨W, L, I, tr, fl, fp, tp, hO, ht, hC, hM⟩ := h
  exact step_read hO ht hC hM (q_ring W a b) (rd_ne (fun T => g2_le _ _)) (CR_eq (cc_ring hC.1 a b)) (fun s1 h1 => mm_ring h1 a b)
theorem s_ringAt (a b c : Int) (h : INV s) : STP s (fun s => X11_ringAt s 0 a b c) (fun s => X13_ringAt s 76 a b c) := by
  obtain ⟨W, L, I, tr, fl, fp, tp, hO, ht, hC, hM⟩ := h
  exact step_read hO ht hC hM (q_ringAt W a b c) (by unfold q_ringAt; (repeat' split) <;> simp) (CR_eq (cc_ringAt hC.1 a b c)) (fun s1 h1 => mm_ringAt h1 a b c)
theorem s_chat (a b c d : Int) (h : INV s) : STP s (fun s => X11_chat s 0 a b c d) (fun s => X13_chat s 76 a b c d) := by
  obtain ⟨W, L, I, tr, fl, fp, tp, hO, ht, hC, hM⟩ := h
  exact step_read hO ht hC hM (q_chat W a b c d) (by unfold q_chat; (repeat' split) <;> simp) (CR_eq (cc_chat hC.1 a b c d)) (fun s1 h1 => mm_chat h1 a b c d)
theorem s_rests (a : Int) (h : INV s) : STP s (fun s => X11_rests s 0 a) (fun s => X13_rests s 76 a) := by
  obtain ⟨W, L, I, tr, fl, fp, tp, hO, ht, hC, hM⟩ := h
  exact step_read hO ht hC hM (q_rests W a) (rd_ne (fun T => g2_le _ _)) (CR_eq (cc_rests hC.1 a)) (fun s1 h1 => mm_rests h1 a)
theorem s_rest (a : Int) (h : INV s) : STP s (fun s => X11_rest s 0 a) (fun s => X13_rest s 76 a) := by
  obtain ⟨W, L, I, tr, fl, fp, tp, hO, ht, hC, hM⟩ := h
  exact step_read hO ht hC hM (q_rest W a) (rd_ne (fun T => g2_le _ _)) (CR_eq (cc_rest hC.1 a)) (fun s1 h1 => mm_rest h1 a)
theorem s_odds (a b c : Int) (h : INV s) : STP s (fun s => X11_odds s 0 a b c) (fun s => X13_odds s 76 a b c) := by
  obtain ⟨W, L, I, tr, fl, fp, tp, hO, ht, hC, hM⟩ := h
  exact step_read hO ht hC hM (q_odds W a b c) (rd_ne (fun T => g2_le _ _)) (CR_eq (cc_odds hC.1 a b c)) (fun s1 h1 => mm_odds h1 a b c)
theorem s_mean (a b c : Int) (h : INV s) : STP s (fun s => X11_mean s 0 a b c) (fun s => X13_mean s 76 a b c) := by
  obtain ⟨W, L, I, tr, fl, fp, tp, hO, ht, hC, hM⟩ := h
  exact step_read hO ht hC hM (q_mean W a b c) (rd_ne (fun T => g2_le _ _)) (CR_eq (cc_mean hC.1 a b c)) (fun s1 h1 => mm_mean h1 a b c)
theorem s_likes (a b c : Int) (h : INV s) : STP s (fun s => X11_likes s 0 a b c) (fun s => X13_likes s 76 a b c) := by
  obtain ⟨W, L, I, tr, fl, fp, tp, hO, ht, hC, hM⟩ := h
  exact step_read hO ht hC hM (q_likes W a b c) (rd_ne (fun T => g2_le _ _)) (cc_likes hC.1 a b c) (fun s1 h1 => mm_likes h1 a b c)
theorem s_restless (a : Int) (h : INV s) : STP s (fun s => X11_restless s 0 a) (fun s => X13_restless s 76 a) := by
  obtain ⟨W, L, I, tr, fl, fp, tp, hO, ht, hC, hM⟩ := h
  exact step_read hO ht hC hM (q_restless W a) (rd_ne (fun T => g2_le _ _)) (cc_restless hC.1 a) (fun s1 h1 => mm_restless h1 a)
theorem s_moveFor (a b : Int) (h : INV s) : STP s (fun s => X11_moveFor s 0 a b) (fun s => X13_moveFor s 76 a b) := by
  obtain ⟨W, L, I, tr, fl, fp, tp, hO, ht, hC, hM⟩ := h
  exact step_read hO ht hC hM (q_moveFor W a b) (rd_ne (fun T => g2_le _ _)) (cc_moveFor hC.1 a b) (fun s1 h1 => mm_moveFor h1 a b)
theorem s_most (a b c : Int) (h : INV s) : STP s (fun s => X11_most s 0 a b c) (fun s => X13_most s 76 a b c) := by
  obtain ⟨W, L, I, tr, fl, fp, tp, hO, ht, hC, hM⟩ := h
  exact step_read hO ht hC hM (q_most W a b c) (rd_ne (fun T => g2_le _ _)) (cc_most hC.1 a b c) (fun s1 h1 => mm_most h1 a b c)
theorem s_heardBy (a b c : Int) (h : INV s) : STP s (fun s => X11_heardBy s 0 a b c) (fun s => X13_heardBy s 76 a b c) := by
  obtain ⟨W, L, I, tr, fl, fp, tp, hO, ht, hC, hM⟩ := h
  exact step_read hO ht hC hM (q_heardBy W a b c) (rd_ne (fun T => g2_le _ _)) (cc_heardBy hC.1 a b c) (fun s1 h1 => mm_heardBy h1 a b c)
theorem s_rights (a b : Int) (h : INV s) : STP s (fun s => X11_rights s 0 a b) (fun s => X13_rights s 76 a b) := by
  obtain ⟨W, L, I, tr, fl, fp, tp, hO, ht, hC, hM⟩ := h
  exact step_read hO ht hC hM (q_rights W a b) (rd_ne (fun T => g2_le _ _)) (cc_rights hC.1 a b) (fun s1 h1 => mm_rights h1 a b)
theorem s_fits (h : INV s) : STP s (fun s => X11_fits s 0) (fun s => X13_fits s 76) := by
  obtain ⟨W, L, I, tr, fl, fp, tp, hO, ht, hC, hM⟩ := h
  exact step_read hO ht hC hM (q_fits W) (rd_ne (fun T => g2_le _ _)) (CR_eq (cc_fits hC.1 (fun T N q => (hC.2.2.2.2.2.2 T N q).1))) (fun s1 h1 => mm_fits h1 (fun T N q => (hO.2.2.2 T N q).1))
theorem s_fitAt (a : Int) (h : INV s) : STP s (fun s => X11_fitAt s 0 a) (fun s => X13_fitAt s 76 a) := by
  obtain ⟨W, L, I, tr, fl, fp, tp, hO, ht, hC, hM⟩ := h
  exact step_read hO ht hC hM (q_fitAt W a) (rd_ne (fun T => g2_le _ _)) (CR_eq (cc_fitAt hC.1 (fun T N q => (hC.2.2.2.2.2.2 T N q).1) a)) (fun s1 h1 => mm_fitAt h1 (fun T N q => (hO.2.2.2 T N q).1) a)
theorem s_could (h : INV s) : STP s (fun s => X11_could s 0) (fun s => X13_could s 76) := by
  obtain ⟨W, L, I, tr, fl, fp, tp, hO, ht, hC, hM⟩ := h
  exact step_read hO ht hC hM (q_could W) (rd_ne (fun T => g2_le _ _)) (CR_eq (cc_could hC.1 (fun T N q => (hC.2.2.2.2.2.2 T N q).1))) (fun s1 h1 => mm_could h1 (fun T N q => (hO.2.2.2 T N q).1))
theorem s_surely (h : INV s) : STP s (fun s => X11_surely s 0) (fun s => X13_surely s 76) := by
  obtain ⟨W, L, I, tr, fl, fp, tp, hO, ht, hC, hM⟩ := h
  exact step_read hO ht hC hM (q_surely W) (rd_ne (fun T => g2_le _ _)) (CR_eq (cc_surely hC.1 (fun T N q => (hC.2.2.2.2.2.2 T N q).1))) (fun s1 h1 => mm_surely h1 (fun T N q => (hO.2.2.2 T N q).1))
theorem s_ask (h : INV s) : STP s (fun s => X11_ask s 0) (fun s => X13_ask s 76) := by
  obtain ⟨W, L, I, tr, fl, fp, tp, hO, ht, hC, hM⟩ := h
  exact step_read hO ht hC hM (q_ask W) (rd_ne (fun T => g2_le _ _)) (CR_eq (cc_ask hC.1 (fun T N q => (hC.2.2.2.2.2.2 T N q).1))) (fun s1 h1 => mm_ask h1 (fun T N q => (hO.2.2.2 T N q).1))
theorem s_askLeaves (h : INV s) : STP s (fun s => X11_askLeaves s 0) (fun s => X13_askLeaves s 76) := by
  obtain ⟨W, L, I, tr, fl, fp, tp, hO, ht, hC, hM⟩ := h
  exact step_read hO ht hC hM (q_askLeaves W) (rd_ne (fun T => g2_le _ _)) (CR_eq (cc_askLeaves hC.1 (fun T N q => (hC.2.2.2.2.2.2 T N q).1))) (fun s1 h1 => mm_askLeaves h1 (fun T N q => (hO.2.2.2 T N q).1))
theorem s_judge (h : INV s) : STP s (fun s => X11_judge s 0) (fun s => X13_judge s 76) := by
  obtain ⟨W, L, I, tr, fl, fp, tp, hO, ht, hC, hM⟩ := h
  exact step_read hO ht hC hM (q_judge W) (rd_ne (fun T => g2_le _ _)) (CR_eq (cc_judge hC.1 (fun T N q => (hC.2.2.2.2.2.2 T N q).1))) (fun s1 h1 => mm_judge h1 (fun T N q => (hO.2.2.2 T N q).1))
end STEPS
