/-! the law's answer on every script -/
theorem law_is : LawPure := law_pure (fun _ a h ht => s_town a h ht) (fun _ a h => s_seat a h) (fun _ a b h => s_seatAt a b h) (fun _ a b h => s_bring a b h) (fun _ a h => s_bringFrom a h)
theorem i_vc : Claimed_1_1 ∧ Claimed_1_2 := i_vc_of law_is
