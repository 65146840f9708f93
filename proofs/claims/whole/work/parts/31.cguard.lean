/-! the class's guards; a reading call's answer -/
theorem c_night (s : St) (n : Int) : X11_isNoNight s n = some (if 0 ≤ n ∧ n ≤ 99 then 0 else 1, s) := by
  unfold X11_isNoNight X11_isNoNight_b10 X11_isNoNight_b15
  by_cases h : n < 0
  · simp [h, tF, show ¬ 0 ≤ n by omega]
  · by_cases h2 : n ≤ 99
    · simp [h, h2, tF, show 0 ≤ n by omega]
    · simp [h, h2, tF]
theorem c_soot (s : St) (n : Int) : X11_isNoSoot s n = some (if 0 ≤ n ∧ n ≤ 9 then 0 else 1, s) := by
  unfold X11_isNoSoot X11_isNoSoot_b10 X11_isNoSoot_b15
  by_cases h : n < 0
  · simp [h, tF, show ¬ 0 ≤ n by omega]
  · by_cases h2 : n ≤ 9
    · simp [h, h2, tF, show 0 ≤ n by omega]
    · simp [h, h2, tF]
theorem c_seed (s : St) (n : Int) : X11_isNoSeed s n = some (if 0 ≤ n ∧ n ≤ 65536 then 0 else 1, s) := by
  unfold X11_isNoSeed X11_isNoSeed_b11 X11_isNoSeed_b16
  by_cases h : n < 0
  · simp [h, tF, show ¬ 0 ≤ n by omega]
  · by_cases h2 : n ≤ 65536
    · simp [h, h2, tF, show 0 ≤ n by omega]
    · simp [h, h2, tF]
section CGUARD
variable {s : St}
theorem c_dead (hS : Sh s) {c : Nat} (hc : gI s 19 3 = c) (d : Int) : X11_isNoDead s 0 d = some (if 0 ≤ d ∧ d < c then 0 else 1, s) := by
  unfold X11_isNoDead X11_isNoDead_b15 X11_isNoDead_b20
  by_cases h : d < 0
  · simp [h, tF, show ¬ 0 ≤ d by omega]
  · by_cases h2 : d < c
    · simp [h, h2, tF, isK, shF hS, hc, show 0 ≤ d by omega]
    · simp [h, h2, tF, isK, shF hS, hc]
theorem c_pers (hS : Sh s) {c : Nat} (hc : gI s 19 2 = c) (d : Int) : X11_isNoPerson s 0 d = some (if 0 ≤ d ∧ d < c then 0 else 1, s) := by
  unfold X11_isNoPerson X11_isNoPerson_b15 X11_isNoPerson_b20
  by_cases h : d < 0
  · simp [h, tF, show ¬ 0 ≤ d by omega]
  · by_cases h2 : d < c
    · simp [h, h2, tF, isK, shF hS, hc, show 0 ≤ d by omega]
    · simp [h, h2, tF, isK, shF hS, hc]
theorem c_hous (hS : Sh s) {c : Nat} (hc : gI s 19 0 = c) (d : Int) : X11_isNoHouse s 0 d = some (if 0 ≤ d ∧ d < c then 0 else 1, s) := by
  unfold X11_isNoHouse X11_isNoHouse_b15 X11_isNoHouse_b20
  by_cases h : d < 0
  · simp [h, tF, show ¬ 0 ≤ d by omega]
  · by_cases h2 : d < c
    · simp [h, h2, tF, isK, shF hS, hc, show 0 ≤ d by omega]
    · simp [h, h2, tF, isK, shF hS, hc]
theorem c_town (hS : Sh s) {c : Nat} (hc : gI s 19 0 = c) : X11_isNoTown s 0 = some (if c = 0 then 1 else 0, s) := by
  unfold X11_isNoTown X11_isNoTown_b15
  by_cases h : c = 0
  · simp [h, tF, isK, shF hS, hc]
  · simp [h, tF, isK, shF hS, hc]
theorem c_ref (hS : Sh s) (a b : Int) : X11_refused s 0 a b = some (if a = 0 ∧ b = 0 then 0 else 1, pI s 0 2 (if a = 0 then (if b = 0 then 0 else 2) else 1)) := by
  unfold X11_refused X11_refused_b18 X11_refused_b33
  by_cases h : a = 0 <;> by_cases h2 : b = 0 <;> simp [h, h2, tF, isK, shF hS, gI_pI]
end CGUARD
abbrev Wd : Type := Option (Tw × Nw)
def nH (W : Wd) : Nat := match W with | none => 0 | some x => tH x.1
def nP (W : Wd) : Nat := match W with | none => 0 | some x => tP x.1
def nD (W : Wd) : Nat := match W with | none => 0 | some x => tD x.1
/-- the class's world, if there is a town -/
def CW (W : Wd) (s : St) : Prop := Sh s ∧ (gI s 19 0 = nH W ∧ gI s 19 2 = nP W ∧ gI s 19 3 = nD W) ∧ ∀ T N, W = some (T, N) → WC T N s
theorem CW.tr {W : Wd} {s : St} (h : CW W s) (k : Nat) (x : Int) : CW W (pI s 0 k x) := by
  obtain ⟨h1, ⟨h2, h3, h4⟩, h5⟩ := h
  exact ⟨h1, ⟨h2, h3, h4⟩, fun T N e => (h5 T N e).tr k x⟩
/-- trouble and answer of a reading call: which trouble, what else -/
def g2 (c1 c2 : Prop) [Decidable c1] [Decidable c2] : Nat := if c1 then (if c2 then 0 else 2) else 1
def rd (W : Wd) (c : Tw → Nat) (v : Tw → Nw → Int) : Int × Int := match W with
  | none => (1, -1)
  | some x => if c x.1 = 0 then (0, v x.1 x.2) else (((c x.1 : Nat) : Int), -1)
theorem nat_of {d : Int} {c : Nat} (h : 0 ≤ d ∧ d < c) : ∃ k : Nat, d = (k : Int) ∧ k < c := ⟨d.toNat, by omega, by omega⟩
section CCALLS
variable {W : Wd} {s : St}
def q_comesOut (W : Wd) (d n : Int) : Int × Int := rd W (fun T => g2 (0 ≤ d ∧ d < tD T) (0 ≤ n ∧ n ≤ 99)) (fun T N => outT T N d.toNat (aimT T N d.toNat) n)
theorem c_comesOut (h : CW W s) (d n : Int) : X11_comesOut s 0 d n = some ((q_comesOut W d n).2, pI s 0 2 (q_comesOut W d n).1) := by
  obtain ⟨hS, ⟨h0, h2, h3⟩, hW⟩ := h
  have e1 := c_dead hS h3 d
  unfold X11_comesOut
  rcases W with _ | ⟨T, N⟩
  · simp [tF, isK, shF hS, e1, c_night, c_ref hS, q_comesOut, rd, nD, show ¬ (0 ≤ d ∧ d < 0) by omega]
  · have hW1 := (hW T N rfl).tr 2 0
    by_cases hd : 0 ≤ d ∧ d < tD T <;> by_cases hn : 0 ≤ n ∧ n ≤ 99
    · obtain ⟨k, rfl, hk⟩ := nat_of hd
      simp [tF, isK, shF hS, e1, c_night, c_ref hS, q_comesOut, rd, g2, nD, hk, hn, w_land hW1 hk hn]
    all_goals simp [tF, isK, shF hS, e1, c_night, c_ref hS, q_comesOut, rd, g2, nD, hd, hn]
end CCALLS
