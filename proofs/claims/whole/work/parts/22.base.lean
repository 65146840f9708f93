theorem xor_sign {a b : Int} (ha : ok32 a) (hb : ok32 b) (h0 : 0 ≤ b) : 0 ≤ xor32 a b ↔ 0 ≤ a := by
  have key : ∀ x : Int32, 0 ≤ x.toInt ↔ x.toBitVec.msb = false := fun x => by
    show 0 ≤ x.toBitVec.toInt ↔ _
    rw [BitVec.msb_eq_toInt]
    simp
  unfold xor32
  rw [key, Int32.toBitVec_xor, BitVec.msb_xor]
  have h1 := key (Int32.ofInt a)
  have h2 := key (Int32.ofInt b)
  rw [i32 ha] at h1
  rw [i32 hb] at h2
  rw [h2.mp h0, h1]
  simp
theorem floorMod_e {s : St} {x H : Int} (hx : ok32 x) (hH : ok32 H) (h0 : 0 < H) : J9_floorMod_7cf53 s x H = some (x % H, s) := by
  unfold J9_floorMod_7cf53 J9_floorMod_7cf53_b18
  have hs := xor_sign hx hH (Int.le_of_lt h0)
  rw [grd_t (by omega)]
  have e : x % H = Int.tmod x H + ((if 0 ≤ x ∨ H ∣ x then 0 else H.natAbs : Nat) : Int) := Int.emod_eq_tmod
  by_cases h : 0 ≤ x
  · rw [if_pos (hs.mpr h), e, if_pos (Or.inl h)]
    simp
  · rw [if_neg (fun q => h (hs.mp q))]
    by_cases hz : Int.tmod x H = 0
    · rw [if_pos hz, e, if_pos (Or.inr (Int.dvd_of_tmod_eq_zero hz))]
      simp
    · rw [if_neg hz, e, if_neg (fun q => q.elim h (fun d => hz (Int.tmod_eq_zero_of_dvd d)))]
      have h1 : Int.tmod x H ≤ 0 := by
        have h5 := Int.tmod_nonneg (a := -x) H (by omega)
        rw [Int.neg_tmod] at h5
        omega
      have h2 := ok_tmod (y := H) hx
      unfold ok32 at *
      rw [w32e (by omega), Int.natAbs_of_nonneg (by omega)]
theorem around_e {s : St} {x : Int} (h : Sh s) (hx : ok32 x) (h1 : 1 ≤ gI s 19 0) (h2 : gI s 19 0 ≤ 40) : X9_around s 19 x = some (x % gI s 19 0, s) := by
  unfold X9_around X9_around_b20
  simp [tF, isK, shF h, h1]
  rw [floorMod_e hx ⟨by omega, by omega⟩ (by omega)]
  simp [tF]
theorem m_around {s : St} {t x : Int} (h : Sh s) (ht : gR s 76 3 = t) (ht2 : isK s 22 t) (hx : ok32 x) (h1 : 1 ≤ gI s t 0) (h2 : gI s t 0 ≤ 40) : X13_around s 76 x = some (x % gI s t 0, s) := by
  unfold X13_around
  have hb : -40 < Int.tmod x (gI s t 0) ∧ Int.tmod x (gI s t 0) < 40 := by
    have h5 := Int.natAbs_tmod x (gI s t 0)
    have h6 := Nat.mod_lt x.natAbs (y := (gI s t 0).natAbs) (by omega)
    omega
  simp [tF, isK, shF h, ht, ht2.1, ht2.2, show gI s t 0 ≠ 0 by omega]
  rw [w64e (by omega)]
  have e2 : (x + gI s t 0) % gI s t 0 = x % gI s t 0 := by simp
  have e3 : Int.tmod (Int.tmod x (gI s t 0) + gI s t 0) (gI s t 0) = x % gI s t 0 := by
    rw [Int.tmod_eq_emod_of_nonneg (by
      have h5 := Int.natAbs_tmod x (gI s t 0)
      have h6 := Nat.mod_lt x.natAbs (y := (gI s t 0).natAbs) (by omega)
      omega)]
    rw [Int.add_emod_right, Int.tmod_def]
    rw [Int.sub_emod, Int.mul_emod_right]
    simp
  rw [e3]
  have h7 := Int.emod_nonneg x (b := gI s t 0) (by omega)
  have h8 := Int.emod_lt_of_pos x (b := gI s t 0) (by omega)
  rw [w32e (by omega)]
theorem shift_e {s : St} {law slip night : Int} (h1 : 0 ≤ law ∧ law ≤ 3) (h2 : 0 ≤ slip ∧ slip ≤ 39) (h3 : 0 ≤ night ∧ night ≤ 99) : X10_shift s law slip night = some (shiftF law slip night, s) := by
  have hm : 0 ≤ slip * night ∧ slip * night ≤ 3861 := by
    constructor
    · exact Int.mul_nonneg h2.1 h3.1
    · have := Int.mul_le_mul h2.2 h3.2 h3.1 (by omega); omega
  have ha : and32 night 1 = night % 2 := by
    have key : ∀ n : Nat, n < 100 → and32 (n : Int) 1 = (n : Int) % 2 := by decide +kernel
    have := key night.toNat (by omega)
    rw [Int.toNat_of_nonneg h3.1] at this
    exact this
  unfold X10_shift X10_shift_b49 shiftF swt
  rw [ha]
  have hl : law = 0 ∨ law = 1 ∨ law = 2 ∨ law = 3 := by omega
  rcases hl with rfl | rfl | rfl | rfl <;> simp [w32e (x := -slip) (by omega), w32e (x := slip * night) (by omega)]
  by_cases h : night % 2 = 0 <;> simp [h]
theorem shiftF_b {law slip night : Int} (h1 : 0 ≤ law ∧ law ≤ 3) (h2 : 0 ≤ slip ∧ slip ≤ 39) (h3 : 0 ≤ night ∧ night ≤ 99) : -3861 ≤ shiftF law slip night ∧ shiftF law slip night ≤ 3861 := by
  have hm : 0 ≤ slip * night ∧ slip * night ≤ 3861 := by
    constructor
    · exact Int.mul_nonneg h2.1 h3.1
    · have := Int.mul_le_mul h2.2 h3.2 h3.1 (by omega); omega
  unfold shiftF
  repeat' split
  all_goals omega
/-- the town's numbers and rows as both sides hold them: what a saying needs -/
theorem landingWith_e {s : St} {v d aim slip mir night : Int} (h : Sh s) (hv : v = 31 ∨ v = 39) (hH : 2 ≤ gI s 19 0 ∧ gI s 19 0 ≤ 40) (hd : 0 ≤ d ∧ d < 6) (hl : 0 ≤ gI s 24 d.toNat ∧ gI s 24 d.toNat ≤ 3) (ha : 0 ≤ aim ∧ aim ≤ 100) (hs : 0 ≤ slip ∧ slip ≤ 39) (hm : -2 ≤ mir ∧ mir ≤ 100) (hn : 0 ≤ night ∧ night ≤ 99) :
    X10_landingWith s v d aim slip mir night = some (outF (gI s 19 0) (gI s 24 d.toNat) slip mir aim night, s) := by
  have hb := shiftF_b hl hs hn
  have e := shift_e (s := s) hl hs hn
  have ar : ∀ x : Int, ok32 x → X9_around s 19 x = some (x % gI s 19 0, s) := fun x hx => around_e h hx (by omega) (by omega)
  unfold X10_landingWith X10_landingWith_b40 outF
  rcases hv with rfl | rfl
  all_goals
    simp [tF, isK, shF h, hd.1, hd.2, e]
    rw [w32e (x := 2 * mir) (by omega), w32e (x := aim + _) (by omega), w32e (x := 2 * mir - _) (by omega), ar _ ⟨by omega, by omega⟩, ar _ ⟨by omega, by omega⟩]
    by_cases h0 : 0 ≤ mir
    · rw [if_pos h0, if_neg (by omega)]; simp [tF]
    · rw [if_neg h0, if_pos (by omega)]; simp [tF]
