/-! tools for the pure functions -/
/-- a loop by its states -/
theorem iter_run {α : Type} {body : (α → Rs) → α → Rs} {R : Rs} : ∀ (n fuel : Nat) (S : Nat → α), n < fuel → (∀ k, k < n → ∀ rec, body rec (S k) = rec (S (k + 1))) → (∀ rec, body rec (S n) = R) → iter body fuel (S 0) = R
  | 0, 0, _, h, _, _ => absurd h (Nat.lt_irrefl 0)
  | 0, _ + 1, _, _, _, he => he _
  | n + 1, 0, _, h, _, _ => absurd h (Nat.not_lt_zero _)
  | n + 1, f + 1, S, h, hs, he => by
    show body (iter body f) (S 0) = R
    rw [hs 0 (Nat.succ_pos n) (iter body f)]
    exact iter_run n f (fun k => S (k + 1)) (Nat.lt_of_succ_lt_succ h) (fun k hk rec => hs (k + 1) (Nat.succ_lt_succ hk) rec) he
theorem grd_if (c : Prop) [Decidable c] (X : Rs) : grd c X = if c then X else none := rfl
theorem bnd_none (k : Int → St → Rs) : bnd none k = none := rfl
theorem bnd_some (r : Int) (s : St) (k : Int → St → Rs) : bnd (some (r, s)) k = k r s := rfl
theorem lets_e (s : St) (k : St → Rs) : lets s k = k s := rfl
theorem letv_e (x : Int) (k : Int → Rs) : letv x k = k x := rfl
theorem kd_pI (s : St) (a : Int) (k : Nat) (x b : Int) : kd (pI s a k x) b = kd s b := rfl
theorem ln_pI (s : St) (a : Int) (k : Nat) (x b : Int) : ln (pI s a k x) b = ln s b := rfl
theorem gR_pI (s : St) (a : Int) (k : Nat) (x b : Int) (j : Nat) : gR (pI s a k x) b j = gR s b j := rfl
theorem Sh_pI (s : St) (a : Int) (k : Nat) (x : Int) : Sh (pI s a k x) = Sh s := rfl
theorem gI_pI (s : St) (a : Int) (k : Nat) (x b : Int) (j : Nat) : gI (pI s a k x) b j = if b.toNat = a.toNat ∧ j = k then x else gI s b j := rfl
/-- the plain rules as one -/
theorem tF : (∀ (c : Prop) [Decidable c] (X : Rs), grd c X = if c then X else none) ∧ (∀ (k : Int → St → Rs), bnd none k = none) ∧ (∀ (r : Int) (s : St) (k : Int → St → Rs), bnd (some (r, s)) k = k r s) ∧ (∀ (s : St) (k : St → Rs), lets s k = k s) ∧ (∀ (x : Int) (k : Int → Rs), letv x k = k x) ∧
    (∀ (s : St) (a : Int) (k : Nat) (x b : Int), kd (pI s a k x) b = kd s b) ∧ (∀ (s : St) (a : Int) (k : Nat) (x b : Int), ln (pI s a k x) b = ln s b) ∧ (∀ (s : St) (a : Int) (k : Nat) (x b : Int) (j : Nat), gR (pI s a k x) b j = gR s b j) ∧ (∀ (s : St) (a : Int) (k : Nat) (x : Int), Sh (pI s a k x) = Sh s) :=
  ⟨grd_if, bnd_none, bnd_some, lets_e, letv_e, kd_pI, ln_pI, gR_pI, Sh_pI⟩
/-- numbers that stay in their range -/
theorem w32e {x : Int} (h : -2147483648 ≤ x ∧ x ≤ 2147483647) : w32 x = x := w32_id h
theorem w64e {x : Int} (h : -9223372036854775808 ≤ x ∧ x ≤ 9223372036854775807) : w64 x = x := w64_id h
/-- where a saying comes out: houses, law, slip, mirror, aim, night -/
def shiftF (law slip night : Int) : Int := if law = 0 then slip else if law = 1 then -slip else if law = 2 then slip * night else if night % 2 = 0 then slip else -slip
def outF (H law slip mir aim night : Int) : Int := if mir < 0 then (aim + shiftF law slip night) % H else (2 * mir - (aim + shiftF law slip night)) % H
theorem fmod_eq {x H : Int} (hH : 0 < H) (hx : ok32 x) (hH2 : H ≤ 2147483647) : (if ((if Int.tmod x H < 0 then 1 else 0 : Int)) = 1 then Int.tmod x H + H else Int.tmod x H) = x % H := by
  rw [Int.emod_eq_tmod]
  by_cases h : Int.tmod x H < 0
  · rw [if_pos h, if_pos rfl]
    have h0 : ¬ 0 ≤ x := fun h0 => by have := Int.tmod_nonneg H h0; omega
    rw [if_neg (by
      rintro (h1 | h1)
      · exact h0 h1
      · have := Int.tmod_eq_zero_of_dvd h1; omega)]
    omega
  · rw [if_neg h, if_neg (by decide)]
    rw [if_pos (by
      by_cases h0 : 0 ≤ x
      · exact Or.inl h0
      · right
        have h1 : Int.tmod x H ≤ 0 := by
          have h5 := Int.tmod_nonneg (a := -x) H (by omega)
          rw [Int.neg_tmod] at h5
          omega
        exact Int.dvd_of_tmod_eq_zero (by omega))]
    omega
