/-! what is to be brought, counted in threes -/
def vl (f : Nat → Nat) : Nat → Nat
  | 0 => 0
  | n + 1 => vl f n + f n * 3 ^ n
def dg (c d : Nat) : Nat := c / 3 ^ d % 3
theorem dg_le (c d : Nat) : dg c d ≤ 2 := by
  have := Nat.mod_lt (c / 3 ^ d) (show 0 < 3 by decide)
  unfold dg
  omega
theorem vl_cg {f g : Nat → Nat} : ∀ n, (∀ d, d < n → f d = g d) → vl f n = vl g n
  | 0, _ => rfl
  | n + 1, h => by
    unfold vl
    rw [vl_cg n (fun d hd => h d (by omega)), h n (by omega)]
theorem vl_lt {f : Nat → Nat} (hf : ∀ d, f d ≤ 2) : ∀ n, vl f n < 3 ^ n
  | 0 => by show 0 < 1; decide
  | n + 1 => by
    have ih := vl_lt hf n
    have h2 := Nat.mul_le_mul_right (3 ^ n) (hf n)
    show vl f n + f n * 3 ^ n < 3 ^ (n + 1)
    rw [Nat.pow_succ]
    omega
theorem vl_dg {f : Nat → Nat} (hf : ∀ d, f d ≤ 2) : ∀ n d, d < n → dg (vl f n) d = f d
  | 0, _, h => by omega
  | n + 1, d, h => by
    unfold dg
    show (vl f n + f n * 3 ^ n) / 3 ^ d % 3 = f d
    by_cases e : d = n
    · subst e
      rw [Nat.add_mul_div_right _ _ (Nat.pow_pos (by decide)), Nat.div_eq_of_lt (vl_lt hf d), Nat.zero_add]
      have := hf d
      exact Nat.mod_eq_of_lt (by omega)
    · have ih := vl_dg hf n d (by omega)
      unfold dg at ih
      obtain ⟨k, hk⟩ : ∃ k, n = d + 1 + k := ⟨n - (d + 1), by omega⟩
      have e3 : f n * 3 ^ n = (f n * 3 ^ k * 3) * 3 ^ d := by
        rw [hk, Nat.pow_add, Nat.pow_add, Nat.pow_one]
        simp only [Nat.mul_assoc, Nat.mul_comm, Nat.mul_left_comm]
      rw [e3, Nat.add_mul_div_right _ _ (Nat.pow_pos (by decide)), Nat.add_mul_mod_self_right]
      exact ih
theorem dg_mod {n d : Nat} (c : Nat) (h : d < n) : dg (c % 3 ^ n) d = dg c d := by
  unfold dg
  obtain ⟨k, hk⟩ : ∃ k, n = d + (k + 1) := ⟨n - (d + 1), by omega⟩
  rw [hk, Nat.pow_add, Nat.mod_mul_right_div_self, Nat.mod_mod_of_dvd _ ⟨3 ^ k, by rw [Nat.pow_succ, Nat.mul_comm]⟩]
theorem vl_of : ∀ n c, c < 3 ^ n → vl (dg c) n = c
  | 0, c, h => by
    have : c = 0 := by simp at h; exact h
    subst this; rfl
  | n + 1, c, h => by
    have hp : 0 < 3 ^ n := Nat.pow_pos (by decide)
    have h3 : c / 3 ^ n < 3 := Nat.div_lt_of_lt_mul (by rw [Nat.pow_succ] at h; omega)
    have ih := vl_of n (c % 3 ^ n) (Nat.mod_lt _ hp)
    have e : vl (dg (c % 3 ^ n)) n = vl (dg c) n := vl_cg n (fun d hd => dg_mod c hd)
    show vl (dg c) n + dg c n * 3 ^ n = c
    have ed : dg c n = c / 3 ^ n := Nat.mod_eq_of_lt h3
    rw [← e, ih, ed, Nat.mul_comm]
    exact Nat.mod_add_div c (3 ^ n)
theorem vl_add (f g : Nat → Nat) : ∀ n, vl (fun d => f d + g d) n = vl f n + vl g n
  | 0 => rfl
  | n + 1 => by
    show vl (fun d => f d + g d) n + (f n + g n) * 3 ^ n = vl f n + f n * 3 ^ n + (vl g n + g n * 3 ^ n)
    rw [vl_add f g n, Nat.add_mul]
    omega
theorem vl_full : ∀ n, vl (fun _ => 2) n + 1 = 3 ^ n
  | 0 => rfl
  | n + 1 => by
    have ih := vl_full n
    show vl (fun _ => 2) n + 2 * 3 ^ n + 1 = 3 ^ (n + 1)
    rw [Nat.pow_succ]
    omega
section THREES
variable (he of : Nat → Nat)
def adB (c p d : Nat) : Bool := decide ((dg c d = 0 ∧ he d = p) ∨ (dg c d = 1 ∧ of d = p))
def ad1 (c p d : Nat) : Nat := if adB he of c p d = true then 1 else 0
def beN (c p n : Nat) : Nat := fo (fun d a => a + (if adB he of c p d = true then 3 ^ d else 0)) c n
def dsm (c D : Nat) : Nat := fo (fun d a => a + dg c d) 0 D
theorem beN_sum (c p : Nat) : ∀ n, beN he of c p n = c + vl (ad1 he of c p) n
  | 0 => rfl
  | n + 1 => by
    have ih := beN_sum c p n
    show beN he of c p n + (if adB he of c p n = true then 3 ^ n else 0) = c + (vl (ad1 he of c p) n + ad1 he of c p n * 3 ^ n)
    unfold ad1 at *
    rw [ih]
    split <;> omega
theorem ad1_le (c p d : Nat) : dg c d + ad1 he of c p d ≤ 2 := by
  have := dg_le c d
  unfold ad1 adB
  by_cases h : (dg c d = 0 ∧ he d = p) ∨ (dg c d = 1 ∧ of d = p)
  · rw [if_pos (by simp [h])]
    rcases h with h | h <;> omega
  · rw [if_neg (by simp only [decide_eq_true_eq]; exact h)]
    omega
theorem beN_vl {c D : Nat} (p : Nat) (hc : c < 3 ^ D) : beN he of c p D = vl (fun d => dg c d + ad1 he of c p d) D := by
  rw [beN_sum, vl_add, vl_of D c hc]
theorem beN_lt {c D : Nat} (p : Nat) (hc : c < 3 ^ D) : beN he of c p D < 3 ^ D := by
  rw [beN_vl he of p hc]
  exact vl_lt (ad1_le he of c p) D
theorem beN_dg {c D d : Nat} (p : Nat) (hc : c < 3 ^ D) (hd : d < D) : dg (beN he of c p D) d = dg c d + ad1 he of c p d := by
  rw [beN_vl he of p hc]
  exact vl_dg (ad1_le he of c p) D d hd
theorem beN_ge (c p n : Nat) : c ≤ beN he of c p n := by
  rw [beN_sum]
  omega
theorem vl_zero {f : Nat → Nat} : ∀ n, vl f n = 0 → ∀ d, d < n → f d = 0
  | 0, _, d, h => by omega
  | n + 1, hz, d, h => by
    have hz' : vl f n + f n * 3 ^ n = 0 := hz
    have hp : 0 < 3 ^ n := Nat.pow_pos (by decide)
    by_cases e : d = n
    · subst e
      rcases Nat.eq_zero_or_pos (f d) with q | q
      · exact q
      · have := Nat.mul_pos q hp
        omega
    · exact vl_zero n (by omega) d (by omega)
theorem vl_pos {f : Nat → Nat} : ∀ n d, d < n → 0 < f d → 0 < vl f n := fun n d hd hp => by
  rcases Nat.eq_zero_or_pos (vl f n) with q | q
  · have := vl_zero n q d hd
    omega
  · exact q
/-- from every code but the last somebody can be visited to some use -/
theorem beN_ex {c D P : Nat} (hc : c + 1 < 3 ^ D) (h1 : ∀ d, d < D → he d < P ∧ of d < P) : ∃ p, p < P ∧ beN he of c p D ≠ c := by
  have ex : ∃ d, d < D ∧ dg c d ≠ 2 := by
    refine Classical.byContradiction fun z => ?_
    have a : ∀ d, d < D → dg c d = 2 := fun d hd => Classical.byContradiction fun w => z ⟨d, hd, w⟩
    have := vl_cg (g := fun _ => 2) D a
    rw [vl_of D c (by omega)] at this
    have h2 := vl_full D
    omega
  obtain ⟨d, hd, hne⟩ := ex
  have hle := dg_le c d
  have key : ∀ p, ad1 he of c p d = 1 → beN he of c p D ≠ c := fun p hp z => by
    rw [beN_sum] at z
    have := vl_zero (f := ad1 he of c p) D (by omega) d hd
    omega
  by_cases q : dg c d = 0
  · refine ⟨he d, (h1 d hd).1, key _ ?_⟩
    unfold ad1 adB
    rw [if_pos (by simp [q])]
  · refine ⟨of d, (h1 d hd).2, key _ ?_⟩
    have q1 : dg c d = 1 := by omega
    unfold ad1 adB
    rw [if_pos (by simp [q1])]
theorem dsm_le (c : Nat) : ∀ D, dsm c D ≤ 2 * D
  | 0 => Nat.le_refl _
  | D + 1 => by
    have ih := dsm_le c D
    have := dg_le c D
    show dsm c D + dg c D ≤ _
    omega
theorem dsm_cg {c c2 : Nat} {g : Nat → Nat} : ∀ D, (∀ d, d < D → dg c2 d = dg c d + g d) → dsm c2 D = dsm c D + fo (fun d a => a + g d) 0 D
  | 0, _ => rfl
  | D + 1, h => by
    have ih := dsm_cg (c := c) (c2 := c2) (g := g) D (fun d hd => h d (by omega))
    show dsm c2 D + dg c2 D = dsm c D + dg c D + (fo (fun d a => a + g d) 0 D + g D)
    rw [ih, h D (by omega)]
    omega
theorem dsm_be {c D : Nat} (p : Nat) (hc : c < 3 ^ D) (hne : beN he of c p D ≠ c) : dsm c D + 1 ≤ dsm (beN he of c p D) D := by
  rw [dsm_cg (c := c) (g := ad1 he of c p) D (fun d hd => beN_dg he of p hc hd)]
  have : 0 < fo (fun d a => a + ad1 he of c p d) 0 D := by
    rcases Nat.eq_zero_or_pos (fo (fun d a => a + ad1 he of c p d) 0 D) with q | q
    · exfalso
      apply hne
      have z : ∀ n, fo (fun d a => a + ad1 he of c p d) 0 n = 0 → vl (ad1 he of c p) n = 0 := by
        intro n
        induction n with
        | zero => intro _; rfl
        | succ n ih =>
          intro hz
          have hz' : fo (fun d a => a + ad1 he of c p d) 0 n + ad1 he of c p n = 0 := hz
          show vl (ad1 he of c p) n + ad1 he of c p n * 3 ^ n = 0
          rw [ih (by omega), show ad1 he of c p n = 0 by omega]
          simp
      rw [beN_sum, z D q]
      rfl
    · exact q
  omega
/-- the fewest steps still to go -/
def vF (ho : Nat → Int) (H : Int) (P D : Nat) : Nat → Nat → Int → Int
  | 0, _, _ => 0
  | n + 1, c, h => if c + 1 = 3 ^ D then 0 else fo (fun p m => if beN he of c p D = c then m else if dstF H h (ho p) + vF ho H P D n (beN he of c p D) (ho p) < m then dstF H h (ho p) + vF ho H P D n (beN he of c p D) (ho p) else m) 1000000 P
theorem vF_st (ho : Nat → Int) (H : Int) (P D : Nat) : ∀ n m c h, c < 3 ^ D → 3 ^ D ≤ c + n → 3 ^ D ≤ c + m → vF he of ho H P D n c h = vF he of ho H P D m c h
  | 0, m, c, h, h1, h2, h3 => by omega
  | n + 1, 0, c, h, h1, h2, h3 => by omega
  | n + 1, m + 1, c, h, h1, h2, h3 => by
    unfold vF
    by_cases e : c + 1 = 3 ^ D
    · rw [if_pos e, if_pos e]
    · rw [if_neg e, if_neg e]
      refine fo_cg _ fun p hp b => ?_
      by_cases q : beN he of c p D = c
      · rw [if_pos q, if_pos q]
      · have g := beN_ge he of c p D
        rw [if_neg q, if_neg q, vF_st ho H P D n m (beN he of c p D) (ho p) (beN_lt he of p h1) (by omega) (by omega)]
def vV (ho : Nat → Int) (H : Int) (P D : Nat) (c : Nat) (h : Int) : Int := vF he of ho H P D (3 ^ D) c h
theorem vV_e (ho : Nat → Int) (H : Int) (P D : Nat) {c : Nat} (h : Int) (hc : c < 3 ^ D) : vV he of ho H P D c h = if c + 1 = 3 ^ D then 0 else fo (fun p m => if beN he of c p D = c then m else if dstF H h (ho p) + vV he of ho H P D (beN he of c p D) (ho p) < m then dstF H h (ho p) + vV he of ho H P D (beN he of c p D) (ho p) else m) 1000000 P := by
  have e : vV he of ho H P D c h = vF he of ho H P D (3 ^ D + 1) c h := vF_st he of ho H P D _ _ c h hc (by omega) (by omega)
  rw [e]
  rfl
end THREES
