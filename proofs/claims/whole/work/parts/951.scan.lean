/-! tokens of a text, without the heap -/
def isLB (x : Int) : Bool := decide (97 ≤ x ∧ x ≤ 122)
def isDB (x : Int) : Bool := decide (48 ≤ x ∧ x ≤ 57)
def adF (P : Nat → Bool) : Nat → Nat → Nat
  | 0, i => i
  | f + 1, i => if P i = true then adF P f (i + 1) else i
def adv (P : Nat → Bool) (n i : Nat) : Nat := adF P (n - i) i
theorem adF_ok (P : Nat → Bool) : ∀ f i, (∀ j, i ≤ j → j < adF P f i → P j = true) ∧ i ≤ adF P f i ∧ adF P f i ≤ i + f ∧ (adF P f i < i + f → P (adF P f i) = false)
  | 0, i => ⟨fun j h1 h2 => absurd (Nat.lt_of_le_of_lt h1 h2) (Nat.lt_irrefl _), Nat.le_refl _, Nat.le_refl _, fun h => absurd h (Nat.lt_irrefl _)⟩
  | f + 1, i => by
    obtain ⟨h1, h2, h3, h4⟩ := adF_ok P f (i + 1)
    unfold adF
    by_cases y : P i = true
    · rw [if_pos y]
      refine ⟨fun j a1 a2 => ?_, by omega, by omega, fun h => h4 (by omega)⟩
      by_cases z : j = i
      · rw [z]; exact y
      · exact h1 j (by omega) a2
    · rw [if_neg y]
      exact ⟨fun j a1 a2 => by omega, Nat.le_refl _, by omega, fun _ => by simpa using y⟩
theorem adv_ok (P : Nat → Bool) {n i : Nat} (hi : i ≤ n) : (∀ j, i ≤ j → j < adv P n i → P j = true) ∧ i ≤ adv P n i ∧ adv P n i ≤ n ∧ (adv P n i < n → P (adv P n i) = false) := by
  obtain ⟨h1, h2, h3, h4⟩ := adF_ok P (n - i) i
  unfold adv
  exact ⟨h1, h2, by omega, fun h => h4 (by omega)⟩
/-- names in the class's base, out of names in the reference's -/
def cv : Nat → Nat → Nat
  | 0, _ => 0
  | f + 1, K => cv f (K / 32) * 27 + K % 32
def vdK : Nat → Nat → Prop
  | 0, K => K = 0
  | f + 1, K => K % 32 < 27 ∧ vdK f (K / 32)
theorem cv_inj : ∀ f K L, vdK f K → vdK f L → cv f K = cv f L → K = L
  | 0, K, L, h1, h2, _ => h1.trans h2.symm
  | f + 1, K, L, ⟨a1, a2⟩, ⟨b1, b2⟩, h => by
    have h' : cv f (K / 32) * 27 + K % 32 = cv f (L / 32) * 27 + L % 32 := h
    have e : cv f (K / 32) = cv f (L / 32) := by omega
    have := cv_inj f _ _ a2 b2 e
    omega
theorem vdK_up : ∀ f K, vdK f K → vdK (f + 1) K ∧ cv (f + 1) K = cv f K
  | 0, K, h => by
    have h0 : K = 0 := h
    subst h0
    exact ⟨⟨by decide, rfl⟩, rfl⟩
  | f + 1, K, ⟨a1, a2⟩ => by
    obtain ⟨i1, i2⟩ := vdK_up f (K / 32) a2
    refine ⟨⟨a1, i1⟩, ?_⟩
    show cv (f + 1) (K / 32) * 27 + K % 32 = cv f (K / 32) * 27 + K % 32
    rw [i2]
theorem vdK_app {f K d : Nat} (hd : d < 27) (h : vdK f K) : vdK (f + 1) (32 * K + d) ∧ cv (f + 1) (32 * K + d) = cv f K * 27 + d := by
  have e1 : (32 * K + d) / 32 = K := by omega
  have e2 : (32 * K + d) % 32 = d := by omega
  refine ⟨⟨by omega, by rw [e1]; exact h⟩, ?_⟩
  show cv f ((32 * K + d) / 32) * 27 + (32 * K + d) % 32 = _
  rw [e1, e2]
theorem vdK_le : ∀ f g K, f ≤ g → vdK f K → vdK g K ∧ cv g K = cv f K := by
  intro f g
  induction g with
  | zero => intro K h hv; have : f = 0 := by omega
            subst this; exact ⟨hv, rfl⟩
  | succ g ih =>
    intro K h hv
    by_cases z : f = g + 1
    · subst z; exact ⟨hv, rfl⟩
    · obtain ⟨a, b⟩ := ih K (by omega) hv
      obtain ⟨c, d⟩ := vdK_up g K a
      exact ⟨c, d.trans b⟩
theorem cv_b : ∀ f K, vdK f K → cv f K < 27 ^ f
  | 0, K, _ => by show 0 < 1; decide
  | f + 1, K, ⟨a1, a2⟩ => by
    have ih := cv_b f _ a2
    show cv f (K / 32) * 27 + K % 32 < 27 ^ (f + 1)
    rw [Nat.pow_succ]
    omega
theorem KW_ok : ∀ i : Nat, i < 16 → cv 8 (KW.getD i 0) = K27.getD i 0 := by decide +kernel
section SCAN
variable (n : Nat) (b : Nat → Int)
def tkP (i : Nat) : Nat := adv (fun k => decide (b k = 32)) n i
def tkW (p : Nat) : Nat := adv (fun k => isLB (b k)) n p
def tkN (p : Nat) : Nat := adv (fun k => isDB (b k)) n p
def tkK (i : Nat) : Nat := if n ≤ tkP n b i then 0 else if isLB (b (tkP n b i)) = true then (if tkW n b (tkP n b i) - tkP n b i ≤ 8 then 1 else 4) else if isDB (b (tkP n b i)) = true then (if tkN n b (tkP n b i) - tkP n b i ≤ 3 then 2 else 4) else if b (tkP n b i) = 59 then 3 else 4
def tkX (i : Nat) : Nat := if n ≤ tkP n b i then tkP n b i else if isLB (b (tkP n b i)) = true then tkW n b (tkP n b i) else if isDB (b (tkP n b i)) = true then tkN n b (tkP n b i) else tkP n b i + 1
def wky (p m : Nat) : Nat := fo (fun k a => 32 * a + (b (p + k) - 96).toNat) 0 m
def wno (p m : Nat) : Nat := fo (fun k a => 10 * a + (b (p + k) - 48).toNat) 0 m
def tkY (i : Nat) : Nat := wky b (tkP n b i) (tkW n b (tkP n b i) - tkP n b i)
def tkH (i : Nat) : Nat := wno b (tkP n b i) (tkN n b (tkP n b i) - tkP n b i)
variable {n} {b}
theorem tkP_ok {i : Nat} (hi : i ≤ n) : i ≤ tkP n b i ∧ tkP n b i ≤ n := by
  have := adv_ok (fun k => decide (b k = 32)) hi
  exact ⟨this.2.1, this.2.2.1⟩
theorem tkX_ok {i : Nat} (hi : i ≤ n) : tkP n b i ≤ tkX n b i ∧ tkX n b i ≤ n ∧ (tkK n b i ≠ 0 → i < tkX n b i) := by
  obtain ⟨h1, h2⟩ := tkP_ok (b := b) hi
  have hw := adv_ok (fun k => isLB (b k)) h2
  have hd := adv_ok (fun k => isDB (b k)) h2
  have ew : ∀ P : Nat → Bool, tkP n b i < n → P (tkP n b i) = true → tkP n b i < adv P n (tkP n b i) := fun P hlt hp => by
    have := adv_ok P h2
    rcases Nat.lt_or_ge (tkP n b i) (adv P n (tkP n b i)) with z | z
    · exact z
    · have e : adv P n (tkP n b i) = tkP n b i := by omega
      have := this.2.2.2 (by omega)
      rw [e, hp] at this
      cases this
  unfold tkX tkK tkW tkN
  by_cases y : n ≤ tkP n b i
  · rw [if_pos y, if_pos y]; exact ⟨Nat.le_refl _, h2, fun h => absurd rfl h⟩
  · rw [if_neg y, if_neg y]
    by_cases y2 : isLB (b (tkP n b i)) = true
    · rw [if_pos y2]
      have := ew (fun k => isLB (b k)) (by omega) y2
      exact ⟨hw.2.1, hw.2.2.1, fun _ => by omega⟩
    · rw [if_neg y2]
      by_cases y3 : isDB (b (tkP n b i)) = true
      · rw [if_pos y3]
        have := ew (fun k => isDB (b k)) (by omega) y3
        exact ⟨hd.2.1, hd.2.2.1, fun _ => by omega⟩
      · rw [if_neg y3]
        exact ⟨by omega, by omega, fun _ => by omega⟩
theorem wky_s (p m : Nat) : wky b p (m + 1) = 32 * wky b p m + (b (p + m) - 96).toNat := rfl
theorem wno_s (p m : Nat) : wno b p (m + 1) = 10 * wno b p m + (b (p + m) - 48).toNat := rfl
theorem wky_vd {p : Nat} : ∀ m, (∀ k, k < m → isLB (b (p + k)) = true) → vdK m (wky b p m)
  | 0, _ => rfl
  | m + 1, h => by
    have ih := wky_vd m (fun k hk => h k (by omega))
    have hl := h m (by omega)
    unfold isLB at hl
    simp at hl
    rw [wky_s]
    exact (vdK_app (by omega) ih).1
theorem wky_cv {p : Nat} {m : Nat} (h : ∀ k, k < m + 1 → isLB (b (p + k)) = true) (hm : m < 8) : cv 8 (wky b p (m + 1)) = cv 8 (wky b p m) * 27 + (b (p + m) - 96).toNat := by
  have v1 := wky_vd (b := b) m (fun k hk => h k (by omega))
  have v2 := wky_vd (b := b) (m + 1) h
  have hl := h m (by omega)
  unfold isLB at hl
  simp at hl
  rw [(vdK_le (m + 1) 8 _ (by omega) v2).2, (vdK_le m 8 _ (by omega) v1).2, wky_s]
  exact (vdK_app (by omega) v1).2
theorem tkY_vd {i : Nat} (hi : i ≤ n) (hk : tkK n b i = 1) : vdK 8 (tkY n b i) := by
  obtain ⟨h1, h2⟩ := tkP_ok (b := b) hi
  have hw := adv_ok (fun k => isLB (b k)) h2
  have m8 : tkW n b (tkP n b i) - tkP n b i ≤ 8 := by
    unfold tkK at hk
    by_cases y : n ≤ tkP n b i
    · rw [if_pos y] at hk; cases hk
    · rw [if_neg y] at hk
      by_cases y2 : isLB (b (tkP n b i)) = true
      · rw [if_pos y2] at hk
        by_cases y3 : tkW n b (tkP n b i) - tkP n b i ≤ 8
        · exact y3
        · rw [if_neg y3] at hk; cases hk
      · rw [if_neg y2] at hk
        repeat' split at hk
        all_goals cases hk
  refine (vdK_le _ 8 _ m8 (wky_vd (b := b) _ (fun k hk2 => ?_))).1
  unfold tkW at hk2 m8
  exact hw.1 _ (by omega) (by omega)
theorem wno_b {p : Nat} : ∀ m, (∀ k, k < m → isDB (b (p + k)) = true) → wno b p m < 10 ^ m
  | 0, _ => by show 0 < 1; decide
  | m + 1, h => by
    have ih := wno_b m (fun k hk => h k (by omega))
    have hl := h m (by omega)
    unfold isDB at hl
    simp at hl
    rw [wno_s, Nat.pow_succ]
    omega
end SCAN
