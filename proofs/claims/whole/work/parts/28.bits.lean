/-! folds, counting, sets as numbers -/
def fo {β : Type} (f : Nat → β → β) (a : β) : Nat → β
  | 0 => a
  | n + 1 => f n (fo f a n)
def cnt (P : Nat → Bool) : Nat → Nat
  | 0 => 0
  | n + 1 => cnt P n + (if P n = true then 1 else 0)
def bst (P : Nat → Bool) : Nat → Nat
  | 0 => 0
  | n + 1 => bst P n + (if P n = true then 2 ^ n else 0)
theorem bst_lt (P : Nat → Bool) : ∀ n, bst P n < 2 ^ n
  | 0 => Nat.zero_lt_one
  | n + 1 => by
    have h := bst_lt P n
    unfold bst
    rw [Nat.pow_succ]
    split <;> omega
theorem cnt_le (P : Nat → Bool) : ∀ n, cnt P n ≤ n
  | 0 => Nat.le_refl 0
  | n + 1 => by
    have h := cnt_le P n
    unfold cnt
    split <;> omega
theorem cnt_cg {P Q : Nat → Bool} : ∀ n, (∀ j, j < n → P j = Q j) → cnt P n = cnt Q n
  | 0, _ => rfl
  | n + 1, h => by
    unfold cnt
    rw [cnt_cg n (fun j hj => h j (by omega)), h n (by omega)]
theorem bst_cg {P Q : Nat → Bool} : ∀ n, (∀ j, j < n → P j = Q j) → bst P n = bst Q n
  | 0, _ => rfl
  | n + 1, h => by
    unfold bst
    rw [bst_cg n (fun j hj => h j (by omega)), h n (by omega)]
theorem fo_cg {β : Type} {f g : Nat → β → β} {a : β} : ∀ n, (∀ j, j < n → ∀ b, f j b = g j b) → fo f a n = fo g a n
  | 0, _ => rfl
  | n + 1, h => by
    unfold fo
    rw [fo_cg n (fun j hj => h j (by omega)), h n (by omega)]
theorem pow6 {n : Nat} (h : n ≤ 6) : 2 ^ n ≤ 64 := Nat.pow_le_pow_right (by decide : 0 < 2) h
theorem bst_64 {P : Nat → Bool} {n : Nat} (h : n ≤ 6) : bst P n < 64 := Nat.lt_of_lt_of_le (bst_lt P n) (pow6 h)
theorem or_bit : ∀ d : Nat, d < 6 → ∀ a : Nat, a < 2 ^ d → or32 (a : Int) (shl32 1 (d : Int)) = ((a + 2 ^ d : Nat) : Int) := by decide +kernel
theorem or_zero : ∀ a : Nat, a < 64 → or32 (a : Int) 0 = (a : Int) := by decide +kernel
theorem or_bst {P : Nat → Bool} {d : Nat} (hd : d < 6) : or32 ((bst P d : Nat) : Int) (shl32 1 (d : Int)) = ((bst P d + 2 ^ d : Nat) : Int) := or_bit d hd _ (bst_lt P d)
theorem bst_s1 {P : Nat → Bool} {d : Nat} (h : P d = true) : bst P (d + 1) = bst P d + 2 ^ d := by
  show bst P d + _ = _
  rw [if_pos h]
theorem bst_s0 {P : Nat → Bool} {d : Nat} (h : ¬ P d = true) : bst P (d + 1) = bst P d := by
  show bst P d + _ = _
  rw [if_neg h]; rfl
theorem cnt_s1 {P : Nat → Bool} {d : Nat} (h : P d = true) : cnt P (d + 1) = cnt P d + 1 := by
  show cnt P d + _ = _
  rw [if_pos h]
theorem cnt_s0 {P : Nat → Bool} {d : Nat} (h : ¬ P d = true) : cnt P (d + 1) = cnt P d := by
  show cnt P d + _ = _
  rw [if_neg h]; rfl
/-- how many are in a set of six -/
def pcn (x : Nat) : Nat := x % 2 + x / 2 % 2 + x / 4 % 2 + x / 8 % 2 + x / 16 % 2 + x / 32 % 2
theorem pcn_bit : ∀ d : Nat, d < 6 → ∀ a : Nat, a < 2 ^ d → pcn (a + 2 ^ d) = pcn a + 1 := by decide +kernel
theorem pcn_bst (P : Nat → Bool) : ∀ n, n ≤ 6 → pcn (bst P n) = cnt P n
  | 0, _ => by show pcn 0 = 0; decide
  | n + 1, h => by
    have ih := pcn_bst P n (by omega)
    by_cases hp : P n = true
    · rw [bst_s1 hp, cnt_s1 hp, pcn_bit n (by omega) _ (bst_lt P n), ih]
    · rw [bst_s0 hp, cnt_s0 hp, ih]
def bcv (a : Int) : Int :=
  let y1 := w32 (a - (and32 (ushr32 a 1) 1431655765))
  let y2 := w32 ((and32 y1 858993459) + (and32 (ushr32 y1 2) 858993459))
  let y3 := and32 (w32 (y2 + (ushr32 y2 4))) 252645135
  let y4 := w32 (y3 + (ushr32 y3 8))
  let y5 := w32 (y4 + (ushr32 y4 16))
  and32 y5 63
theorem bcv_e : ∀ x : Nat, x < 64 → bcv (x : Int) = (pcn x : Int) := by decide +kernel
theorem bitCount_e {s : St} {x : Nat} (h : x < 64) : J6_bitCount_0f7a4 s (x : Int) = some ((pcn x : Int), s) := by
  rw [← bcv_e x h]
  rfl
def bitsP : Nat → Int → Int → Option Int
  | 0, _, _ => none
  | n + 1, c, x => if x = 0 then some c else bitsP n (w32 (c + 1)) (and32 x (w32 (x - 1)))
theorem bits_P {s : St} : ∀ (n : Nat) (c x : Int), X13_bits_b4 n s c x = (bitsP n c x).map (fun r => (r, s))
  | 0, _, _ => rfl
  | n + 1, c, x => by
    have ih := bits_P (s := s) n (w32 (c + 1)) (and32 x (w32 (x - 1)))
    show X13_bits_b4_body (fun s x1 x2 => X13_bits_b4 n s x1 x2) s c x = _
    unfold X13_bits_b4_body bitsP
    by_cases h : x = 0
    · rw [if_pos h, if_pos h]; rfl
    · rw [if_neg h, if_neg h, letv_e]; exact ih
theorem bitsP_mono {v : Int} : ∀ (n k : Nat) (c x : Int), bitsP n c x = some v → bitsP (n + k) c x = some v
  | 0, _, _, _, h => by cases h
  | n + 1, k, c, x, h => by
    rw [show n + 1 + k = (n + k) + 1 by omega]
    unfold bitsP at h ⊢
    by_cases h0 : x = 0
    · rw [if_pos h0] at h ⊢; exact h
    · rw [if_neg h0] at h ⊢; exact bitsP_mono n k _ _ h
theorem bitsP_8 : ∀ x : Nat, x < 64 → bitsP 8 0 (x : Int) = some (pcn x : Int) := by decide +kernel
theorem m_bits {s : St} {x : Nat} (h : x < 64) : X13_bits s (x : Int) = some ((pcn x : Int), s) := by
  unfold X13_bits
  rw [bits_P, show FU = 8 + 5992 from rfl, bitsP_mono 8 5992 0 x (bitsP_8 x h)]
  rfl
theorem m_bit_k : ∀ x : Nat, x < 64 → ∀ k : Nat, k < 6 → and32 (shr32 (x : Int) (k : Int)) 1 = ((x / 2 ^ k % 2 : Nat) : Int) := by decide +kernel
theorem m_bit {s : St} {x k : Nat} (h : x < 64) (hk : k < 6) : X13_bit s (x : Int) (k : Int) = some (if x / 2 ^ k % 2 = 1 then 1 else 0, s) := by
  unfold X13_bit
  rw [m_bit_k x h k hk]
  by_cases e : x / 2 ^ k % 2 = 1
  · rw [e]; simp [X13_bit_b14, tF]
  · have : x / 2 ^ k % 2 = 0 := by omega
    rw [this]; simp [X13_bit_b14, tF]
/-- a loop that adds up -/
theorem iter_fo {α β : Type} {body : (α → Rs) → α → Rs} {R : Rs} (f : Nat → β → β) (b0 : β) (mk : Nat → β → α) (n fuel : Nat) (hn : n < fuel)
    (hs : ∀ k, k < n → ∀ b rec, b = fo f b0 k → body rec (mk k b) = rec (mk (k + 1) (f k b))) (he : ∀ rec, body rec (mk n (fo f b0 n)) = R) : iter body fuel (mk 0 b0) = R :=
  iter_run n fuel (fun k => mk k (fo f b0 k)) hn (fun k hk rec => hs k hk _ rec rfl) he
