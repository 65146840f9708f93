/-! numbers -/
def w32 (x : Int) : Int := Int.bmod x 4294967296
def w64 (x : Int) : Int := Int.bmod x 18446744073709551616
def and32 (x y : Int) : Int := (Int32.ofInt x &&& Int32.ofInt y).toInt
def or32 (x y : Int) : Int := (Int32.ofInt x ||| Int32.ofInt y).toInt
def xor32 (x y : Int) : Int := (Int32.ofInt x ^^^ Int32.ofInt y).toInt
def shl32 (x y : Int) : Int := (Int32.ofInt x <<< (Int32.ofInt y &&& 31)).toInt
def shr32 (x y : Int) : Int := (Int32.ofInt x >>> (Int32.ofInt y &&& 31)).toInt
def ushr32 (x y : Int) : Int := ((Int32.ofInt x).toUInt32 >>> ((Int32.ofInt y).toUInt32 &&& Int32.toUInt32 31)).toInt32.toInt
def cmp3 (x y : Int) : Int := if x > y then 1 else if x = y then 0 else -1
theorem ok_w32 (x : Int) : ok32 (w32 x) := by
  unfold ok32 w32
  have h1 := Int.le_bmod (x := x) (m := 4294967296) (by decide)
  have h2 := Int.bmod_lt (x := x) (m := 4294967296) (by decide)
  omega
theorem ok_w64 (x : Int) : ok64 (w64 x) := by
  unfold ok64 w64
  have h1 := Int.le_bmod (x := x) (m := 18446744073709551616) (by decide)
  have h2 := Int.bmod_lt (x := x) (m := 18446744073709551616) (by decide)
  omega
theorem of_w32 (x : Int) : Int32.ofInt (w32 x) = Int32.ofInt x := by
  rw [← Int32.toInt_inj, i32 (ok_w32 x), Int32.toInt_ofInt]; rfl
theorem of_w64 (x : Int) : Int64.ofInt (w64 x) = Int64.ofInt x := by
  rw [← Int64.toInt_inj, i64 (ok_w64 x), Int64.toInt_ofInt]; rfl
theorem of_toInt (x : Int32) : Int32.ofInt x.toInt = x := Int32.ofInt_toInt x
theorem of_toInt64 (x : Int64) : Int64.ofInt x.toInt = x := Int64.ofInt_toInt x
theorem w32_id {x : Int} (h : ok32 x) : w32 x = x := by
  rw [← i32 (ok_w32 x), of_w32, i32 h]
theorem w64_id {x : Int} (h : ok64 x) : w64 x = x := by
  rw [← i64 (ok_w64 x), of_w64, i64 h]
theorem w32_in {x : Int} (h1 : -2147483648 ≤ x) (h2 : x ≤ 2147483647) : w32 x = x := w32_id ⟨h1, h2⟩
theorem w64_in {x : Int} (h1 : -9223372036854775808 ≤ x) (h2 : x ≤ 9223372036854775807) : w64 x = x := w64_id ⟨h1, h2⟩
theorem lt32 {x y : Int} (hx : ok32 x) (hy : ok32 y) : Int32.ofInt x < Int32.ofInt y ↔ x < y := by rw [Int32.lt_iff_toInt_lt, i32 hx, i32 hy]
theorem le32 {x y : Int} (hx : ok32 x) (hy : ok32 y) : Int32.ofInt x ≤ Int32.ofInt y ↔ x ≤ y := by rw [Int32.le_iff_toInt_le, i32 hx, i32 hy]
theorem eq32 {x y : Int} (hx : ok32 x) (hy : ok32 y) : Int32.ofInt x = Int32.ofInt y ↔ x = y := by rw [← Int32.toInt_inj, i32 hx, i32 hy]
theorem ok0 : ok32 0 := by unfold ok32; omega
theorem eq0 {x : Int} (hx : ok32 x) : Int32.ofInt x = 0 ↔ x = 0 := eq32 hx ok0
theorem lt64 {x y : Int} (hx : ok64 x) (hy : ok64 y) : Int64.ofInt x < Int64.ofInt y ↔ x < y := by rw [Int64.lt_iff_toInt_lt, i64 hx, i64 hy]
theorem eq64 {x y : Int} (hx : ok64 x) (hy : ok64 y) : Int64.ofInt x = Int64.ofInt y ↔ x = y := by rw [← Int64.toInt_inj, i64 hx, i64 hy]
theorem ok64_0 : ok64 0 := by unfold ok64; omega
theorem eq0L {x : Int} (hx : ok64 x) : Int64.ofInt x = 0 ↔ x = 0 := eq64 hx ok64_0
theorem div32 {x y : Int} (hx : ok32 x) (hy : ok32 y) : Int32.ofInt x / Int32.ofInt y = Int32.ofInt (Int.tdiv x y) := by
  rw [← Int32.toInt_inj, Int32.toInt_div, i32 hx, i32 hy, Int32.toInt_ofInt]
theorem div64 {x y : Int} (hx : ok64 x) (hy : ok64 y) : Int64.ofInt x / Int64.ofInt y = Int64.ofInt (Int.tdiv x y) := by
  rw [← Int64.toInt_inj, Int64.toInt_div, i64 hx, i64 hy, Int64.toInt_ofInt]
theorem rem32 {x y : Int} (hx : ok32 x) (hy : ok32 y) : Int32.ofInt x - Int32.ofInt x / Int32.ofInt y * Int32.ofInt y = Int32.ofInt (Int.tmod x y) := by
  rw [div32 hx hy, ← Int32.ofInt_mul, ← Int32.ofInt_sub, Int.tmod_def, Int.mul_comm y]
theorem rem64 {x y : Int} (hx : ok64 x) (hy : ok64 y) : Int64.ofInt x - Int64.ofInt x / Int64.ofInt y * Int64.ofInt y = Int64.ofInt (Int.tmod x y) := by
  rw [div64 hx hy, ← Int64.ofInt_mul, ← Int64.ofInt_sub, Int.tmod_def, Int.mul_comm y]
theorem ok_tmod {x y : Int} (hx : ok32 x) : ok32 (Int.tmod x y) := by
  have h := Int.natAbs_tmod x y
  have h2 : (Int.tmod x y).natAbs ≤ x.natAbs := by rw [h]; exact Nat.mod_le _ _
  have h3 : 0 ≤ x → 0 ≤ Int.tmod x y := fun h => Int.tmod_nonneg _ h
  have h4 : x ≤ 0 → Int.tmod x y ≤ 0 := fun h => by
    have h5 := Int.tmod_nonneg (a := -x) y (by omega)
    rw [Int.neg_tmod] at h5
    omega
  unfold ok32 at *
  omega
theorem ok_tmod64 {x y : Int} (hx : ok64 x) : ok64 (Int.tmod x y) := by
  have h := Int.natAbs_tmod x y
  have h2 : (Int.tmod x y).natAbs ≤ x.natAbs := by rw [h]; exact Nat.mod_le _ _
  have h3 : 0 ≤ x → 0 ≤ Int.tmod x y := fun h => Int.tmod_nonneg _ h
  have h4 : x ≤ 0 → Int.tmod x y ≤ 0 := fun h => by
    have h5 := Int.tmod_nonneg (a := -x) y (by omega)
    rw [Int.neg_tmod] at h5
    omega
  unfold ok64 at *
  omega
theorem i2l32 {x : Int} (hx : ok32 x) : (Int32.ofInt x).toInt64 = Int64.ofInt x := by
  rw [← Int64.toInt_inj, Int32.toInt_toInt64, i32 hx, i64]
  unfold ok32 at hx; unfold ok64; omega
theorem l2i32 {x : Int} (hx : ok64 x) : (Int64.ofInt x).toInt32 = Int32.ofInt (w32 x) := by
  rw [of_w32, ← Int32.toInt_inj, Int64.toInt_toInt32, i64 hx, Int32.toInt_ofInt]
def w8 (x : Int) : Int := Int.bmod x 256
theorem ok_w8 (x : Int) : ok8 (w8 x) := by
  unfold ok8 w8
  have h1 := Int.le_bmod (x := x) (m := 256) (by decide)
  have h2 := Int.bmod_lt (x := x) (m := 256) (by decide)
  omega
theorem ok8_32 {x : Int} (h : ok8 x) : ok32 x := by unfold ok8 at h; unfold ok32; omega
theorem i2b32 {x : Int} (hx : ok32 x) : (Int32.ofInt x).toInt8.toInt32 = Int32.ofInt (w8 x) := by
  rw [← Int32.toInt_inj, Int8.toInt_toInt32, Int32.toInt_toInt8, i32 hx, i32 (ok8_32 (ok_w8 x))]; rfl
theorem bip8 {n : Int} (h : ok8 n) : (Int8.ofInt n).toInt32 = Int32.ofInt n := by
  rw [← Int32.toInt_inj, Int8.toInt_toInt32, i32 (ok8_32 h)]
  unfold ok8 at h
  exact Int8.toInt_ofInt_of_le (by omega) (by omega)
theorem sip16 {n : Int} (h : -32768 ≤ n ∧ n ≤ 32767) : (Int16.ofInt n).toInt32 = Int32.ofInt n := by
  rw [← Int32.toInt_inj, Int16.toInt_toInt32, i32 (by unfold ok32; omega)]
  exact Int16.toInt_ofInt_of_le (by omega) (by omega)
theorem clamp32 {x : Int} (hx : ok32 x) : (Int32.ofInt x).toNatClampNeg = x.toNat := by
  show (Int32.ofInt x).toInt.toNat = x.toNat
  rw [i32 hx]
/-! guards, calls, loops in the functions -/
def grd (c : Prop) [Decidable c] (X : Rs) : Rs := if c then X else none
def bnd (F : Rs) (k : Int → St → Rs) : Rs := match F with
  | none => none
  | some q => k q.1 q.2
theorem grd_t {c : Prop} [Decidable c] {X : Rs} (h : c) : grd c X = X := if_pos h
theorem bnd_s {r : Int} {s : St} {k : Int → St → Rs} : bnd (some (r, s)) k = k r s := rfl
def iter {α : Type} (body : (α → Rs) → α → Rs) : Nat → α → Rs
  | 0 => fun _ => none
  | n + 1 => fun a => body (iter body n) a
def FU : Nat := 6000
/-- readings of a state -/
def kd (s : St) (a : Int) : Nat := (s.2.1 a.toNat).1
def ln (s : St) (a : Int) : Int := (s.2.1 a.toNat).2
def gR (s : St) (a : Int) (k : Nat) : Int := s.2.2.1 a.toNat k
def gI (s : St) (a : Int) (k : Nat) : Int := s.2.2.2 a.toNat k
abbrev isK (s : St) (k : Nat) (a : Int) : Prop := (0 ≤ a ∧ a < 1000000) ∧ kd s a = k
theorem isK_dec (s : St) (k : Nat) (a : Int) : isK s k a ↔ ((0 ≤ a ∧ a < 1000000) ∧ kd s a = k) := Iff.rfl
/-- writings -/
def pR (s : St) (a : Int) (k : Nat) (x : Int) : St := (s.1, s.2.1, fun b j => if b = a.toNat ∧ j = k then x else s.2.2.1 b j, s.2.2.2)
def pI (s : St) (a : Int) (k : Nat) (x : Int) : St := (s.1, s.2.1, s.2.2.1, fun b j => if b = a.toNat ∧ j = k then x else s.2.2.2 b j)
/-- a new cell -/
def nw (s : St) (k n : Nat) : St := ((s.1.1 + 1, s.1.2 + n), fun b => if b = s.1.1 then (k, n) else s.2.1 b, fun b j => if b = s.1.1 then -1 else s.2.2.1 b j, fun b j => if b = s.1.1 then 0 else s.2.2.2 b j)
