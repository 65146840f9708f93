/-! the words of a text: as the class and as the reference reckon them -/
theorem and255 : ∀ v : Nat, v < 128 → and32 (v : Int) 255 = (v : Int) := by decide +kernel
theorem shr_0 : ∀ v : Nat, v < 64 → shr32 (v : Int) 0 = (v : Int) := by decide +kernel
theorem strLen_b : ∀ i : Nat, i < 33 → strLen (1000000 + (i : Int)) < 64 := by decide +kernel
section STRINGS
variable {s : St} {i : Nat}
theorem len_e (hi : i < 33) : J0_length_8abf5 s (1000000 + (i : Int)) = some (strLen (1000000 + (i : Int)), s) := by
  have hx : isStr (1000000 + (i : Int)) := ⟨by omega, by omega⟩
  have hb := strLen_b i hi
  have e : shr32 (strLen (1000000 + (i : Int))) 0 = strLen (1000000 + (i : Int)) := by
    unfold strLen at hb ⊢
    exact shr_0 _ (by omega)
  have e2 : (1000000 + (i : Int) + 1000) - 1000 = 1000000 + (i : Int) := by omega
  have hsv : isSV (1000000 + (i : Int) + 1000) := ⟨by omega, by omega⟩
  unfold J0_length_8abf5 J0_coder_7d493 J0_coder_7d493_b14
  rw [grd_t hx, grd_t hsv, grd_t hx, if_neg (by decide), grd_t hx, grd_t rfl, bnd_some, e2, e]
theorem chr_e {k : Int} (hi : i < 33) (h0 : 0 ≤ k) (h1 : k < strLen (1000000 + (i : Int))) : J0_charAt_5068e s (1000000 + (i : Int)) k = some (strAt (1000000 + (i : Int)) k, s) := by
  have hx : isStr (1000000 + (i : Int)) := ⟨by omega, by omega⟩
  have hsv : isSV (1000000 + (i : Int) + 1000) := ⟨by omega, by omega⟩
  have e2 : (1000000 + (i : Int) + 1000) - 1000 = 1000000 + (i : Int) := by omega
  have hc : 0 ≤ strAt (1000000 + (i : Int)) k ∧ strAt (1000000 + (i : Int)) k < 128 ∧ and32 (strAt (1000000 + (i : Int)) k) 255 = strAt (1000000 + (i : Int)) k := by
    obtain ⟨q, q1, q2, q3, q4⟩ := str_q hx
    unfold strAt
    unfold strLen at h1
    have hk : k.toNat < (strD (1000000 + (i : Int))).length := by omega
    have hm : (strD (1000000 + (i : Int))).getD k.toNat 0 < 128 := by
      rw [List.getD_eq_getElem?_getD, List.getElem?_eq_getElem hk]
      exact q4 _ (by rw [← q2]; exact List.getElem_mem hk)
    exact ⟨by omega, by omega, and255 _ hm⟩
  unfold J0_charAt_5068e J0_isLatin1_aae02 J0_isLatin1_aae02_b18 J1_charAt_3b067 J0_checkIndex_df160 J3_checkIndex_8e157
  rw [grd_t hx, if_neg (by decide), grd_t hx, if_neg (by decide), grd_t (by decide), bnd_some, if_neg (by decide), grd_t hx, grd_t hsv, e2, if_neg (by omega), if_pos h1, bnd_some, bnd_some, grd_t ⟨hsv, h0, h1⟩, hc.2.2, grd_t (by omega), grd_t (by omega), bnd_some, grd_t (by omega)]
end STRINGS
def wdC (s : St) (A : Int) : Rs := grd (isK s 18 15) (if ¬ (gI s 15 0) = (1 : Int) then (X8_isWord_b61 s) else (grd (isK s 18 15) (if ¬ (cmp3 (gI s 15 2) A) = 0 then (X8_isWord_b61 s) else (X8_isWord_b62 s 1))))
def akP (x : Int) : Nat → Int → Int → Option Int
  | 0, _, _ => none
  | n + 1, v, k => if strLen x ≤ k then some v else if k < 0 then none else akP x n (w64 ((w64 ((w64 ((w64 (v * 27)) + strAt x k)) - 97)) + 1)) (w32 (k + 1))
def pkP (x : Int) : Nat → Int → Int → Option Int
  | 0, _, _ => none
  | n + 1, v, k => if strLen x ≤ k then some v else if k < 0 then none else pkP x n (w64 ((w64 (32 * v)) + (w32 ((w32 (strAt x k - 97)) + 1)))) (w32 (k + 1))
theorem ak_e {s : St} {i : Nat} {A : Int} (hi : i < 33) : ∀ (n g : Nat) (v k : Int), akP (1000000 + (i : Int)) n v k = some A → X8_isWord_b5 (n + g) s 15 (1000000 + (i : Int)) v k = wdC s A
  | 0, _, _, _, h => by cases h
  | n + 1, g, v, k, h => by
    have hx : isStr (1000000 + (i : Int)) := ⟨by omega, by omega⟩
    rw [show n + 1 + g = n + g + 1 by omega, X8_isWord_b5_1]
    unfold akP at h
    unfold X8_isWord_b5_body
    rw [grd_t hx, len_e hi, bnd_some]
    by_cases y : strLen (1000000 + (i : Int)) ≤ k
    · rw [if_pos y] at h ⊢
      cases h
      rfl
    · rw [if_neg y] at h ⊢
      by_cases z : k < 0
      · rw [if_pos z] at h; cases h
      · rw [if_neg z] at h
        rw [grd_t hx, chr_e hi (by omega) (by omega), bnd_some, letv_e]
        exact ak_e hi n g _ _ h
theorem pk_e {s : St} {i : Nat} {A : Int} (hi : i < 33) : ∀ (n g : Nat) (v k : Int), pkP (1000000 + (i : Int)) n v k = some A → X13_packed_b4 (n + g) s (1000000 + (i : Int)) v k = some (A, s)
  | 0, _, _, _, h => by cases h
  | n + 1, g, v, k, h => by
    have hx : isStr (1000000 + (i : Int)) := ⟨by omega, by omega⟩
    rw [show n + 1 + g = n + g + 1 by omega, X13_packed_b4_1]
    unfold pkP at h
    unfold X13_packed_b4_body
    rw [grd_t hx, len_e hi, bnd_some]
    by_cases y : strLen (1000000 + (i : Int)) ≤ k
    · rw [if_pos y] at h ⊢
      cases h
      rfl
    · rw [if_neg y] at h ⊢
      by_cases z : k < 0
      · rw [if_pos z] at h; cases h
      · rw [if_neg z] at h
        rw [grd_t hx, chr_e hi (by omega) (by omega), bnd_some, letv_e]
        exact pk_e hi n g _ _ h
def KW : List Nat := [671470, 284871859, 402963, 542723566, 136228, 446253554, 719967813, 8554052, 8902245, 394885, 5294489, 4793556, 20686279, 635184, 6642, 14982420]
def K27 : List Nat := [405230, 123190219, 243208, 232608281, 82408, 191686599, 309156998, 4351162, 4562600, 237470, 2690359, 2486801, 10557034, 382984, 4797, 7622660]
theorem ak_all : ∀ i : Nat, i < 16 → akP (1000000 + (i : Int)) 8 0 0 = some ((K27.getD i 0 : Nat) : Int) := by decide +kernel
theorem pk_all : ∀ i : Nat, i < 16 → pkP (1000000 + ((i + 17 : Nat) : Int)) 8 0 0 = some ((KW.getD i 0 : Nat) : Int) := by decide +kernel
theorem wc_e (s : St) {i : Nat} (hi : i < 16) : X8_isWord s 15 (1000000 + (i : Int)) = wdC s ((K27.getD i 0 : Nat) : Int) := by
  unfold X8_isWord
  rw [show FU = 8 + 5992 from rfl]
  exact ak_e (by omega) 8 5992 0 0 (ak_all i hi)
theorem wm_e (s : St) {i : Nat} (hi : i < 16) : X13_packed s (1000000 + ((i + 17 : Nat) : Int)) = some (((KW.getD i 0 : Nat) : Int), s) := by
  unfold X13_packed
  rw [show FU = 8 + 5992 from rfl]
  exact pk_e (by omega) 8 5992 0 0 (pk_all i hi)
