/-- the nearest one, as the class goes round twice from behind: m houses done of 2 H -/
def nearF (H : Nat) (oc : Nat → Int) : Nat → Int
  | 0 => -2
  | m + 1 => if oc ((2 * H - 1 - m) % H) = -2 then nearF H oc m else oc ((2 * H - 1 - m) % H)
theorem fnd_shift (P : Nat → Bool) (n : Nat) : fnd P (n + 1) = if P 0 = true then some 0 else (fnd (fun k => P (k + 1)) n).map (· + 1) := by
  by_cases h : P 0 = true
  · rw [if_pos h, fnd_is (Nat.succ_pos n) h (fun j hj => by omega)]
  · rw [if_neg h]
    have h' : P 0 = false := by simpa using h
    cases e : fnd (fun k => P (k + 1)) n with
    | none =>
      rw [fnd_no (fun j hj => ?_)]
      · rfl
      · cases j with
        | zero => exact h'
        | succ j => exact fnd_none e j (by omega)
    | some q =>
      obtain ⟨a1, a2, a3⟩ := fnd_some e
      rw [fnd_is (k := q + 1) (by omega) a2 (fun j hj => ?_)]
      · rfl
      · cases j with
        | zero => exact h'
        | succ j => exact a3 j (by omega)
theorem near_fnd (H : Nat) (oc : Nat → Int) : ∀ m, m ≤ 2 * H → nearF H oc m = (match fnd (fun k => decide (oc ((2 * H - m + k) % H) ≠ -2)) m with | some k => oc ((2 * H - m + k) % H) | none => -2)
  | 0, _ => rfl
  | m + 1, hm => by
    have ih := near_fnd H oc m (by omega)
    unfold nearF
    rw [fnd_shift]
    have e : 2 * H - (m + 1) + 0 = 2 * H - 1 - m := by omega
    by_cases h : oc ((2 * H - 1 - m) % H) = -2
    · rw [if_pos h, ih, if_neg (by rw [e]; simp [h])]
      have e2 : (fun k => decide (oc ((2 * H - (m + 1) + (k + 1)) % H) ≠ -2)) = fun k => decide (oc ((2 * H - m + k) % H) ≠ -2) := by
        funext k
        rw [show 2 * H - (m + 1) + (k + 1) = 2 * H - m + k by omega]
      rw [e2]
      cases e3 : fnd (fun k => decide (oc ((2 * H - m + k) % H) ≠ -2)) m with
      | none => rfl
      | some k =>
        show oc ((2 * H - m + k) % H) = oc ((2 * H - (m + 1) + (k + 1)) % H)
        rw [show 2 * H - (m + 1) + (k + 1) = 2 * H - m + k by omega]
    · rw [if_neg h, if_pos (by rw [e]; simp [h])]
      show oc ((2 * H - 1 - m) % H) = oc ((2 * H - (m + 1) + 0) % H)
      rw [e]
theorem near_hf {H np : Nat} {ho : Nat → Int} {h : Nat} (hH : 0 < H) (hh : h < H) (hp : 0 < np) (h0 : 0 ≤ ho 0 ∧ ho 0 < H) : nearF H (fun j => whoF np ho (j : Int)) (2 * H - h) = hfF H np ho h := by
  obtain ⟨k, hk⟩ := hf_ex (H := (H : Int)) (h := (h : Int)) (ho := ho) (by omega) hp h0
  have c : ∀ j : Nat, ((h : Int) + (j : Int)) % (H : Int) = ((h + j) % H : Nat) := fun j => by push_cast; rfl
  unfold hfF
  rw [hk, near_fnd H _ _ (by omega)]
  obtain ⟨a1, a2, a3⟩ := fnd_some hk
  have e : 2 * H - (2 * H - h) = h := by omega
  rw [fnd_is (k := k) (by omega) (by rw [e]; rw [c] at a2; exact a2) (fun j hj => by rw [e]; have := a3 j hj; rw [c] at this; exact this)]
  show whoF np ho (((2 * H - (2 * H - h) + k) % H : Nat) : Int) = whoF np ho (((h : Int) + (k : Int)) % (H : Int))
  rw [e, c]
theorem lay_3 {s : St} {x o l r : Int} {H : Nat} {oc : Nat → Int} (hx : stOK x o l r) (hS : Sh s) (hH : gI s x 2 = H) (hH1 : 1 ≤ H) (hH2 : H ≤ 40) (hoc : ∀ j, j < H → gI s o j = oc j) :
    X7_lay_b81 s x = some (0, sR s l (fun j => if j < H then nearF H oc (2 * H - j) else gI s l j)) := by
  have ew : w32 (w32 (2 * (H : Int)) - 1) = 2 * (H : Int) - 1 := by rw [w32e (x := 2 * (H : Int)) (by omega), w32e (by omega)]
  have hk : isK s 17 x := by rcases hx with ⟨rfl, rfl, rfl, rfl⟩ | ⟨rfl, rfl, rfl, rfl⟩ <;> simp [isK, shF hS]
  unfold X7_lay_b81
  rw [grd_t hk, letv_e, hH, ew]
  unfold X7_lay_b95
  have e0 : (s, x, (-2 : Int), 2 * (H : Int) - 1) = (fun k : Nat => (sR s l (fun j => if j < H ∧ 2 * H - k ≤ j then nearF H oc (2 * H - j) else if j < H ∧ 2 * H - k ≤ H + j then nearF H oc (H - j) else gI s l j), x, nearF H oc k, 2 * (H : Int) - 1 - (k : Int))) 0 := by
    have hf : (fun j => if j < H ∧ 2 * H - 0 ≤ j then nearF H oc (2 * H - j) else if j < H ∧ 2 * H - 0 ≤ H + j then nearF H oc (H - j) else gI s l j) = fun j => gI s l j := by
      funext j
      rw [if_neg (by omega), if_neg (by omega)]
    show _ = (sR s l (fun j => if j < H ∧ 2 * H - 0 ≤ j then nearF H oc (2 * H - j) else if j < H ∧ 2 * H - 0 ≤ H + j then nearF H oc (H - j) else gI s l j), x, nearF H oc 0, 2 * (H : Int) - 1 - 0)
    rw [hf, sR_self]
    simp [nearF]
  rw [e0]
  have efin : (fun j => if j < H then nearF H oc (2 * H - j) else gI s l j) = fun j => if j < H ∧ 2 * H - 2 * H ≤ j then nearF H oc (2 * H - j) else if j < H ∧ 2 * H - 2 * H ≤ H + j then nearF H oc (H - j) else gI s l j := by
    funext j
    by_cases h : j < H
    · rw [if_pos h, if_pos ⟨h, by omega⟩]
    · rw [if_neg h, if_neg (fun q => h q.1), if_neg (fun q => h q.1)]
  rw [efin]
  refine iter_run (2 * H) FU (fun k : Nat => (sR s l (fun j => if j < H ∧ 2 * H - k ≤ j then nearF H oc (2 * H - j) else if j < H ∧ 2 * H - k ≤ H + j then nearF H oc (H - j) else gI s l j), x, nearF H oc k, 2 * (H : Int) - 1 - (k : Int))) (by unfold FU; omega) (fun k hk rec => ?_) (fun rec => ?_)
  · have hi : ∀ i : Nat, i = (2 * H - 1 - k) % H → i < H → (fun j => if j = i then nearF H oc (k + 1) else if j < H ∧ 2 * H - k ≤ j then nearF H oc (2 * H - j) else if j < H ∧ 2 * H - k ≤ H + j then nearF H oc (H - j) else gI s l j) = fun j => if j < H ∧ 2 * H - (k + 1) ≤ j then nearF H oc (2 * H - j) else if j < H ∧ 2 * H - (k + 1) ≤ H + j then nearF H oc (H - j) else gI s l j := by
      intro i e1 e2
      have e3 : i = 2 * H - 1 - k ∨ i + H = 2 * H - 1 - k := by
        by_cases hk2 : 2 * H - 1 - k < H
        · left; rw [e1, Nat.mod_eq_of_lt hk2]
        · right; rw [e1, Nat.mod_eq_sub_mod (by omega), Nat.mod_eq_of_lt (by omega)]; omega
      funext j
      by_cases h1 : j = i
      · rw [if_pos h1]
        rcases e3 with e3 | e3
        · rw [if_pos (by omega), show 2 * H - j = k + 1 by omega]
        · rw [if_neg (by omega), if_pos (by omega), show H - j = k + 1 by omega]
      · rw [if_neg h1]
        by_cases h2 : j < H ∧ 2 * H - k ≤ j
        · rw [if_pos h2, if_pos (by omega)]
        · rw [if_neg h2]
          by_cases h3 : j < H ∧ 2 * H - k ≤ H + j
          · rw [if_pos h3]
            by_cases h4 : j < H ∧ 2 * H - (k + 1) ≤ j
            · exfalso; omega
            · rw [if_neg h4, if_pos (by omega)]
          · rw [if_neg h3]
            by_cases h4 : j < H ∧ 2 * H - (k + 1) ≤ j
            · exfalso; omega
            · rw [if_neg h4, if_neg (by omega)]
    have hlt : (2 * H - 1 - k) % H < H := Nat.mod_lt _ (by omega)
    have hi1 := hi _ rfl hlt
    have hnx : nearF H oc (k + 1) = if oc ((2 * H - 1 - k) % H) = -2 then nearF H oc k else oc ((2 * H - 1 - k) % H) := rfl
    have hoci := hoc _ hlt
    have hidx : (if (H : Int) ≤ 2 * (H : Int) - 1 - (k : Int) then w32 (2 * (H : Int) - 1 - (k : Int) - H) else 2 * (H : Int) - 1 - (k : Int)) = (((2 * H - 1 - k) % H : Nat) : Int) := by
      by_cases hk2 : 2 * H - 1 - k < H
      · rw [if_neg (by omega), Nat.mod_eq_of_lt hk2]; omega
      · rw [if_pos (by omega), w32e (by omega), Nat.mod_eq_sub_mod (by omega), Nat.mod_eq_of_lt (by omega)]; omega
    generalize hI : (2 * H - 1 - k) % H = i at hlt hi1 hnx hoci hidx
    have hwn : w32 (2 * (H : Int) - 1 - (k : Int) + -1) = 2 * (H : Int) - 1 - ((k + 1 : Nat) : Int) := by rw [w32e (by omega)]; omega
    have key : ∀ K0 : Int, K0 = (i : Int) → X7_lay_b121 (fun (s : St) (x0 x4 x5 : Int) => rec (s, x0, x4, x5)) (sR s l (fun j => if j < H ∧ 2 * H - k ≤ j then nearF H oc (2 * H - j) else if j < H ∧ 2 * H - k ≤ H + j then nearF H oc (H - j) else gI s l j)) x (nearF H oc k) (2 * (H : Int) - 1 - (k : Int)) K0 = rec (sR s l (fun j => if j < H ∧ 2 * H - (k + 1) ≤ j then nearF H oc (2 * H - j) else if j < H ∧ 2 * H - (k + 1) ≤ H + j then nearF H oc (H - j) else gI s l j), x, nearF H oc (k + 1), 2 * (H : Int) - 1 - ((k + 1 : Nat) : Int)) := by
      intro K0 hK
      subst hK
      by_cases h2 : oc i = -2
      · rw [h2, if_pos rfl] at hnx
        rw [← hi1, hnx]
        rcases hx with ⟨rfl, rfl, rfl, rfl⟩ | ⟨rfl, rfl, rfl, rfl⟩ <;>
        simp [X7_lay_b121, X7_lay_b147, tF, sRF, isK, shF hS, gI_sR, hoci, h2, sR_pI, hwn, show (i : Int) < 40 by omega]
      · rw [if_neg h2] at hnx
        rw [← hi1, hnx]
        rcases hx with ⟨rfl, rfl, rfl, rfl⟩ | ⟨rfl, rfl, rfl, rfl⟩ <;>
        simp [X7_lay_b121, X7_lay_b147, tF, sRF, isK, shF hS, gI_sR, hoci, h2, sR_pI, hwn, show (i : Int) < 40 by omega]
    have hx2 : gI (sR s l (fun j => if j < H ∧ 2 * H - k ≤ j then nearF H oc (2 * H - j) else if j < H ∧ 2 * H - k ≤ H + j then nearF H oc (H - j) else gI s l j)) x 2 = H := by
      rw [gI_sR]
      rcases hx with ⟨rfl, rfl, rfl, rfl⟩ | ⟨rfl, rfl, rfl, rfl⟩ <;> simp [hH]
    have hk9 : isK (sR s l (fun j => if j < H ∧ 2 * H - k ≤ j then nearF H oc (2 * H - j) else if j < H ∧ 2 * H - k ≤ H + j then nearF H oc (H - j) else gI s l j)) 17 x := by
      rcases hx with ⟨rfl, rfl, rfl, rfl⟩ | ⟨rfl, rfl, rfl, rfl⟩ <;> simp [isK, sRF, shF hS]
    show X7_lay_b95_body (fun (s : St) (x0 x4 x5 : Int) => rec (s, x0, x4, x5)) (sR s l (fun j => if j < H ∧ 2 * H - k ≤ j then nearF H oc (2 * H - j) else if j < H ∧ 2 * H - k ≤ H + j then nearF H oc (H - j) else gI s l j)) x (nearF H oc k) (2 * (H : Int) - 1 - (k : Int)) = _
    unfold X7_lay_b95_body
    rw [if_neg (by omega), grd_t hk9, hx2, grd_t hk9]
    by_cases h5 : (H : Int) ≤ 2 * (H : Int) - 1 - (k : Int)
    · rw [if_pos h5] at hidx ⊢
      exact key _ hidx
    · rw [if_neg h5] at hidx ⊢
      exact key _ hidx
  · rcases hx with ⟨rfl, rfl, rfl, rfl⟩ | ⟨rfl, rfl, rfl, rfl⟩ <;>
    simp [X7_lay_b95_body, tF, sRF, isK, shF hS, gI_sR, show 2 * (H : Int) - 1 - 2 * (H : Int) < 0 by omega]
