/-! a whole row written anew -/
def sR (s : St) (a : Int) (f : Nat → Int) : St := (s.1, s.2.1, s.2.2.1, fun b j => if b = a.toNat then f j else s.2.2.2 b j)
theorem kd_sR (s : St) (a : Int) (f : Nat → Int) (b : Int) : kd (sR s a f) b = kd s b := rfl
theorem ln_sR (s : St) (a : Int) (f : Nat → Int) (b : Int) : ln (sR s a f) b = ln s b := rfl
theorem gR_sR (s : St) (a : Int) (f : Nat → Int) (b : Int) (j : Nat) : gR (sR s a f) b j = gR s b j := rfl
theorem Sh_sR (s : St) (a : Int) (f : Nat → Int) : Sh (sR s a f) = Sh s := rfl
theorem gI_sR (s : St) (a : Int) (f : Nat → Int) (b : Int) (j : Nat) : gI (sR s a f) b j = if b.toNat = a.toNat then f j else gI s b j := rfl
theorem sR_pI (s : St) (a : Int) (f : Nat → Int) (k : Nat) (x : Int) : pI (sR s a f) a k x = sR s a (fun j => if j = k then x else f j) := by
  unfold pI sR
  congr 3
  funext b j
  by_cases h : b = a.toNat <;> simp [h]
theorem sR_sR (s : St) (a : Int) (f g : Nat → Int) : sR (sR s a f) a g = sR s a g := by
  unfold sR
  congr 3
  funext b j
  by_cases h : b = a.toNat <;> simp [h]
theorem sR_self (s : St) (a : Int) : sR s a (fun j => gI s a j) = s := by
  obtain ⟨c, sh, r, n⟩ := s
  unfold sR gI
  congr 3
  funext b j
  by_cases h : b = a.toNat <;> simp [h]
theorem sRF : (∀ (s : St) (a : Int) (f : Nat → Int) (b : Int), kd (sR s a f) b = kd s b) ∧ (∀ (s : St) (a : Int) (f : Nat → Int) (b : Int), ln (sR s a f) b = ln s b) ∧ (∀ (s : St) (a : Int) (f : Nat → Int) (b : Int) (j : Nat), gR (sR s a f) b j = gR s b j) ∧ (∀ (s : St) (a : Int) (f : Nat → Int), Sh (sR s a f) = Sh s) :=
  ⟨kd_sR, ln_sR, gR_sR, Sh_sR⟩
theorem whoF_succ {np : Nat} {ho : Nat → Int} {h : Int} (hd : ∀ p, p < np → ho p ≠ ho np) : whoF (np + 1) ho h = if h = ho np then (np : Int) else whoF np ho h := by
  unfold whoF
  by_cases e : h = ho np
  · rw [if_pos e, fnd_is (k := np) (Nat.lt_succ_self np) (by simp [e]) (fun j hj => by simp [e]; exact hd j hj)]
  · rw [if_neg e]
    cases e2 : fnd (fun p => decide (ho p = h)) np with
    | none =>
      rw [fnd_no (fun j hj => by
        by_cases hj2 : j = np
        · rw [hj2]; simp; exact fun q => e q.symm
        · exact fnd_none e2 j (by omega))]
    | some q =>
      obtain ⟨a1, a2, a3⟩ := fnd_some e2
      rw [fnd_is (k := q) (by omega) a2 a3]
theorem whoF_0 (ho : Nat → Int) (h : Int) : whoF 0 ho h = -2 := rfl
/-- the streets of the two voices: object, who lives there, who hears, the row of houses -/
def stOK (x o l r : Int) : Prop := (x = 36 ∧ o = 37 ∧ l = 38 ∧ r = 33) ∨ (x = 44 ∧ o = 45 ∧ l = 46 ∧ r = 41)
theorem lay_1 {s : St} {x o l r : Int} {H np : Nat} (hx : stOK x o l r) (hS : Sh s) (hH : gI s x 2 = H) (hH2 : H ≤ 40) : X7_lay_b13 FU s x r np 0 = X7_lay_b40 FU (sR s o (fun j => if j < H then -2 else gI s o j)) x r np 0 := by
  unfold X7_lay_b13
  have e0 : (s, x, r, (np : Int), (0 : Int)) = (fun k : Nat => (sR s o (fun j => if j < k then -2 else gI s o j), x, r, (np : Int), (k : Int))) 0 := by
    simp [sR_self]
  rw [e0]
  refine iter_run H FU (fun k : Nat => (sR s o (fun j => if j < k then -2 else gI s o j), x, r, (np : Int), (k : Int))) (by unfold FU; omega) (fun k hk rec => ?_) (fun rec => ?_)
  · have hw : w32 ((k : Int) + 1) = (k : Int) + 1 := w32e (by omega)
    have hf : (fun j => if j = k then (-2 : Int) else if j < k then -2 else gI s o j) = fun j => if j < k + 1 then -2 else gI s o j := by
      funext j
      by_cases h1 : j = k
      · simp [h1]
      · by_cases h2 : j < k
        · simp [h1, h2, show j < k + 1 by omega]
        · simp [h1, h2, show ¬ j < k + 1 by omega]
    rcases hx with ⟨rfl, rfl, rfl, rfl⟩ | ⟨rfl, rfl, rfl, rfl⟩ <;>
    simp [X7_lay_b13_body, tF, sRF, isK, shF hS, gI_sR, hH, show ¬ H ≤ k by omega, show (k : Int) < 40 by omega, sR_pI, hw, hf]
  · rcases hx with ⟨rfl, rfl, rfl, rfl⟩ | ⟨rfl, rfl, rfl, rfl⟩ <;>
    simp [X7_lay_b13_body, tF, sRF, isK, shF hS, gI_sR, hH]
theorem isHouse_e {s : St} {x o l r h : Int} {H : Nat} (hx : stOK x o l r) (hS : Sh s) (hH : gI s x 2 = H) : X7_isHouse s x h = some (if 0 ≤ h ∧ h < H then 1 else 0, s) := by
  unfold X7_isHouse X7_isHouse_b16 X7_isHouse_b17
  by_cases h0 : h < 0
  · simp [h0, tF, show ¬ 0 ≤ h by omega]
  · by_cases h1 : h < H
    · rcases hx with ⟨rfl, rfl, rfl, rfl⟩ | ⟨rfl, rfl, rfl, rfl⟩ <;>
      simp [h0, h1, tF, isK, shF hS, hH, show 0 ≤ h by omega, show ¬ (H : Int) ≤ h by omega]
    · rcases hx with ⟨rfl, rfl, rfl, rfl⟩ | ⟨rfl, rfl, rfl, rfl⟩ <;>
      simp [h0, h1, tF, isK, shF hS, hH, show (H : Int) ≤ h by omega]
theorem lay_2 {s : St} {x o l r : Int} {H np : Nat} (hx : stOK x o l r) (hS : Sh s) (hH : gI s x 2 = H) (hH2 : H ≤ 40) (hn : np ≤ 6) (hr : ∀ p, p < np → 0 ≤ gI s r p ∧ gI s r p < H) (hd : ∀ p q, p < np → q < p → gI s r q ≠ gI s r p) :
    X7_lay_b40 FU (sR s o (fun j => if j < H then -2 else gI s o j)) x r np 0 = X7_lay_b81 (sR s o (fun j => if j < H then whoF np (fun p => gI s r p) j else gI s o j)) x := by
  unfold X7_lay_b40
  refine iter_run np FU (fun k : Nat => (sR s o (fun j => if j < H then whoF k (fun p => gI s r p) j else gI s o j), x, r, (np : Int), (k : Int))) (by unfold FU; omega) (fun k hk rec => ?_) (fun rec => ?_)
  · have hw : w32 ((k : Int) + 1) = (k : Int) + 1 := w32e (by omega)
    obtain ⟨r1, r2⟩ := hr k hk
    have hf : (fun j => if j = (gI s r k).toNat then (k : Int) else if j < H then whoF k (fun p => gI s r p) j else gI s o j) = fun j => if j < H then whoF (k + 1) (fun p => gI s r p) j else gI s o j := by
      funext j
      by_cases h2 : j < H
      · rw [if_pos h2, if_pos h2, whoF_succ (fun p hp => hd k p hk hp)]
        by_cases h3 : j = (gI s r k).toNat
        · rw [if_pos h3, if_pos (by omega)]
        · rw [if_neg h3, if_neg (by omega)]
      · rw [if_neg (by omega), if_neg h2, if_neg h2]
    have hi : X7_isHouse (sR s o (fun j => if j < H then whoF k (fun p => gI s r p) j else gI s o j)) x (gI s r k) = some (1, sR s o (fun j => if j < H then whoF k (fun p => gI s r p) j else gI s o j)) := by
      rw [isHouse_e (H := H) hx (by rw [Sh_sR]; exact hS) (by
        rw [gI_sR]
        rcases hx with ⟨rfl, rfl, rfl, rfl⟩ | ⟨rfl, rfl, rfl, rfl⟩ <;> simp [hH]), if_pos ⟨r1, r2⟩]
    rcases hx with ⟨rfl, rfl, rfl, rfl⟩ | ⟨rfl, rfl, rfl, rfl⟩ <;>
    (simp [X7_lay_b40_body, X7_lay_b75, tF, sRF, isK, shF hS, gI_sR, show ¬ np ≤ k by omega, show (k : Int) < 6 by omega, show ¬ (6 : Int) ≤ k by omega, sR_pI, hw, hf, hi, r1, r2]
     exact fun q => absurd q (by omega))
  · rcases hx with ⟨rfl, rfl, rfl, rfl⟩ | ⟨rfl, rfl, rfl, rfl⟩ <;>
    simp [X7_lay_b40_body, tF, sRF, isK, shF hS, gI_sR]
