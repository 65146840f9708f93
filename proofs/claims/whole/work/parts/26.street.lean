theorem gI_ne {s : St} {a b x : Int} {k j : Nat} (h : b.toNat ≠ a.toNat) : gI (pI s a k x) b j = gI s b j := by
  rw [gI_pI, if_neg (fun q => h q.1)]
theorem gI_eq {s : St} {a x : Int} {k : Nat} : gI (pI s a k x) a k = x := by rw [gI_pI, if_pos ⟨rfl, rfl⟩]
/-- the state behind 'lay' -/
def layS (s : St) (x o l r : Int) (H np : Nat) : St := sR (sR (pI s x 2 H) o (fun j => if j < H then whoF np (fun p => gI s r p) j else gI s o j)) l (fun j => if j < H then hfF H np (fun p => gI s r p) j else gI s l j)
theorem lay_e {s : St} {x o l r : Int} {H np : Nat} (hx : stOK x o l r) (hS : Sh s) (hH1 : 1 ≤ H) (hH2 : H ≤ 40) (hn1 : 1 ≤ np) (hn : np ≤ 6) (hr : ∀ p, p < np → 0 ≤ gI s r p ∧ gI s r p < H) (hd : ∀ p q, p < np → q < p → gI s r q ≠ gI s r p) :
    X7_lay s x H r np = some (0, layS s x o l r H np) := by
  have hS3 : Sh (pI s x 2 H) := hS
  have er : ∀ p, gI (pI s x 2 H) r p = gI s r p := fun p => gI_ne (by rcases hx with ⟨rfl, rfl, rfl, rfl⟩ | ⟨rfl, rfl, rfl, rfl⟩ <;> decide)
  have eo : ∀ p, gI (pI s x 2 H) o p = gI s o p := fun p => gI_ne (by rcases hx with ⟨rfl, rfl, rfl, rfl⟩ | ⟨rfl, rfl, rfl, rfl⟩ <;> decide)
  have el : ∀ p, gI (pI s x 2 H) l p = gI s l p := fun p => gI_ne (by rcases hx with ⟨rfl, rfl, rfl, rfl⟩ | ⟨rfl, rfl, rfl, rfl⟩ <;> decide)
  have L1 := lay_1 (np := np) hx hS3 gI_eq hH2
  have L2 := lay_2 (np := np) hx hS3 gI_eq hH2 hn (fun p hp => by rw [er]; exact hr p hp) (fun p q hp hq => by rw [er, er]; exact hd p q hp hq)
  simp only [er, eo] at L1 L2
  have L3 := lay_3 (s := sR (pI s x 2 H) o (fun j => if j < H then whoF np (fun p => gI s r p) j else gI s o j)) (H := H) (oc := fun j => whoF np (fun p => gI s r p) j) hx hS3 (by
      rw [gI_sR]
      rcases hx with ⟨rfl, rfl, rfl, rfl⟩ | ⟨rfl, rfl, rfl, rfl⟩ <;> simp [gI_eq]) hH1 hH2 (fun j hj => by rw [gI_sR, if_pos rfl, if_pos hj])
  have e9 : (fun j => if j < H then nearF H (fun j => whoF np (fun p => gI s r p) j) (2 * H - j) else gI (sR (pI s x 2 H) o (fun j => if j < H then whoF np (fun p => gI s r p) j else gI s o j)) l j) = fun j => if j < H then hfF H np (fun p => gI s r p) j else gI s l j := by
    funext j
    by_cases hj : j < H
    · rw [if_pos hj, if_pos hj, near_hf (by omega) hj hn1 (hr 0 hn1)]
    · rw [if_neg hj, if_neg hj, gI_sR, if_neg (by rcases hx with ⟨rfl, rfl, rfl, rfl⟩ | ⟨rfl, rfl, rfl, rfl⟩ <;> decide), el]
  rw [e9] at L3
  have hk : isK s 17 x := by rcases hx with ⟨rfl, rfl, rfl, rfl⟩ | ⟨rfl, rfl, rfl, rfl⟩ <;> simp [isK, shF hS]
  have em : JM_min s (H : Int) 40 = some ((H : Int), s) := by
    unfold JM_min JM_min_b10
    by_cases h : (40 : Int) < H
    · omega
    · simp [h]
  unfold X7_lay
  rw [em, bnd_some, grd_t hk, lets_e, L1, L2, L3]
  rfl
/-- a street as it is to be: the town's houses, the people, the row of their houses -/
def StrOK (s : St) (x o l : Int) (H np : Nat) (ho : Nat → Int) : Prop := gI s x 2 = H ∧ (∀ j, j < H → gI s o j = whoF np ho j) ∧ ∀ j, j < H → gI s l j = hfF H np ho j
theorem listenerAt_e {s : St} {x o l r h : Int} {H np : Nat} {ho : Nat → Int} (hx : stOK x o l r) (hS : Sh s) (hO : StrOK s x o l H np ho) (hH : H ≤ 40) (hh : 0 ≤ h ∧ h < H) : X7_listenerAt s x h = some (hfF H np ho h, s) := by
  have e := isHouse_e (h := h) hx hS hO.1
  rw [if_pos hh] at e
  have e3 := hO.2.2 h.toNat (by omega)
  rw [Int.toNat_of_nonneg hh.1] at e3
  unfold X7_listenerAt X7_listenerAt_b19
  rcases hx with ⟨rfl, rfl, rfl, rfl⟩ | ⟨rfl, rfl, rfl, rfl⟩ <;>
  simp [e, tF, isK, shF hS, hh.1, show h < 40 by omega, e3]
theorem occupantOf_e {s : St} {x o l r h : Int} {H np : Nat} {ho : Nat → Int} (hx : stOK x o l r) (hS : Sh s) (hO : StrOK s x o l H np ho) (hH : H ≤ 40) (hh : 0 ≤ h ∧ h < H) : X7_occupantOf s x h = some (whoF np ho h, s) := by
  have e := isHouse_e (h := h) hx hS hO.1
  rw [if_pos hh] at e
  have e3 := hO.2.1 h.toNat (by omega)
  rw [Int.toNat_of_nonneg hh.1] at e3
  unfold X7_occupantOf X7_occupantOf_b19
  rcases hx with ⟨rfl, rfl, rfl, rfl⟩ | ⟨rfl, rfl, rfl, rfl⟩ <;>
  simp [e, tF, isK, shF hS, hh.1, show h < 40 by omega, e3]
