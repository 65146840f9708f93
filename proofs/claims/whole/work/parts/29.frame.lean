/-! what a call leaves as it was -/
def Fr (L : Nat → Prop) (s s' : St) : Prop := s'.1 = s.1 ∧ s'.2.1 = s.2.1 ∧ s'.2.2.1 = s.2.2.1 ∧ ∀ a, ¬ L a → s'.2.2.2 a = s.2.2.2 a
section FRAMES
variable {L L' : Nat → Prop} {s s' s1 s2 : St}
theorem Fr.refl (L : Nat → Prop) (s : St) : Fr L s s := ⟨rfl, rfl, rfl, fun _ _ => rfl⟩
theorem Fr.trans (h1 : Fr L s s1) (h2 : Fr L s1 s2) : Fr L s s2 := ⟨h2.1.trans h1.1, h2.2.1.trans h1.2.1, h2.2.2.1.trans h1.2.2.1, fun a ha => (h2.2.2.2 a ha).trans (h1.2.2.2 a ha)⟩
theorem Fr.mono (h : Fr L s s1) (hL : ∀ a, L a → L' a) : Fr L' s s1 := ⟨h.1, h.2.1, h.2.2.1, fun a ha => h.2.2.2 a (fun q => ha (hL a q))⟩
theorem Fr_pI {a : Int} {k : Nat} {x : Int} (h : L a.toNat) : Fr L s (pI s a k x) := ⟨rfl, rfl, rfl, fun b hb => by
  funext j
  show (if b = a.toNat ∧ j = k then x else s.2.2.2 b j) = _
  exact if_neg (fun q => hb (by rw [q.1]; exact h))⟩
theorem Fr_sR {a : Int} {f : Nat → Int} (h : L a.toNat) : Fr L s (sR s a f) := ⟨rfl, rfl, rfl, fun b hb => by
  funext j
  show (if b = a.toNat then f j else s.2.2.2 b j) = _
  exact if_neg (fun q => hb (by rw [q]; exact h))⟩
theorem Fr_cpy {a b c d n : Int} (h : L c.toNat) : Fr L s (cpy s a b c d n) := ⟨rfl, rfl, rfl, fun b hb => by
  funext j
  show (if b = c.toNat ∧ _ ∧ _ then _ else s.2.2.2 b j) = _
  exact if_neg (fun q => hb (by rw [q.1]; exact h))⟩
theorem Fr.sh (h : Fr L s s1) : Sh s1 = Sh s := by unfold Sh; rw [h.2.1, h.2.2.1]
theorem Fr.nu (h : Fr L s s1) {a : Int} {k : Nat} (ha : ¬ L a.toNat) : gI s1 a k = gI s a k := congrFun (h.2.2.2 _ ha) k
theorem Fr.kds (h : Fr L s s1) (a : Int) : kd s1 a = kd s a := by unfold kd; rw [h.2.1]
theorem Fr.lns (h : Fr L s s1) (a : Int) : ln s1 a = ln s a := by unfold ln; rw [h.2.1]
theorem Fr.refs (h : Fr L s s1) (a : Int) (k : Nat) : gR s1 a k = gR s a k := by unfold gR; rw [h.2.2.1]
/-- the numbers of these cells are the same -/
def Sm (s s' : St) (lo hi : Nat) : Prop := ∀ a, lo ≤ a → a ≤ hi → s'.2.2.2 a = s.2.2.2 a
theorem Sm.nu {lo hi : Nat} (h : Sm s s1 lo hi) {a : Int} (k : Nat) (h1 : lo ≤ a.toNat) (h2 : a.toNat ≤ hi) : gI s1 a k = gI s a k := congrFun (h _ h1 h2) k
theorem Fr.sm (h : Fr L s s1) {lo hi : Nat} (hL : ∀ a, lo ≤ a → a ≤ hi → ¬ L a) : Sm s s1 lo hi := fun a h1 h2 => h.2.2.2 a (hL a h1 h2)
theorem CT.sm {T : Tw} (h : Sm s s1 19 30) (hC : CT s T) : CT s1 T := by
  have e19 : ∀ k, gI s1 19 k = gI s 19 k := fun k => h.nu k (by decide) (by decide)
  have e21 : ∀ k, gI s1 21 k = gI s 21 k := fun k => h.nu k (by decide) (by decide)
  have e22 : ∀ k, gI s1 22 k = gI s 22 k := fun k => h.nu k (by decide) (by decide)
  have e23 : ∀ k, gI s1 23 k = gI s 23 k := fun k => h.nu k (by decide) (by decide)
  have e24 : ∀ k, gI s1 24 k = gI s 24 k := fun k => h.nu k (by decide) (by decide)
  have e25 : ∀ k, gI s1 25 k = gI s 25 k := fun k => h.nu k (by decide) (by decide)
  have e26 : ∀ k, gI s1 26 k = gI s 26 k := fun k => h.nu k (by decide) (by decide)
  have e27 : ∀ k, gI s1 27 k = gI s 27 k := fun k => h.nu k (by decide) (by decide)
  have e28 : ∀ k, gI s1 28 k = gI s 28 k := fun k => h.nu k (by decide) (by decide)
  have e29 : ∀ k, gI s1 29 k = gI s 29 k := fun k => h.nu k (by decide) (by decide)
  have e30 : ∀ k, gI s1 30 k = gI s 30 k := fun k => h.nu k (by decide) (by decide)
  unfold CT at hC ⊢
  simp only [e19, e21, e22, e23, e24, e25, e26, e27, e28, e29, e30]
  exact hC
theorem CV.sm {T : Tw} {N : Nw} {v st r sl mi x o l : Int} (hv : vcOK v st r sl mi x o l) (h : Sm s s1 st.toNat l.toNat) (hC : CV s T N r sl mi x o l) : CV s1 T N r sl mi x o l := by
  have hh : (st.toNat ≤ r.toNat ∧ r.toNat ≤ l.toNat) ∧ (st.toNat ≤ sl.toNat ∧ sl.toNat ≤ l.toNat) ∧ (st.toNat ≤ mi.toNat ∧ mi.toNat ≤ l.toNat) ∧ (st.toNat ≤ x.toNat ∧ x.toNat ≤ l.toNat) ∧ (st.toNat ≤ o.toNat ∧ o.toNat ≤ l.toNat) ∧ (st.toNat ≤ l.toNat ∧ l.toNat ≤ l.toNat) := by
    rcases hv with ⟨rfl, rfl, rfl, rfl, rfl, rfl, rfl, rfl⟩ | ⟨rfl, rfl, rfl, rfl, rfl, rfl, rfl, rfl⟩ <;> decide
  obtain ⟨⟨a1, a2⟩, ⟨b1, b2⟩, ⟨c1, c2⟩, ⟨d1, d2⟩, ⟨e1, e2⟩, ⟨f1, f2⟩⟩ := hh
  unfold CV StrOK at hC ⊢
  simp only [h.nu _ a1 a2, h.nu _ b1 b2, h.nu _ c1 c2, h.nu _ d1 d2, h.nu _ e1 e2, h.nu _ f1 f2]
  exact hC
end FRAMES
/-- the class's world: the town, now -/
def WC (T : Tw) (N : Nw) (s : St) : Prop := Sh s ∧ TOK T ∧ NOK T N ∧ CT s T ∧ CV s T N 33 34 35 36 37 38 ∧ gI s 32 0 = nN N
theorem vc1 : vcOK 31 32 33 34 35 36 37 38 := Or.inl ⟨rfl, rfl, rfl, rfl, rfl, rfl, rfl, rfl⟩
theorem vc2 : vcOK 39 40 41 42 43 44 45 46 := Or.inr ⟨rfl, rfl, rfl, rfl, rfl, rfl, rfl, rfl⟩
theorem WC.fr {L : Nat → Prop} {T : Tw} {N : Nw} {s s1 : St} (h : Fr L s s1) (hL : ∀ a, 19 ≤ a → a ≤ 38 → ¬ L a) (hW : WC T N s) : WC T N s1 := by
  obtain ⟨w1, w2, w3, w4, w5, w6⟩ := hW
  refine ⟨by rw [h.sh]; exact w1, w2, w3, w4.sm (h.sm fun a h1 h2 => hL a h1 (by omega)), w5.sm vc1 (h.sm fun a h1 h2 => hL a (Nat.le_trans (by decide) h1) (Nat.le_trans h2 (by decide))), ?_⟩
  rw [h.nu (a := 32) (hL _ (by decide) (by decide))]
  exact w6
theorem WC.tr {T : Tw} {N : Nw} {s : St} (hW : WC T N s) (k : Nat) (x : Int) : WC T N (pI s 0 k x) := hW.fr (L := fun a => a = 0) (Fr_pI rfl) (fun a h1 _ q => by omega)
section CWORLD
variable {s : St} {T : Tw} {N : Nw} {d : Nat} {night aim : Int}
theorem w_land (hW : WC T N s) (hd : d < tD T) (hn : 0 ≤ night ∧ night ≤ 99) : X10_landing s 31 d night = some (outT T N d (aimT T N d) night, s) := landing_e vc1 hW.1 hW.2.1 hW.2.2.1 hW.2.2.2.1 hW.2.2.2.2.1 hd hn
theorem w_landA (hW : WC T N s) (hd : d < tD T) (ha : 0 ≤ aim ∧ aim ≤ 100) (hn : 0 ≤ night ∧ night ≤ 99) : X10_landingAimed s 31 d aim night = some (outT T N d aim night, s) := landingAimed_e vc1 hW.1 hW.2.1 hW.2.2.1 hW.2.2.2.1 hW.2.2.2.2.1 hd ha hn
theorem w_lis (hW : WC T N s) (hd : d < tD T) (hn : 0 ≤ night ∧ night ≤ 99) : X10_listener s 31 d night = some (heaT T N d night, s) := listener_e vc1 hW.1 hW.2.1 hW.2.2.1 hW.2.2.2.1 hW.2.2.2.2.1 hd hn
theorem w_right (hW : WC T N s) (hd : d < tD T) (hn : 0 ≤ night ∧ night ≤ 99) : X10_isRight s 31 d night = some (if rigT T N d night = true then 1 else 0, s) := isRight_e vc1 hW.1 hW.2.1 hW.2.2.1 hW.2.2.2.1 hW.2.2.2.2.1 hd hn
end CWORLD
