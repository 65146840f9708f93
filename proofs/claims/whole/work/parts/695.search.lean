/-! the reference's search, without the heap -/
section SEARCH
variable {he of : Nat → Nat} {ho : Nat → Int} {H fr : Int} {P D b : Nat} {l : Int} {f : Nat → Int}
def hq (ho : Nat → Int) (fr : Int) (q : Nat) : Int := if q = 6 then fr else ho q
/-- what holds when the first m reaches are done -/
def SI (he of : Nat → Nat) (ho : Nat → Int) (H fr : Int) (P D b m : Nat) (f : Nat → Int) (l : Int) : Prop :=
  (∀ c q, c < 3 ^ D → q < 7 → f (c * 7 + q) = 9999 ∨ ((q < P ∨ q = 6) ∧ 0 ≤ f (c * 7 + q) ∧ f (c * 7 + q) + 20 * (dsm b D : Int) ≤ 20 * (dsm c D : Int) ∧ vV he of ho H P D b fr ≤ f (c * 7 + q) + vV he of ho H P D c (hq ho fr q))) ∧ vV he of ho H P D b fr ≤ l ∧
  (l ≤ vV he of ho H P D b fr ∨ ∃ c q, c < 3 ^ D ∧ q < 7 ∧ m ≤ c * 7 + q ∧ f (c * 7 + q) ≠ 9999 ∧ f (c * 7 + q) + vV he of ho H P D c (hq ho fr q) ≤ vV he of ho H P D b fr)
theorem SI_end (h : SI he of ho H fr P D b (3 ^ D * 7) f l) : l = vV he of ho H P D b fr := by
  obtain ⟨-, h2, h3⟩ := h
  rcases h3 with h3 | ⟨c, q, c1, c2, c3, -⟩
  · omega
  · exfalso
    generalize 3 ^ D = z at *
    omega
theorem SI_skip {m : Nat} (h : SI he of ho H fr P D b m f l) (hf : f m = 9999) : SI he of ho H fr P D b (m + 1) f l := by
  obtain ⟨h1, h2, h3⟩ := h
  refine ⟨h1, h2, ?_⟩
  rcases h3 with h3 | ⟨c, q, c1, c2, c3, c4, c5⟩
  · exact Or.inl h3
  · refine Or.inr ⟨c, q, c1, c2, ?_, c4, c5⟩
    by_cases z : m = c * 7 + q
    · rw [← z] at c4; exact absurd hf c4
    · omega
theorem SI_step (h1 : 2 ≤ H) (h2 : H ≤ 40) (hD : D ≤ 6) (hP : P ≤ 6) (hp : ∀ d, d < D → he d < P ∧ of d < P) {c q : Nat} (hc : c < 3 ^ D) (hq7 : q < 7) (h : SI he of ho H fr P D b (c * 7 + q) f l) (hf : f (c * 7 + q) ≠ 9999) :
    SI he of ho H fr P D b (c * 7 + q + 1) (spF he of ho H D c (f (c * 7 + q)) (hq ho fr q) f P) (if c + 1 = 3 ^ D ∧ f (c * 7 + q) < l then f (c * 7 + q) else l) := by
  obtain ⟨a1, a2, a3⟩ := h
  have ac := (a1 c q hc hq7).resolve_left hf
  obtain ⟨-, b1, b2, b3⟩ := ac
  have at_ : ∀ c2 p2, p2 < 7 → spF he of ho H D c (f (c * 7 + q)) (hq ho fr q) f P (c2 * 7 + p2) = if p2 < P ∧ beN he of c p2 D = c2 ∧ c2 ≠ c ∧ f (c * 7 + q) + dstF H (hq ho fr q) (ho p2) < f (c2 * 7 + p2) then f (c * 7 + q) + dstF H (hq ho fr q) (ho p2) else f (c2 * 7 + p2) := fun c2 p2 h7 => spF_at he of ho H D c (f (c * 7 + q)) (hq ho fr q) f c2 h7 P (by omega)
  have dc := dsm_le c D
  generalize spF he of ho H D c (f (c * 7 + q)) (hq ho fr q) f P = f2 at at_
  by_cases e : c + 1 = 3 ^ D
  · have same : ∀ c2 p2, p2 < 7 → f2 (c2 * 7 + p2) = f (c2 * 7 + p2) := fun c2 p2 h7 => by
      rw [at_ c2 p2 h7, if_neg]
      rintro ⟨-, x2, x3, -⟩
      have := beN_lt he of (c := c) (D := D) p2 hc
      have := beN_ge he of c p2 D
      omega
    rw [vV_fin (hq ho fr q) e] at b3
    refine ⟨fun c2 q2 y1 y2 => by rw [same c2 q2 y2]; exact a1 c2 q2 y1 y2, ?_, ?_⟩
    · split <;> omega
    · rcases a3 with a3 | ⟨c3, q3, z1, z2, z3, z4, z5⟩
      · left; split <;> omega
      · by_cases y : c3 * 7 + q3 = c * 7 + q
        · have yc : c3 = c := by omega
          have yq : q3 = q := by omega
          subst yc yq
          rw [vV_fin (hq ho fr q3) e] at z5
          left
          split
          · omega
          · omega
        · right
          exact ⟨c3, q3, z1, z2, by omega, by rw [same c3 q3 z2]; exact z4, by rw [same c3 q3 z2]; exact z5⟩
  · have st := vV_step (he := he) (of := of) (ho := ho) (P := P) h1 h2 hD hp (c := c) (hq ho fr q) (by omega)
    obtain ⟨st1, p, p1, p2, p4⟩ := st
    rw [if_neg (fun x => e x.1)]
    have ok : ∀ c2 q2, c2 < 3 ^ D → q2 < 7 → f2 (c2 * 7 + q2) = 9999 ∨ ((q2 < P ∨ q2 = 6) ∧ 0 ≤ f2 (c2 * 7 + q2) ∧ f2 (c2 * 7 + q2) + 20 * (dsm b D : Int) ≤ 20 * (dsm c2 D : Int) ∧ vV he of ho H P D b fr ≤ f2 (c2 * 7 + q2) + vV he of ho H P D c2 (hq ho fr q2)) := by
      intro c2 q2 y1 y2
      rw [at_ c2 q2 y2]
      by_cases y : q2 < P ∧ beN he of c q2 D = c2 ∧ c2 ≠ c ∧ f (c * 7 + q) + dstF H (hq ho fr q) (ho q2) < f (c2 * 7 + q2)
      · rw [if_pos y]
        obtain ⟨w1, w2, w3, w4⟩ := y
        have db := dst_b h1 h2 (hq ho fr q) (ho q2)
        have s2 := st1 q2 w1 (by rw [w2]; exact w3)
        have ds := dsm_be he of q2 hc (by rw [w2]; exact w3)
        rw [w2] at s2 ds
        have eq : hq ho fr q2 = ho q2 := if_neg (by omega)
        rw [eq]
        exact Or.inr ⟨Or.inl w1, by omega, by omega, by omega⟩
      · rw [if_neg y]; exact a1 c2 q2 y1 y2
    refine ⟨ok, a2, ?_⟩
    rcases a3 with a3 | ⟨c3, q3, z1, z2, z3, z4, z5⟩
    · exact Or.inl a3
    · right
      by_cases y : c3 * 7 + q3 = c * 7 + q
      · have yc : c3 = c := by omega
        have yq : q3 = q := by omega
        subst yc yq
        have bl := beN_lt he of (c := c3) (D := D) p hc
        have bg := beN_ge he of c3 p D
        have db := dst_b h1 h2 (hq ho fr q3) (ho p)
        have eq : hq ho fr p = ho p := if_neg (by omega)
        have av := at_ (beN he of c3 p D) p (by omega)
        refine ⟨beN he of c3 p D, p, bl, by omega, by omega, ?_, ?_⟩
        · rw [av]
          split <;> omega
        · rw [eq, av]
          split <;> omega
      · have av := at_ c3 q3 z2
        have o := ok c3 q3 z1 z2
        have le : f2 (c3 * 7 + q3) ≤ f (c3 * 7 + q3) := by rw [av]; split <;> omega
        have o1 := (a1 c3 q3 z1 z2).resolve_left z4
        have d3 := dsm_le c3 D
        exact ⟨c3, q3, z1, z2, by omega, by omega, by omega⟩
theorem SI_start (h1 : 2 ≤ H) (h2 : H ≤ 40) (hD : D ≤ 6) (hp : ∀ d, d < D → he d < P ∧ of d < P) (hb : b < 3 ^ D) (hf : ∀ j, j < 3 ^ D * 7 → f j = if j = b * 7 + 6 then 0 else 9999) : SI he of ho H fr P D b (b * 7) f 9999 := by
  have bb := vV_b (ho := ho) h1 h2 hD hp (3 ^ D) b fr hb (by omega)
  have e6 : hq ho fr 6 = fr := rfl
  refine ⟨fun c q hc hq7 => ?_, by omega, Or.inr ⟨b, 6, hb, by omega, by omega, ?_, ?_⟩⟩
  · rw [hf (c * 7 + q) (by generalize 3 ^ D = z at *; omega)]
    by_cases y : c * 7 + q = b * 7 + 6
    · have yc : c = b := by omega
      have yq : q = 6 := by omega
      subst yc yq
      rw [if_pos rfl, e6]
      exact Or.inr ⟨Or.inr rfl, by omega, by omega, by omega⟩
    · rw [if_neg y]; exact Or.inl rfl
  · rw [hf (b * 7 + 6) (by generalize 3 ^ D = z at *; omega), if_pos rfl]; omega
  · rw [hf (b * 7 + 6) (by generalize 3 ^ D = z at *; omega), if_pos rfl, e6]; omega
theorem SI_b {m : Nat} (hD : D ≤ 6) (h : SI he of ho H fr P D b m f l) {c q : Nat} (hc : c < 3 ^ D) (hq7 : q < 7) (hf : f (c * 7 + q) ≠ 9999) : (q < P ∨ q = 6) ∧ 0 ≤ f (c * 7 + q) ∧ f (c * 7 + q) ≤ 240 := by
  have := (h.1 c q hc hq7).resolve_left hf
  have := dsm_le c D
  exact ⟨by omega, by omega, by omega⟩
end SEARCH
