/-! the least of several; bounds; the reference's step -/
theorem mn_spec {S : Nat → Prop} [∀ p, Decidable (S p)] {a : Nat → Int} {B : Int} : ∀ P, (∀ p, p < P → ¬ S p → fo (fun p m => if S p then m else if a p < m then a p else m) B P ≤ a p) ∧ fo (fun p m => if S p then m else if a p < m then a p else m) B P ≤ B ∧ (fo (fun p m => if S p then m else if a p < m then a p else m) B P = B ∨ ∃ p, p < P ∧ ¬ S p ∧ fo (fun p m => if S p then m else if a p < m then a p else m) B P = a p)
  | 0 => ⟨fun p hp => by omega, Int.le_refl _, Or.inl rfl⟩
  | P + 1 => by
    obtain ⟨h1, h2, h3⟩ := mn_spec (S := S) (a := a) (B := B) P
    have e : fo (fun p m => if S p then m else if a p < m then a p else m) B (P + 1) = if S P then fo (fun p m => if S p then m else if a p < m then a p else m) B P else if a P < fo (fun p m => if S p then m else if a p < m then a p else m) B P then a P else fo (fun p m => if S p then m else if a p < m then a p else m) B P := rfl
    rw [e]
    generalize fo (fun p m => if S p then m else if a p < m then a p else m) B P = m at h1 h2 h3
    by_cases q : S P
    · rw [if_pos q]
      refine ⟨fun p hp hs => ?_, h2, ?_⟩
      · by_cases z : p = P
        · subst z; exact absurd q hs
        · exact h1 p (by omega) hs
      · rcases h3 with h3 | ⟨p, p1, p2, p3⟩
        · exact Or.inl h3
        · exact Or.inr ⟨p, by omega, p2, p3⟩
    · rw [if_neg q]
      by_cases z : a P < m
      · rw [if_pos z]
        refine ⟨fun p hp hs => ?_, by omega, Or.inr ⟨P, by omega, q, rfl⟩⟩
        by_cases y : p = P
        · subst y; omega
        · have := h1 p (by omega) hs; omega
      · rw [if_neg z]
        refine ⟨fun p hp hs => ?_, h2, ?_⟩
        · by_cases y : p = P
          · subst y; omega
          · exact h1 p (by omega) hs
        · rcases h3 with h3 | ⟨p, p1, p2, p3⟩
          · exact Or.inl h3
          · exact Or.inr ⟨p, by omega, p2, p3⟩
theorem dst_b {H : Int} (h1 : 2 ≤ H) (h2 : H ≤ 40) (a b : Int) : 0 ≤ dstF H a b ∧ dstF H a b ≤ 20 := by
  have m1 := Int.emod_nonneg (b - a) (b := H) (by omega)
  have m2 := Int.emod_lt_of_pos (b - a) (b := H) (by omega)
  unfold dstF
  split <;> omega
section VB
variable {he of : Nat → Nat} {ho : Nat → Int} {H : Int} {P D : Nat}
theorem vV_fin (h : Int) {c : Nat} (hc : c + 1 = 3 ^ D) : vV he of ho H P D c h = 0 := by
  rw [vV_e he of ho H P D h (by omega), if_pos hc]
/-- the fewest: bounds, a best next one, no better one -/
theorem vV_b (h1 : 2 ≤ H) (h2 : H ≤ 40) (hD : D ≤ 6) (hp : ∀ d, d < D → he d < P ∧ of d < P) : ∀ n c h, c < 3 ^ D → 3 ^ D ≤ c + n → 0 ≤ vV he of ho H P D c h ∧ vV he of ho H P D c h + 20 * (dsm c D : Int) ≤ 40 * (D : Int)
  | 0, c, h, hc, hn => by omega
  | n + 1, c, h, hc, hn => by
    have dl := dsm_le c D
    by_cases e : c + 1 = 3 ^ D
    · rw [vV_fin h e]
      omega
    · rw [vV_e he of ho H P D h hc, if_neg e]
      have sp := mn_spec (S := fun p => beN he of c p D = c) (a := fun p => dstF H h (ho p) + vV he of ho H P D (beN he of c p D) (ho p)) (B := 1000000) P
      generalize fo (fun p m => if beN he of c p D = c then m else if dstF H h (ho p) + vV he of ho H P D (beN he of c p D) (ho p) < m then dstF H h (ho p) + vV he of ho H P D (beN he of c p D) (ho p) else m) (1000000 : Int) P = m at sp
      obtain ⟨s1, s2, s3⟩ := sp
      have nx : ∀ p, ¬ beN he of c p D = c → 0 ≤ vV he of ho H P D (beN he of c p D) (ho p) ∧ vV he of ho H P D (beN he of c p D) (ho p) + 20 * (dsm (beN he of c p D) D : Int) ≤ 40 * (D : Int) ∧ dsm c D + 1 ≤ dsm (beN he of c p D) D := fun p hne => by
        have g := beN_ge he of c p D
        have := vV_b h1 h2 hD hp n (beN he of c p D) (ho p) (beN_lt he of p hc) (by omega)
        exact ⟨this.1, this.2, dsm_be he of p hc hne⟩
      obtain ⟨q, q1, q2⟩ := beN_ex he of (c := c) (D := D) (P := P) (by omega) hp
      have b1 := s1 q q1 q2
      have b2 := nx q q2
      have b3 := dst_b h1 h2 h (ho q)
      refine ⟨?_, ?_⟩
      · rcases s3 with s3 | ⟨p, p1, p2, p3⟩
        · omega
        · have := nx p p2
          have := dst_b h1 h2 h (ho p)
          omega
      · omega
theorem vV_step (h1 : 2 ≤ H) (h2 : H ≤ 40) (hD : D ≤ 6) (hp : ∀ d, d < D → he d < P ∧ of d < P) {c : Nat} (h : Int) (hc : c + 1 < 3 ^ D) : (∀ p, p < P → beN he of c p D ≠ c → vV he of ho H P D c h ≤ dstF H h (ho p) + vV he of ho H P D (beN he of c p D) (ho p)) ∧ ∃ p, p < P ∧ beN he of c p D ≠ c ∧ vV he of ho H P D c h = dstF H h (ho p) + vV he of ho H P D (beN he of c p D) (ho p) := by
  have bb := vV_b (ho := ho) h1 h2 hD hp (3 ^ D) c h (by omega) (by omega)
  have e := vV_e he of ho H P D (c := c) h (by omega)
  rw [if_neg (by omega)] at e
  have sp := mn_spec (S := fun p => beN he of c p D = c) (a := fun p => dstF H h (ho p) + vV he of ho H P D (beN he of c p D) (ho p)) (B := 1000000) P
  rw [← e] at sp
  obtain ⟨s1, s2, s3⟩ := sp
  refine ⟨fun p hp hne => s1 p hp hne, ?_⟩
  rcases s3 with s3 | ⟨p, p1, p2, p3⟩
  · exfalso; omega
  · exact ⟨p, p1, p2, p3⟩
end VB
theorem pw3 : ∀ d : Nat, d ≤ 6 → 3 ^ d ≤ 729 := by decide +kernel
section SPREAD
variable {s : St} {T : Tw} {N : Nw} {t : Int} {he : Nat → Nat}
/-- the hearers as the reference keeps them -/
def HRm (s : St) (T : Tw) (he : Nat → Nat) : Prop := ∀ d, d < tD T → gI s 85 d = (he d : Int)
theorem m_behind {c p : Nat} (hM : MW T t s) (hh : HRm s T he) (hc : c < 3 ^ tD T) : X13_behind s 76 c p = some ((beN he (tFo T) c p (tD T) : Int), s) := by
  have hS := hM.1
  have hF := mF hM
  have t6 := hM.2.1.1.2.2.2.2.2.1
  have p729 := pw3 (tD T) t6
  unfold X13_behind X13_behind_b8
  refine iter_run (tD T) FU (fun k : Nat => (s, (76 : Int), (c : Int), (p : Int), ((beN he (tFo T) c p k : Nat) : Int), ((3 ^ k : Nat) : Int), (k : Int))) (by clear hF; unfold FU; omega) (fun k hk rec => ?_) (fun rec => ?_)
  · have k3 := pw3 k (by clear hF; omega)
    have kp : 0 < 3 ^ k := Nat.pow_pos (by decide)
    have hg : ¬ tD T ≤ k := by clear hF; omega
    have g6 : (k : Int) < 6 := by clear hF; omega
    have gu : ¬ ((3 ^ k : Nat) : Int) = 0 := by clear hF; omega
    have z3 : ¬ (3 : Int) ^ k = 0 := by
      have zz : ((3 ^ k : Nat) : Int) = (3 : Int) ^ k := by simp
      rw [← zz]; exact gu
    have e1 := hh k hk
    have e2 := (hM.2.2.2.2.2.1 k hk).2
    have bl : beN he (tFo T) c p k + 3 ^ k ≤ 3000 := by
      have := beN_sum he (tFo T) c p k
      have := vl_lt (f := ad1 he (tFo T) c p) (fun d => by have := ad1_le he (tFo T) c p d; clear hF; omega) k
      clear hF
      omega
    have td : Int.tdiv (c : Int) ((3 ^ k : Nat) : Int) = ((c / 3 ^ k : Nat) : Int) := rfl
    have dl : c / 3 ^ k ≤ c := Nat.div_le_self _ _
    have tm : Int.tmod ((c / 3 ^ k : Nat) : Int) 3 = ((dg c k : Nat) : Int) := rfl
    have hd := dg_le c k
    have es : beN he (tFo T) c p (k + 1) = beN he (tFo T) c p k + (if adB he (tFo T) c p k = true then 3 ^ k else 0) := rfl
    have w1 : w32 ((c / 3 ^ k : Nat) : Int) = ((c / 3 ^ k : Nat) : Int) := wk0 (by clear hF td tm; omega)
    have w2 : w32 (((3 ^ k : Nat) : Int) * 3) = ((3 ^ (k + 1) : Nat) : Int) := by
      rw [w32e (by clear hF td tm w1 es; generalize 3 ^ k = y at *; omega), Nat.pow_succ]; simp
    have w3 : w32 (((beN he (tFo T) c p k : Nat) : Int) + ((3 ^ k : Nat) : Int)) = ((beN he (tFo T) c p k + 3 ^ k : Nat) : Int) := by
      rw [w32e (by clear hF td tm w1 w2 es; generalize 3 ^ k = y at *; omega)]; simp
    have hw := wk1 (k := k) (by clear hF td tm w1 w2 w3 es; omega)
    have hc3 : dg c k = 0 ∨ dg c k = 1 ∨ dg c k = 2 := by clear hF td tm w1 w2 w3 es hw; omega
    have i1 : ((he k : Nat) : Int) = (p : Int) ↔ he k = p := by clear hF td tm w1 w2 w3 es hw; omega
    have i2 : ((tFo T k : Nat) : Int) = (p : Int) ↔ tFo T k = p := by clear hF td tm w1 w2 w3 es hw; omega
    have body : ∀ (b : Bool), adB he (tFo T) c p k = b → X13_behind_b8_body (fun (s : St) (x0 x1 x2 x3 x4 x5 : Int) => rec (s, x0, x1, x2, x3, x4, x5)) s 76 c p ((beN he (tFo T) c p k : Nat) : Int) ((3 ^ k : Nat) : Int) k = rec (s, (76 : Int), (c : Int), (p : Int), ((beN he (tFo T) c p k + (if b = true then 3 ^ k else 0) : Nat) : Int), ((3 ^ (k + 1) : Nat) : Int), ((k + 1 : Nat) : Int)) := by
      intro b hb
      simp only [X13_behind_b8_body, X13_behind_b44, X13_behind_b64, X13_behind_b69, td, w1, tm, w2, w3, hw]
      rcases hc3 with q | q | q
      · by_cases y : he k = p
        · have hb2 : b = true := by rw [← hb]; unfold adB; simp [q, y]
          subst hb2
          simp only [tF, isK, shF hS, hF, Int.toNat_natCast, e1, e2, q]
          simp [hg, g6, gu, y]
          intro z
          exact absurd z z3
        · have hb2 : b = false := by rw [← hb]; unfold adB; simp [q, y]
          subst hb2
          simp only [tF, isK, shF hS, hF, Int.toNat_natCast, e1, e2, q]
          simp [hg, g6, y, i1]
          intro z
          exact absurd z z3
      · by_cases y : tFo T k = p
        · have hb2 : b = true := by rw [← hb]; unfold adB; simp [q, y]
          subst hb2
          simp only [tF, isK, shF hS, hF, Int.toNat_natCast, e1, e2, q]
          simp [hg, g6, y]
          intro z
          exact absurd z z3
        · have hb2 : b = false := by rw [← hb]; unfold adB; simp [q, y]
          subst hb2
          simp only [tF, isK, shF hS, hF, Int.toNat_natCast, e1, e2, q]
          simp [hg, g6, y, i2]
          intro z
          exact absurd z z3
      · have hb2 : b = false := by rw [← hb]; unfold adB; simp [q]
        subst hb2
        simp only [tF, isK, shF hS, hF, Int.toNat_natCast, e1, e2, q]
        simp [hg]
        intro z
        exact absurd z z3
    rw [es]
    exact body _ rfl
  · simp [X13_behind_b8_body, tF, isK, shF hS, hF]
end SPREAD
