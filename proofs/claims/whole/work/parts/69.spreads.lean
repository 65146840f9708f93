/-! the reference spreads a reach -/
section SPF
variable (he of : Nat → Nat) (ho : Nat → Int) (H : Int) (D c : Nat) (k h : Int)
def spS (p : Nat) (f : Nat → Int) : Nat → Int := if beN he of c p D = c then f else if f (beN he of c p D * 7 + p) ≤ k + dstF H h (ho p) then f else fun j => if j = beN he of c p D * 7 + p then k + dstF H h (ho p) else f j
def spF (f : Nat → Int) (n : Nat) : Nat → Int := fo (spS he of ho H D c k h) f n
theorem spF_at (f : Nat → Int) {p2 : Nat} (c2 : Nat) (h7 : p2 < 7) : ∀ n, n ≤ 7 → spF he of ho H D c k h f n (c2 * 7 + p2) = if p2 < n ∧ beN he of c p2 D = c2 ∧ c2 ≠ c ∧ k + dstF H h (ho p2) < f (c2 * 7 + p2) then k + dstF H h (ho p2) else f (c2 * 7 + p2)
  | 0, _ => by rw [if_neg (by omega)]; rfl
  | n + 1, hn => by
    have ih := spF_at f c2 h7 n (by omega)
    have e : spF he of ho H D c k h f (n + 1) = spS he of ho H D c k h n (spF he of ho H D c k h f n) := rfl
    rw [e]
    unfold spS
    by_cases q : beN he of c n D = c
    · rw [if_pos q, ih]
      by_cases z : p2 = n
      · subst z
        rw [if_neg (by omega), if_neg (by rw [q]; omega)]
      · by_cases y : p2 < n ∧ beN he of c p2 D = c2 ∧ c2 ≠ c ∧ k + dstF H h (ho p2) < f (c2 * 7 + p2)
        · rw [if_pos y, if_pos ⟨by omega, y.2⟩]
        · rw [if_neg y, if_neg (fun x => y ⟨by omega, x.2⟩)]
    · rw [if_neg q]
      by_cases z : p2 = n
      · subst z
        rw [if_neg (by omega)] at ih
        by_cases y : beN he of c p2 D = c2
        · rw [y, ih]
          rw [y] at q
          by_cases x : f (c2 * 7 + p2) ≤ k + dstF H h (ho p2)
          · rw [if_pos x, ih, if_neg (by omega)]
          · rw [if_neg x]
            show (if c2 * 7 + p2 = c2 * 7 + p2 then _ else _) = _
            rw [if_pos rfl, if_pos ⟨by omega, rfl, q, by omega⟩]
        · rw [if_neg (c := p2 < p2 + 1 ∧ _) (fun x => y x.2.1)]
          split
          · exact ih
          · show (if c2 * 7 + p2 = beN he of c p2 D * 7 + p2 then _ else _) = _
            rw [if_neg (by omega)]; exact ih
      · have e2 : (if spF he of ho H D c k h f n (beN he of c n D * 7 + n) ≤ k + dstF H h (ho n) then spF he of ho H D c k h f n else fun j => if j = beN he of c n D * 7 + n then k + dstF H h (ho n) else spF he of ho H D c k h f n j) (c2 * 7 + p2) = spF he of ho H D c k h f n (c2 * 7 + p2) := by
          split
          · rfl
          · show (if c2 * 7 + p2 = beN he of c n D * 7 + n then _ else _) = _
            rw [if_neg (by omega)]
        rw [e2, ih]
        by_cases y : p2 < n ∧ beN he of c p2 D = c2 ∧ c2 ≠ c ∧ k + dstF H h (ho p2) < f (c2 * 7 + p2)
        · rw [if_pos y, if_pos ⟨by omega, y.2⟩]
        · rw [if_neg y, if_neg (fun x => y ⟨by omega, x.2⟩)]
end SPF
section SPREADS
variable {s : St} {T : Tw} {N : Nw} {t : Int} {he : Nat → Nat}
theorem m_spreads {c : Nat} {k h : Int} (hW : WM T N t s) (hh : HRm s T he) (hc : c < 3 ^ tD T) (hk : 0 ≤ k ∧ k ≤ 2000) (h0 : 0 ≤ h ∧ h < tH T) : X13_spreads s 76 c k h = some (0, sR s 84 (spF he (tFo T) (nHo N) (tH T) (tD T) c k h (fun j => gI s 84 j) (tP T))) := by
  have hM := hW.1
  have hS := hM.1
  have hF := mF hM
  have t1 := hM.2.1.1.1
  have t2 := hM.2.1.1.2.1
  have t5 := hM.2.1.1.2.2.2.2.1
  have t6 := hM.2.1.1.2.2.2.2.2.1
  have p729 := pw3 (tD T) t6
  have h8 : ¬ t.toNat = 84 := by have := hM.2.2.2.1; clear hF; omega
  unfold X13_spreads X13_spreads_b3
  rw [show (s, (76 : Int), (c : Int), k, h, (0 : Int)) = (fun i : Nat => (sR s 84 (spF he (tFo T) (nHo N) (tH T) (tD T) c k h (fun j => gI s 84 j) i), (76 : Int), (c : Int), k, h, (i : Int))) 0 by
    show _ = (sR s 84 (fun j => gI s 84 j), (76 : Int), (c : Int), k, h, ((0 : Nat) : Int))
    rw [sR_self]; rfl]
  refine iter_run (tP T) FU (fun i : Nat => (sR s 84 (spF he (tFo T) (nHo N) (tH T) (tD T) c k h (fun j => gI s 84 j) i), (76 : Int), (c : Int), k, h, (i : Int))) (by clear hF; unfold FU; omega) (fun i hi rec => ?_) (fun rec => ?_)
  · have es : spF he (tFo T) (nHo N) (tH T) (tD T) c k h (fun j => gI s 84 j) (i + 1) = spS he (tFo T) (nHo N) (tH T) (tD T) c k h i (spF he (tFo T) (nHo N) (tH T) (tD T) c k h (fun j => gI s 84 j) i) := rfl
    rw [es]
    generalize spF he (tFo T) (nHo N) (tH T) (tD T) c k h (fun j => gI s 84 j) i = f at *
    have hM2 : MW T t (sR s 84 f) := hM.fr (L := fun a => a = 84) (Fr_sR rfl) (fun a ha q => by omega)
    have hh2 : HRm (sR s 84 f) T he := fun d hd => by rw [gI_sR]; exact hh d hd
    have eb := m_behind (p := i) hM2 hh2 hc
    have eh : gI s 79 i = nHo N i := hW.2.2.1 i hi
    have nh := hW.2.1.2.1 i hi
    have ea := m_apart (a := h) (b := nHo N i) hM2 (by clear hF; omega) (by clear hF; omega)
    have db := dst_b (H := tH T) (by clear hF; omega) (by clear hF; omega) h (nHo N i)
    have bl := beN_lt he (tFo T) (c := c) (D := tD T) i hc
    have g1 : ¬ tP T ≤ i := by clear hF; omega
    have g6 : (i : Int) < 6 := by clear hF; omega
    have hi6 : i ≤ 6000 := by clear hF; omega
    have hw := wk1 hi6
    have iq : ((beN he (tFo T) c i (tD T) : Nat) : Int) = (c : Int) ↔ beN he (tFo T) c i (tD T) = c := by clear hF eb ea hw; omega
    unfold spS
    generalize beN he (tFo T) c i (tD T) = b at *
    have w1 : w32 ((b : Int) * 7) = (b : Int) * 7 := w32e (by clear hF eb ea hw; omega)
    have w2 : w32 ((b : Int) * 7 + (i : Int)) = (b : Int) * 7 + (i : Int) := w32e (by clear hF eb ea hw w1; omega)
    have n2 : ((b : Int) * 7 + (i : Int)).toNat = b * 7 + i := by clear hF eb ea hw w1 w2; omega
    have g19 : (i : Int) < 19 := by clear hF eb ea hw w1 w2; omega
    have gl : 0 ≤ (b : Int) * 7 + (i : Int) := by clear hF eb ea hw w1 w2; omega
    have w3 : w32 (k + dstF (tH T) h (nHo N i)) = k + dstF (tH T) h (nHo N i) := w32e (by clear hF eb ea hw w1 w2; omega)
    have gj : (b : Int) * 7 + (i : Int) < 5103 := by clear hF eb ea hw w1 w2 w3; omega
    simp only [X13_spreads_b3_body, X13_spreads_b85]
    by_cases q : b = c
    · simp [tF, sRF, isK, shF hS, gI_sR, hF, h8, g1, g6, eb, hw, w1, w2, q]
    · by_cases z : f (b * 7 + i) ≤ k + dstF (tH T) h (nHo N i)
      · simp [tF, sRF, isK, shF hS, gI_sR, hF, h8, g1, g6, eb, ea, eh, hw, w1, w2, w3, q, iq, z, gj, gl, g19, n2]
      · simp [tF, sRF, isK, shF hS, gI_sR, hF, h8, g1, g6, eb, ea, eh, hw, w1, w2, w3, q, iq, z, gj, gl, g19, n2, sR_pI]
  · simp [X13_spreads_b3_body, tF, sRF, isK, shF hS, gI_sR, hF, h8]
end SPREADS
