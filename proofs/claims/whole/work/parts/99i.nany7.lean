/-! THE HAND's zone: all that is kept of it -/
def hgd (S T1 TF : Int) (H : iM) : Prop := lA H ∧ (∀ i, i < 4 → H i i = 1) ∧ (∀ j, j < 4 → H 0 j ≤ 1) ∧ (∀ l, l < 4 → tp l H) ∧ kk S H ∧ jj T1 H ∧ ff TF H
/-- the numbers of THE HAND -/
def nmh (M0 S T1 TF : Int) : Prop := 1 ≤ M0 ∧ M0 ≤ T1 ∧ T1 + 1 ≤ S ∧ 0 ≤ TF ∧ S + (S + TF) + M0 + 3 ≤ AN
section Hgd
variable {M0 S T1 TF : Int} {H O : iM}
theorem oHZ_kk (h : kk S H) (hM : M0 ≤ S) (hO : oHZ M0 H O) : kk S O := by
  intro q x i hq hx hi d1 d2 d3 g1 g2
  have e := ohz_hi (hO.2 q x hq.2 hx.2 d1 g2) (by omega)
  have := h q x i hq hx hi d1 d2 d3 (by omega) (by omega)
  have := hO.1 i x hi.2 hx.2
  omega
theorem oHZ_jj (hA : lA H) (h : jj T1 H) (hM : M0 ≤ T1) (hO : oHZ M0 H O) : jj T1 O := by
  intro q x i hq hx hi d1 d2 d3 g1 g2 g3
  have q0 : q ≠ 0 := Nat.pos_iff_ne_zero.mp hq.1
  have e := ohz_hi (hO.2 q 0 hq.2 (by omega) q0 g2) (by omega)
  have a := hA q x hq.2 hx.2
  have b := hO.1 q x hq.2 hx.2
  have := h q x i hq hx hi d1 d2 d3 (by omega) (by omega) (by omega)
  have := hO.1 i 0 hi.2 (by omega)
  omega
theorem hgd_hG (hN : nmh M0 S T1 TF) (h : hgd S T1 TF H) : hG S (S + TF) H := by
  obtain ⟨n1, n2, n3, n4, n5⟩ := hN
  obtain ⟨a, b, c, d, e, f, g⟩ := h
  exact ⟨d, e, j2_of a (by omega) n3 n4 (by omega) d e f g⟩
/-- H with small bounds put in, closed: it is good again -/
theorem near_hgd {TF' : Int} (hN : nmh M0 S T1 TF) (h : hgd S T1 TF H) (hO : oHZ M0 H O) (hd : ∀ i, i < 4 → O i i = 1) (hf : ff TF' O) (hfin : ∀ i, i < 4 → 1 ≤ xs O 4 i i) : hgd S T1 TF' (xs O 4) := by
  have hNA := AN_is
  have hg := hgd_hG hN h
  obtain ⟨n1, n2, n3, n4, n5⟩ := hN
  obtain ⟨a, b, c, d, e, f, g⟩ := h
  have lO : lA O := fun i j hi hj => Int.le_trans (hO.1 i j hi hj) (a i j hi hj)
  have r := near4 hg hO (show nmb M0 S (S + TF) from ⟨n1, by omega, by omega, by omega, by omega, by omega⟩) (fun j hj => Int.le_trans (hO.1 0 j (by omega) hj) (c j hj)) lO hd n3 (oHZ_kk e (by omega) hO) (oHZ_jj a f n2 hO) hf hfin 4 (by omega)
  obtain ⟨⟨r1, r2, r3, r4, _, _, _⟩, r8, r9, r10⟩ := r
  exact ⟨r1, r2, r3, r4, r8, r9, r10⟩
theorem pm_hgd (h : hgd S T1 TF H) : hgd S T1 TF (pm H) := by
  obtain ⟨a, b, c, d, e, f, g⟩ := h
  have p0 : ∀ i, i ≠ 0 → pm H i 0 = AN := fun i hi => if_pos ⟨rfl, hi⟩
  have pn : ∀ i j, j ≠ 0 → pm H i j = H i j := fun i j hj => if_neg (fun t => hj t.1)
  have pz0 : ∀ j, pm H 0 j = H 0 j := fun j => if_neg (fun t => t.2 rfl)
  refine ⟨fun i j hi hj => ?_, fun i hi => ?_, fun j hj => ?_, fun l hl i j hi hj f1 f2 => ?_, fun q x i hq hx hi d1 d2 d3 g1 g2 => ?_, fun q x i hq hx hi d1 d2 d3 g1 g2 g3 => ?_, fun ⟨k, hk, hf⟩ => ?_⟩
  · unfold pm
    split
    · exact Int.le_refl _
    · exact a i j hi hj
  · by_cases hi0 : i = 0
    · rw [hi0, pz0]; exact b 0 (by omega)
    · rw [pn i i hi0]; exact b i hi
  · rw [pz0]; exact c j hj
  · by_cases hl0 : l = 0
    · subst hl0
      by_cases hi0 : i = 0
      · subst hi0
        rw [pz0, pz0, b 0 (by omega), one_nps]
        exact Int.le_refl _
      · rw [p0 i hi0] at f1
        omega
    · rw [pn i l hl0] at f1 ⊢
      by_cases hj0 : j = 0
      · subst hj0
        rw [p0 l hl0] at f2
        omega
      · rw [pn l j hj0] at f2 ⊢
        rw [pn i j hj0]
        exact d l hl i j hi hj f1 f2
  · have x0 : x ≠ 0 := Nat.pos_iff_ne_zero.mp hx.1
    rw [pn q x x0] at g1 g2
    rw [pn i x x0]
    exact e q x i hq hx hi d1 d2 d3 g1 g2
  · rw [p0 q (Nat.pos_iff_ne_zero.mp hq.1)] at g2
    omega
  · rw [p0 k (Nat.pos_iff_ne_zero.mp hk.1)] at hf
    omega
theorem rs_hgd (hN : nmh M0 S T1 TF) (hTF : 1 ≤ TF) (h : hgd S T1 TF H) {ρ : Nat → Nat} (hρ : rsok 4 ρ) : hgd (S + TF) T1 TF (rs ρ H) := by
  have hg := hgd_hG hN h
  obtain ⟨n1, n2, n3, n4, n5⟩ := hN
  obtain ⟨a, b, c, d, e, f, g⟩ := h
  have b0 := b 0 (by omega)
  refine ⟨fun i j hi hj => a _ _ (hρ.lt hi) (hρ.lt hj), fun i hi => b _ (hρ.lt hi), fun j hj => ?_, fun l hl i j hi hj f1 f2 => d _ (hρ.lt hl) _ _ (hρ.lt hi) (hρ.lt hj) f1 f2, fun q x i hq hx hi d1 d2 d3 g1 g2 => ?_, fun q x i hq hx hi d1 d2 d3 g1 g2 g3 => ?_, fun ⟨k, hk, hf⟩ => ?_⟩
  · show H (ρ 0) (ρ j) ≤ 1
    rw [hρ.1]
    exact c _ (hρ.lt hj)
  · unfold rs at g1 g2 ⊢
    rcases hρ.2 q hq.2 with eq | eq
    · rw [eq] at g1 g2
      rcases hρ.2 i hi.2 with ei | ei
      · rw [ei]
        rcases hρ.2 x hx.2 with ex | ex
        · rw [ex] at g1 g2 ⊢
          have := e q x i hq hx hi d1 d2 d3 (by omega) g2
          omega
        · rw [ex] at g1 g2 ⊢
          exact hg.2.2 q i hq hi d3 g1 g2
      · rw [ei]
        have := c (ρ x) (hρ.lt hx.2)
        omega
    · rw [eq] at g1
      have := c (ρ x) (hρ.lt hx.2)
      omega
  · unfold rs at g1 g2 g3 ⊢
    rw [hρ.1] at g1 g2 ⊢
    rcases hρ.2 q hq.2 with eq | eq
    · rw [eq] at g1 g2 g3
      rcases hρ.2 x hx.2 with ex | ex
      · rw [ex] at g3
        rcases hρ.2 i hi.2 with ei | ei
        · rw [ei]
          exact f q x i hq hx hi d1 d2 d3 g1 g2 g3
        · rw [ei]
          omega
      · rw [ex] at g3
        omega
    · rw [eq] at g1
      omega
  · unfold rs at hf
    rw [hρ.1] at hf
    rcases hρ.2 k hk.2 with ek | ek
    · rw [ek] at hf
      obtain ⟨y, hy, hyT⟩ := g ⟨k, hk, hf⟩
      refine ⟨y, hy, ?_⟩
      unfold rs
      rw [hρ.1]
      rcases hρ.2 y hy.2 with ey | ey
      · rw [ey]; exact hyT
      · rw [ey]; omega
    · refine ⟨k, hk, ?_⟩
      unfold rs
      rw [hρ.1, ek]
      omega
end Hgd
