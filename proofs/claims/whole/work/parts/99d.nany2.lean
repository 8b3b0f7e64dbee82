/-! bounds O: of the closed zone H, or small ones -/
def dn (a b : Nat) : Prop := a ≠ b
def ohz (M0 o h : Int) : Prop := o = h ∨ (-M0 ≤ o ∧ o ≤ M0)
def oHZ (M0 : Int) (H O : iM) : Prop := (∀ i j, i < 4 → j < 4 → O i j ≤ H i j) ∧ ∀ i j, i < 4 → j < 4 → i ≠ j → O i j < AN → ohz M0 (O i j) (H i j)
theorem ohz_hi {M0 o h : Int} (H : ohz M0 o h) (g : M0 < o) : o = h := by
  rcases H with H | H
  · exact H
  · omega
/-- all that is known of H -/
def hG (S T : Int) (H : iM) : Prop := (∀ l, l < 4 → tp l H) ∧ kk S H ∧ j2 T H
/-- the numbers: M0 small bounds, S far, T far from 0 -/
def nmb (M0 S T : Int) : Prop := 1 ≤ M0 ∧ M0 ≤ T ∧ S ≤ T ∧ S + T + M0 + 3 ≤ AN ∧ 2 * M0 < AN ∧ M0 ≤ S
section Orig
variable {M0 S T : Int} {H O X : iM} {i k l j : Nat} {y : Int}
theorem or_H (hcH : tp k H) (hO : oHZ M0 H O) (hXO : ∀ i j, i < 4 → j < 4 → X i j ≤ O i j) (hl : tp l X) (hi : i < 4) (hl4 : l < 4) (hj : j < 4) (fa : O i k < AN) (fb : O k l < AN) (fc : O l j < AN) (e1 : O i k = H i k) (e2 : O k l = H k l) (hlt : nps (O i k) (O k l) < AN) (hyX : y ≤ X i j) : y ≤ nps (nps (O i k) (O k l)) (O l j) := by
  have t := hcH i l hi hl4 (by omega) (by omega)
  rw [← e1, ← e2] at t
  have x1 := hXO i l hi hl4
  have x2 := hO.1 i l hi hl4
  have xc := hXO l j hl4 hj
  have t2 := hl i j hi hj (by omega) (by omega)
  have t3 := nps_mono (show X i l ≤ nps (O i k) (O k l) by omega) xc
  omega
theorem or_K {B : Int} (hXO : ∀ i j, i < 4 → j < 4 → X i j ≤ O i j) (hi : i < 4) (hk : k < 4) (fa : O i k < AN) (hb : B ≤ nps (O k l) (O l j)) (hBA : B < AN) (hkj : X k j ≤ B) (hyk : X i k < AN → X k j < AN → y ≤ nps (X i k) (X k j)) : y ≤ nps (nps (O i k) (O k l)) (O l j) := by
  have xa := hXO i k hi hk
  have t := hyk (by omega) (by omega)
  have t2 := nps_mono xa (show X k j ≤ nps (O k l) (O l j) by omega)
  rw [nps_assoc]
  omega
theorem or_Z (hz : -M0 ≤ O i k) (hbad : AN ≤ nps (O k l) (O l j)) (h : y ≤ AN - M0 - 1) : y ≤ nps (nps (O i k) (O k l)) (O l j) := by
  rw [nps_assoc]
  have := nps_bd (O i k) (nps (O k l) (O l j))
  omega
theorem orig0 (hG' : hG S T H) (hO : oHZ M0 H O) (hN : nmb M0 S T) (hXO : ∀ i j, i < 4 → j < 4 → X i j ≤ O i j) (hr : ∀ j, j < 4 → X 0 j ≤ 1) (hr2 : O 0 k ≤ 1) (hl : tp l X) (hk : ck k) (hll : ck l) (hj : ck j) (d4 : dn k l) (d5 : dn k j) (d6 : dn l j) (fb : O k l < AN) (fc : O l j < AN) (hbad : AN ≤ nps (O k l) (O l j)) (hyX : y ≤ X 0 j) (hyk : X 0 k < AN → X k j < AN → y ≤ nps (X 0 k) (X k j)) : y ≤ nps (nps (O 0 k) (O k l)) (O l j) := by
  have hA := AN_is
  obtain ⟨n1, n2, n3, n4, n5, n6⟩ := hN
  obtain ⟨hcH, hkH, hjH⟩ := hG'
  have hk0 : k ≠ 0 := Nat.pos_iff_ne_zero.mp hk.1
  have fa : O 0 k < AN := by omega
  have b1 := nps_bd (O k l) (O l j)
  have r := hr j hj.2
  rcases hO.2 0 k (by omega) hk.2 (Ne.symm hk0) fa with e1 | e1
  · rcases hO.2 k l hk.2 hll.2 d4 fb with e2 | e2
    · refine or_H (hcH k hk.2) hO hXO hl (by omega) hll.2 hj.2 fa fb fc e1 e2 ?_ hyX
      have := nps_leL (b := O k l) hr2
      omega
    · have e3 := ohz_hi (hO.2 l j hll.2 hj.2 d6 fc) (by omega)
      have k1 := hkH l j k hll hj hk d6 d5 (Ne.symm d4) (by omega) (by omega)
      have x1 := hXO k j hk.2 hj.2
      have x2 := hO.1 k j hk.2 hj.2
      exact or_K (B := S) hXO (by omega) hk.2 fa (by omega) (by omega) (by omega) hyk
  · exact or_Z e1.1 hbad (by omega)
theorem origj (hG' : hG S T H) (hO : oHZ M0 H O) (hN : nmb M0 S T) (hXO : ∀ i j, i < 4 → j < 4 → X i j ≤ O i j) (hc0 : 1 ≤ X l 0) (hl : tp l X) (hi : ck i) (hk : ck k) (hll : ck l) (d1 : dn i k) (d2 : dn i l) (d4 : dn k l) (fa : O i k < AN) (fb : O k l < AN) (fc : O l 0 < AN) (hbad : AN ≤ nps (O k l) (O l 0)) (ht : nps (nps (O i k) (O k l)) (O l 0) < AN) (hyX : y ≤ X i 0) (hyk : X i k < AN → X k 0 < AN → y ≤ nps (X i k) (X k 0)) : y ≤ nps (nps (O i k) (O k l)) (O l 0) := by
  have hA := AN_is
  obtain ⟨n1, n2, n3, n4, n5, n6⟩ := hN
  obtain ⟨hcH, hkH, hjH⟩ := hG'
  have hl0 : l ≠ 0 := Nat.pos_iff_ne_zero.mp hll.1
  have b1 := nps_bd (O k l) (O l 0)
  have xc := hXO l 0 hll.2 (by omega)
  have x1 := hXO k 0 hk.2 (by omega)
  have x2 := hO.1 k 0 hk.2 (by omega)
  have hlt : nps (O i k) (O k l) < AN := by
    have := nps_geR (a := nps (O i k) (O k l)) (show 1 ≤ O l 0 by omega)
    omega
  rcases hO.2 k l hk.2 hll.2 d4 fb with e2 | e2
  · rcases hO.2 i k hi.2 hk.2 d1 fa with e1 | e1
    · exact or_H (hcH k hk.2) hO hXO hl hi.2 hll.2 (by omega) fa fb fc e1 e2 hlt hyX
    · by_cases hcT : O l 0 ≤ T
      · have k1 := hkH k l i hk hll hi d4 d2 (Ne.symm d1) (by omega) (by omega)
        have x3 := hXO i l hi.2 hll.2
        have x4 := hO.1 i l hi.2 hll.2
        have t2 := hl i 0 hi.2 (by omega) (by omega) (by omega)
        have b3 := nps_bd (X i l) (X l 0)
        exact or_Z e1.1 hbad (by omega)
      · have e3 := ohz_hi (hO.2 l 0 hll.2 (by omega) hl0 fc) (by omega)
        have := hjH l k hll hk (Ne.symm d4) (by omega) (by omega)
        exact or_K (B := T) hXO hi.2 hk.2 fa (by omega) (by omega) (by omega) hyk
  · have e3 := ohz_hi (hO.2 l 0 hll.2 (by omega) hl0 fc) (by omega)
    have := hjH l k hll hk (Ne.symm d4) (by omega) (by omega)
    exact or_K (B := T) hXO hi.2 hk.2 fa (by omega) (by omega) (by omega) hyk
end Orig
