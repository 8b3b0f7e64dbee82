/-! a stage keeps closed what was closed -/
def stH (k : Nat) (O X : iM) : Prop := lA X ∧ (∀ i, i < 4 → X i i = 1) ∧ (∀ j, j < 4 → X 0 j ≤ 1) ∧ (∀ l, l < k → tp l X) ∧ dcp k O X ∧ (∀ i j, i < 4 → j < 4 → X i j ≤ O i j) ∧ c2 X
def c2a (k : Nat) (X : iM) : Prop := ∀ a b, k < a → a < 4 → b < 4 → fw k X a b < AN → fw k X b a < AN → 1 ≤ nps (fw k X a b) (fw k X b a)
section Stg
variable {M0 S T : Int} {X O H : iM} {k : Nat}
theorem badb (hG' : hG S T H) (hO : oHZ M0 H O) (hN : nmb M0 S T) (hO0 : ∀ j, j < 4 → O 0 j ≤ 1) (hk : k < 4) (hX : stH k O X) (h3 : c2a k X) {i l j : Nat} (hi : i < 4) (hl : l < k) (hj : j < 4) (hl0 : 0 < l) (d1 : dn i k) (d2 : dn i l) (d3 : dn i j) (d4 : dn k l) (d5 : dn k j) (d6 : dn l j) (fa : X i k < AN) (fb : X k l < AN) (fc : X l j < AN) (hbad : AN ≤ nps (X k l) (X l j)) (hab : nps (X i k) (X k l) < AN) (ht : nps (nps (X i k) (X k l)) (X l j) < AN) : fw k X i j ≤ nps (nps (X i k) (X k l)) (X l j) := by
  have hNA := AN_is
  obtain ⟨hA, hd, hr, htp, hD, hXO, h2⟩ := hX
  have hl4 : l < 4 := by omega
  have bb := nps_bd (X k l) (X l j)
  have yle := fw_le k X i j
  have viaL : X i l < AN → fw k X i j ≤ nps (X i l) (X l j) := fun f => by
    have := htp l hl i j hi hj f fc
    omega
  rcases hD l j hl4 hj d6 fc with e3 | ⟨m, m1, m2, m3, m4, m5, m6⟩
  rotate_left
  · have hm : m = i := by
      rcases four hi hk hl4 hj (show m < 4 by omega) d1 d2 d3 d4 d5 d6 with h | h | h | h
      · exact h
      · omega
      · exact absurd h m2
      · exact absurd h m3
    rw [hm] at m4 m5 m6
    have c := cyc3 hA hk htp h2 h3 hi hl4 d1 (Ne.symm d4) fa fb m4 hab
    have t := nps_mono (Int.le_refl (nps (X i k) (X k l))) m6
    rw [← nps_assoc] at t
    have := nps_geL (b := X i j) c
    omega
  rcases hD k l hk hl4 d4 fb with e2 | ⟨m, m1, m2, m3, m4, m5, m6⟩
  rotate_left
  · have t := nps_mono (nps_mono (Int.le_refl (X i k)) m6) (Int.le_refl (X l j))
    rcases four hi hk hl4 hj (show m < 4 by omega) d1 d2 d3 d4 d5 d6 with h | h | h | h
    · rw [h] at m4 m5 t
      rw [← nps_assoc] at t
      have c := h2 i k hi hk fa m4
      have g1 := nps_geL (b := X i l) c
      have g2 := nps_mono g1 (Int.le_refl (X l j))
      have := viaL m5
      omega
    · omega
    · exact absurd h m3
    · rw [h] at m4 m5 t
      rw [← nps_assoc, nps_assoc] at t
      have c := h2 j l hj hl4 m5 fc
      have g1 := nps_geR (a := nps (X i k) (X k j)) c
      have := fw_top fa m4
      omega
  rcases hD i k hi hk d1 fa with e1 | ⟨m, m1, m2, m3, m4, m5, m6⟩
  rotate_left
  · have t := nps_mono (nps_mono m6 (Int.le_refl (X k l))) (Int.le_refl (X l j))
    rcases four hi hk hl4 hj (show m < 4 by omega) d1 d2 d3 d4 d5 d6 with h | h | h | h
    · exact absurd h m2
    · omega
    · rw [h] at m4 m5 t
      rw [nps_assoc (X i l)] at t
      have c := h2 l k hl4 hk m5 fb
      have g1 := nps_geR (a := X i l) c
      have g2 := nps_mono g1 (Int.le_refl (X l j))
      have := viaL m4
      omega
    · rw [h] at m4 m5 t
      rw [nps_assoc (X i j), nps_assoc (X i j)] at t
      have c : 1 ≤ nps (nps (X j k) (X k l)) (X l j) := by
        by_cases f4 : nps (X j k) (X k l) < AN
        · exact cyc3 hA hk htp h2 h3 hj hl4 (Ne.symm d5) (Ne.symm d4) m5 fb fc f4
        · have := nps_geR (a := nps (X j k) (X k l)) (show 1 ≤ X l j by omega)
          omega
      have g1 := nps_geR (a := X i j) c
      omega
  rw [e1] at fa
  rw [e2] at fb
  rw [e3] at fc
  rw [e2, e3] at hbad
  rw [e1, e2, e3] at ht ⊢
  have hkc : ck k := ⟨by omega, hk⟩
  have hlc : ck l := ⟨hl0, hl4⟩
  rcases zero4 hi hk hl4 hj d1 d2 d3 d4 d5 d6 with h | h | h | h
  · subst h
    exact orig0 hG' hO hN hXO hr (hO0 k hk) (htp l hl) hkc hlc ⟨Nat.pos_of_ne_zero (Ne.symm d3), hj⟩ d4 d5 d6 fb fc hbad yle (fun a b => fw_top a b)
  · omega
  · omega
  · subst h
    have c1 : 1 ≤ X l 0 := by
      by_cases f : X l 0 < AN
      · have r := hr l hl4
        have c := h2 l 0 hl4 (by omega) f (by omega)
        have := nps_leR (a := X l 0) r
        omega
      · omega
    exact origj hG' hO hN hXO c1 (htp l hl) ⟨Nat.pos_of_ne_zero d3, hi⟩ hkc hlc d1 d2 d4 fa fb fc hbad ht yle (fun a b => fw_top a b)
end Stg
