/-! one stage of closing near ANY -/
/-- two bounds against each other are never less than 0 -/
def c2 (X : iM) : Prop := ∀ a b, a < 4 → b < 4 → X a b < AN → X b a < AN → 1 ≤ nps (X a b) (X b a)
/-- where a bound comes from: it was there, or it came through a node before k -/
def dcp (k : Nat) (O X : iM) : Prop := ∀ a b, a < 4 → b < 4 → dn a b → X a b < AN → X a b = O a b ∨ ∃ m, m < k ∧ dn m a ∧ dn m b ∧ X a m < AN ∧ X m b < AN ∧ nps (X a m) (X m b) ≤ X a b
section Stage
variable {X Y O H : iM} {k : Nat}
theorem fw_le (k : Nat) (X : iM) (i j : Nat) : fw k X i j ≤ X i j := by
  unfold fw
  omega
theorem fw_top {i j : Nat} (h1 : X i k < AN) (h2 : X k j < AN) : fw k X i j ≤ nps (X i k) (X k j) := by
  unfold fw
  rw [sm_nps h1 h2]
  omega
theorem fw_or (hA : lA X) (hk : k < 4) {i j : Nat} (hi : i < 4) (hj : j < 4) : fw k X i j = X i j ∨ (X i k < AN ∧ X k j < AN ∧ fw k X i j = nps (X i k) (X k j) ∧ fw k X i j < X i j) := by
  have a := hA i j hi hj
  have a1 := hA i k hi hk
  have a2 := hA k j hk hj
  by_cases h1 : X i k < AN
  · by_cases h2 : X k j < AN
    · unfold fw
      rw [sm_nps h1 h2]
      by_cases h3 : nps (X i k) (X k j) < X i j
      · exact Or.inr ⟨h1, h2, by omega, by omega⟩
      · exact Or.inl (by omega)
    · left
      unfold fw
      rw [show X k j = AN by omega, sm_A]
      omega
  · left
    unfold fw
    rw [show X i k = AN by omega, A_sm]
    omega
theorem fw_lA (hA : lA X) : lA (fw k X) := fun i j hi hj => Int.le_trans (fw_le k X i j) (hA i j hi hj)
theorem fw_dcp (hA : lA X) (hk : k < 4) (hd : ∀ i, i < 4 → X i i = 1) (h : dcp k O X) : dcp (k + 1) O (fw k X) := by
  have hN := AN_is
  intro a b ha hb hab hf
  have l := fw_le k X
  rcases fw_or hA hk ha hb with e | ⟨h1, h2, e, h3⟩
  · rw [e] at hf ⊢
    rcases h a b ha hb hab hf with g | ⟨m, g1, g2, g3, g4, g5, g6⟩
    · exact Or.inl g
    · refine Or.inr ⟨m, by omega, g2, g3, ?_, ?_, ?_⟩
      · have := l a m
        omega
      · have := l m b
        omega
      · have := nps_mono (l a m) (l m b)
        omega
  · refine Or.inr ⟨k, by omega, fun t => ?_, fun t => ?_, ?_, ?_, ?_⟩
    · rw [← t, hd k hk, one_nps] at e
      rw [← t] at h3
      omega
    · rw [← t, hd k hk, nps_one] at e
      rw [← t] at h3
      omega
    · have := l a k
      omega
    · have := l k b
      omega
    · rw [e]
      exact nps_mono (l a k) (l k b)
/-- three in a round, one of them k -/
theorem cyc3 (hA : lA X) (hk : k < 4) (ht : ∀ l, l < k → tp l X) (h2 : c2 X) (h3 : ∀ a b, k < a → a < 4 → b < 4 → fw k X a b < AN → fw k X b a < AN → 1 ≤ nps (fw k X a b) (fw k X b a)) {i l : Nat} (hi : i < 4) (hl : l < 4) (hik : i ≠ k) (hlk : l ≠ k) (f1 : X i k < AN) (f2 : X k l < AN) (f3 : X l i < AN) (f4 : nps (X i k) (X k l) < AN) : 1 ≤ nps (nps (X i k) (X k l)) (X l i) := by
  have hN := AN_is
  have u := fw_top (i := i) (j := l) f1 f2
  have v := fw_le k X l i
  by_cases hi' : k < i
  · have w := h3 i l hi' hi hl (by omega) (by omega)
    have := nps_mono u v
    omega
  by_cases hl' : k < l
  · have w := h3 l i hl' hl hi (by omega) (by omega)
    have := nps_mono u v
    rw [nps_comm] at w
    omega
  have e : nps (nps (X i k) (X k l)) (X l i) = nps (X k l) (nps (X l i) (X i k)) := by
    rw [nps_assoc, nps_comm (X i k), nps_assoc]
  by_cases g : 1 ≤ X k l
  · have t := ht i (by omega) l k hl hk f3 f1
    by_cases g2 : X l k < AN
    · have c := h2 k l hk hl f2 g2
      have := nps_mono (Int.le_refl (X k l)) t
      omega
    · have := nps_geL (b := nps (X l i) (X i k)) g
      omega
  · have t := ht l (by omega) k i hk hi f2 f3
    have q := nps_leL (b := X l i) (show X k l ≤ 1 by omega)
    have c := h2 i k hi hk f1 (by omega)
    have := nps_mono (Int.le_refl (X i k)) t
    rw [nps_assoc]
    omega
/-- the four nodes -/
theorem four {i k l j m : Nat} (hi : i < 4) (hk : k < 4) (hl : l < 4) (hj : j < 4) (hm : m < 4) (d1 : i ≠ k) (d2 : i ≠ l) (d3 : i ≠ j) (d4 : k ≠ l) (d5 : k ≠ j) (d6 : l ≠ j) : m = i ∨ m = k ∨ m = l ∨ m = j := by omega
theorem zero4 {i k l j : Nat} (hi : i < 4) (hk : k < 4) (hl : l < 4) (hj : j < 4) (d1 : i ≠ k) (d2 : i ≠ l) (d3 : i ≠ j) (d4 : k ≠ l) (d5 : k ≠ j) (d6 : l ≠ j) : i = 0 ∨ k = 0 ∨ l = 0 ∨ j = 0 := by omega
end Stage
