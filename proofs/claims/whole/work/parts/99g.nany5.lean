section Stg2
variable {M0 S T : Int} {X O H : iM} {k : Nat}
theorem fw_col (hd : X k k = 1) (i : Nat) : fw k X i k = X i k := by
  unfold fw
  rw [hd, sm_one]
  omega
theorem fw_row (hd : X k k = 1) (j : Nat) : fw k X k j = X k j := by
  unfold fw
  rw [hd, one_sm]
  omega
theorem stg_tp (hG' : hG S T H) (hO : oHZ M0 H O) (hN : nmb M0 S T) (hO0 : ∀ j, j < 4 → O 0 j ≤ 1) (hk : k < 4) (hX : stH k O X) (h3 : c2a k X) : ∀ l, l < k + 1 → tp l (fw k X) := by
  have hNA := AN_is
  have hX' := hX
  obtain ⟨hA, hd, hr, htp, hD, hXO, h2⟩ := hX'
  intro l hl i j hi hj f1 f2
  by_cases hlk : l = k
  · rw [hlk] at f1 f2 ⊢
    rw [fw_col (hd k hk)] at f1 ⊢
    rw [fw_row (hd k hk)] at f2 ⊢
    exact fw_top f1 f2
  have hl' : l < k := by omega
  have hl4 : l < 4 := by omega
  have yle := fw_le k X i j
  have xA := hA i j hi hj
  by_cases ht : nps (fw k X i l) (fw k X l j) < AN
  rotate_left
  · omega
  rcases fw_or hA hk hi hl4 with e1 | ⟨a1, a2, e1, a3⟩
  · rw [e1] at f1 ht ⊢
    rcases fw_or hA hk hl4 hj with e2 | ⟨b1, b2, e2, b3⟩
    · rw [e2] at f2 ⊢
      have := htp l hl' i j hi hj f1 f2
      omega
    · rw [e2] at ht ⊢
      -- i, l, k, j
      by_cases g : nps (X i l) (X l k) < AN
      · have t := htp l hl' i k hi hk f1 b1
        have u := fw_top (i := i) (j := j) (show X i k < AN by omega) b2
        have v := nps_mono t (Int.le_refl (X k j))
        rw [nps_assoc] at v
        omega
      by_cases d1 : i = k
      · subst d1
        have c := h2 i l hi hl4 f1 b1
        have := nps_geL (b := X i j) c
        rw [nps_assoc] at this
        omega
      by_cases d2 : j = l
      · subst d2
        have c := h2 j k hj hk b1 b2
        have := nps_geR (a := X i j) c
        omega
      by_cases d3 : i = j
      · subst d3
        have f4 : nps (X l k) (X k i) < AN := by omega
        have c := cyc3 hA hk htp h2 h3 hl4 hi hlk d1 b1 b2 f1 f4
        rw [nps_comm] at c
        have := hd i hi
        omega
      by_cases d4 : j = k
      · subst d4
        rw [hd j hj, nps_one] at e2
        omega
      by_cases d5 : i = l
      · subst d5
        have := hd i hi
        rw [this, one_nps] at g
        omega
      have hl0 : l ≠ 0 := fun t => by
        subst t
        have := nps_leR (a := X i 0) (hr k hk)
        omega
      have hi0 : i ≠ 0 := fun t => by
        subst t
        have := nps_leL (b := X l k) (hr l hl4)
        omega
      have hj0 : j = 0 := by
        rcases zero4 hi hk hl4 hj d1 d5 d3 (Ne.symm hlk) (Ne.symm d4) (Ne.symm d2) with h | h | h | h
        · exact absurd h hi0
        · omega
        · exact absurd h hl0
        · exact h
      subst hj0
      have r := hr k hk
      have c := h2 k 0 hk (by omega) b2 (by omega)
      have c1 := nps_leR (a := X k 0) r
      have := nps_geR (a := nps (X i l) (X l k)) (show 1 ≤ X k 0 by omega)
      rw [nps_assoc] at this
      omega
  · rcases fw_or hA hk hl4 hj with e2 | ⟨b1, b2, e2, b3⟩
    · rw [e2] at f2
      rw [e1, e2] at ht ⊢
      rw [e1] at f1
      -- i, k, l, j
      by_cases g : nps (X k l) (X l j) < AN
      · have t := htp l hl' k j hk hj a2 f2
        have u := fw_top (i := i) (j := j) a1 (show X k j < AN by omega)
        have v := nps_mono (Int.le_refl (X i k)) t
        rw [nps_assoc]
        omega
      by_cases d1 : i = k
      · subst d1
        rw [hd i hi, one_nps] at e1
        omega
      by_cases d2 : i = l
      · subst d2
        have c := h2 i k hi hk a1 a2
        have := nps_geL (b := X i j) c
        omega
      by_cases d3 : i = j
      · subst d3
        have c := cyc3 hA hk htp h2 h3 hi hl4 d1 hlk a1 a2 f2 f1
        have := hd i hi
        omega
      by_cases d4 : j = k
      · subst d4
        have c := h2 j l hj hl4 a2 f2
        have := nps_geR (a := X i j) c
        rw [nps_assoc]
        omega
      by_cases d5 : j = l
      · subst d5
        have := hd j hj
        rw [this, nps_one] at g
        omega
      have hl0 : l ≠ 0 := fun t => by
        subst t
        have := nps_leR (a := X k 0) (hr j hj)
        omega
      exact badb hG' hO hN hO0 hk hX h3 hi hl' hj (Nat.pos_of_ne_zero hl0) d1 d2 d3 (Ne.symm hlk) (Ne.symm d4) (Ne.symm d5) a1 a2 f2 (by omega) f1 ht
    · rw [e1, e2] at ht ⊢
      have c := h2 k l hk hl4 a2 b1
      have u := fw_top (i := i) (j := j) a1 b2
      have w : nps (nps (X i k) (X k l)) (nps (X l k) (X k j)) = nps (X i k) (nps (nps (X k l) (X l k)) (X k j)) := by
        rw [nps_assoc, nps_assoc]
      rw [w]
      have v := nps_mono (Int.le_refl (X i k)) (nps_geL (b := X k j) c)
      omega
end Stg2
/-! far bounds stay what they were -/
theorem fw_kk {S T1 : Int} {X : iM} {k : Nat} (hA : lA X) (hk : k < 4) (hS : T1 + 1 ≤ S) (hS2 : 1 ≤ S) (hr : ∀ j, j < 4 → X 0 j ≤ 1) (hd : ∀ i, i < 4 → X i i = 1) (h : kk S X) (hj : jj T1 X) : kk S (fw k X) := by
  have hNA := AN_is
  intro q x i hq hx hi d1 d2 d3 g1 g2
  have li := fw_le k X i x
  rcases fw_or hA hk hq.2 hx.2 with e | ⟨a1, a2, e, a3⟩
  · rw [e] at g1 g2
    have := h q x i hq hx hi d1 d2 d3 g1 g2
    omega
  have xA := hA q x hq.2 hx.2
  by_cases hf : X q x < AN
  · have := h q x i hq hx hi d1 d2 d3 (by omega) hf
    omega
  have hkq : k ≠ q := fun t => by
    rw [t, hd q hq.2, one_nps] at e
    rw [t] at a3
    omega
  have hkx : k ≠ x := fun t => by
    rw [t, hd x hx.2, nps_one] at e
    rw [t] at a3
    omega
  by_cases hk0 : k = 0
  · subst hk0
    have r := hr x hx.2
    have b := nps_leR (a := X q 0) r
    by_cases gT : T1 < X q 0
    · have j1 := hj q x i hq hx hi d1 d2 d3 gT a1 (by omega)
      by_cases fi : X i 0 < AN
      · have u := fw_top (i := i) (j := x) fi a2
        have b2 := nps_leR (a := X i 0) r
        omega
      · have := hA q 0 hq.2 (by omega)
        omega
    · omega
  · have hki : k = i := by
      unfold ck at hq hx hi
      omega
    subst hki
    by_cases gS : S < X k x
    · have := h k x q hi hx hq d2 d1 (Ne.symm d3) gS a2
      omega
    · omega
theorem fw_jj {S T1 : Int} {X : iM} {k : Nat} (hA : lA X) (hk : k < 4) (hS : T1 + 1 ≤ S) (hr : ∀ j, j < 4 → X 0 j ≤ 1) (hd : ∀ i, i < 4 → X i i = 1) (h0 : 0 < k → tp 0 X) (h : kk S X) (hj : jj T1 X) (hSA : S < AN) : jj T1 (fw k X) := by
  have hNA := AN_is
  intro q x i hq hx hi d1 d2 d3 g1 g2 g3
  have li := fw_le k X i 0
  have lq := fw_le k X q x
  have xA := hA q x hq.2 hx.2
  have x0 := hA q 0 hq.2 (by omega)
  rcases fw_or hA hk hq.2 (show 0 < 4 by omega) with e | ⟨a1, a2, e, a3⟩
  · rw [e] at g1 g2
    have := hj q x i hq hx hi d1 d2 d3 g1 g2 (by omega)
    omega
  by_cases hf : X q 0 < AN
  · have := hj q x i hq hx hi d1 d2 d3 (by omega) hf (by omega)
    omega
  have hkq : k ≠ q := fun t => by
    rw [t, hd q hq.2, one_nps] at e
    rw [t] at a3
    omega
  have hk0 : k ≠ 0 := fun t => by
    rw [t, hd 0 (by omega), nps_one] at e
    rw [t] at a3
    omega
  have hkx : k ≠ x := fun t => by
    rw [t] at a1
    omega
  have hki : k = i := by
    unfold ck at hq hx hi
    omega
  subst hki
  by_cases gT : T1 < X k 0
  · have r := hr x hx.2
    have t := h0 (by omega) k x hk hx.2 a2 (by omega)
    have b := nps_leR (a := X k 0) r
    have u := fw_top (i := q) (j := x) a1 (show X k x < AN by omega)
    have v := nps_mono (Int.le_refl (X q k)) (show X k x ≤ X k 0 by omega)
    omega
  · omega
theorem fw_ff {T : Int} {X : iM} {k : Nat} (hA : lA X) (hk : k < 4) (h : ff T X) (hd : ∀ i, i < 4 → X i i = 1) : ff T (fw k X) := by
  intro ⟨q, hq, hf⟩
  have ex : ∃ c, ck c ∧ X c 0 < AN := by
    rcases fw_or hA hk hq.2 (show 0 < 4 by omega) with e | ⟨a1, a2, e, a3⟩
    · exact ⟨q, hq, by omega⟩
    · by_cases hk0 : k = 0
      · rw [hk0] at a1
        exact ⟨q, hq, a1⟩
      · exact ⟨k, ⟨by omega, hk⟩, a2⟩
  obtain ⟨y, hy, g⟩ := h ex
  have := fw_le k X y 0
  exact ⟨y, hy, by omega⟩
