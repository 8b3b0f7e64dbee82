/-! THE CLASS: becomeAs -/
theorem zoA_off {h : xH} {o b n o2 b2 n2 : Nat} {f f2 : Nat → Int32} {e e2 : Int32} (z2 : zoA h o2 b2 n2 f2 e2) (h1 : o2 ≠ o) (h2 : o2 ≠ b) (h3 : b2 ≠ o) (h4 : b2 ≠ b) : zoA (hz h o b n f e) o2 b2 n2 f2 e2 := by
  refine ⟨z2.1, ?_, ?_⟩
  · unfold hz
    rw [if_neg h2, if_neg h1]
    exact z2.2.1
  · unfold hz
    rw [if_neg h4, if_neg h3]
    exact z2.2.2
theorem becomeAs_c {h : xH} {o b n o2 b2 : Nat} {f f2 : Nat → Int32} {e e2 : Int32} (hob : o ≠ b) (hn : n ≤ 5) (z2 : zoA h o2 b2 n f2 e2) (h1 : o2 ≠ o) (h2 : o2 ≠ b) (h3 : b2 ≠ o) (h4 : b2 ≠ b) (he : e2 = 0 ∨ e2 = 1) (k : Nat) : Zo_becomeAs_f k o (some o2) (hz h o b n f e) = some (0, hz h o b n (fun i => if i < n * n then f2 i else f i) e2) := by
  have hnn : n * n ≤ 25 := Nat.mul_le_mul hn hn
  have q2 : ∀ F E, zoA (hz h o b n F E) o2 b2 n f2 e2 := fun F E => zoA_off z2 h1 h2 h3 h4
  have jn : Int32.toNatClampNeg (J (n * n)) = n * n := J_nat (by omega)
  have z0 : Int32.toNatClampNeg (0 : Int32) = 0 := by decide
  have cp : cpi (hz h o b n f e) b2 (0 : Int32) b (0 : Int32) (J (n * n)) = some (hz h o b n (fun i => if i < n * n then f2 i else f i) e) := by
    unfold cpi
    rw [(q2 f e).2.2, hz_b]
    have nneg : ¬ (J (n * n) < 0) := J_nneg (by omega)
    show (if (!decide ((0 : Int32) < 0) && !decide ((0 : Int32) < 0) && !decide (J (n * n) < 0) && decide (Int32.toNatClampNeg (0 : Int32) + Int32.toNatClampNeg (J (n * n)) ≤ n * n) && decide (Int32.toNatClampNeg (0 : Int32) + Int32.toNatClampNeg (J (n * n)) ≤ n * n)) = true then _ else none) = _
    rw [jn, z0, if_pos (by simp [nneg])]
    congr 1
    funext a
    unfold xup hz va_cpy
    by_cases ha : a = b
    · rw [if_pos ha, if_pos ha]
      congr 5
      funext i
      by_cases hi : i < n * n
      · rw [if_pos (show 0 ≤ i ∧ i < 0 + n * n by omega), if_pos hi]
        congr 1
        omega
      · rw [if_neg (show ¬ (0 ≤ i ∧ i < 0 + n * n) by omega), if_neg hi]
    · rw [if_neg ha, if_neg ha, if_neg ha]
  unfold Zo_becomeAs_f
  simp only [zoA_size (q2 f e), hz_size hob, zoA_bounds (q2 f e), hz_bounds hob, hz_al, cp, zoA_empty (q2 _ e), zb_of he, hz_pf hob, obd, if_true]
