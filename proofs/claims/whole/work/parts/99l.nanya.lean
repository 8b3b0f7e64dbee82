/-! closing in Int32 is closing in numbers, also near ANY -/
def nz (W : Nat → Int32) : iM := fun i j => if i < 4 ∧ j < 4 then zi W i j else AN
theorem nz_in (W : Nat → Int32) {i j : Nat} (hi : i < 4) (hj : j < 4) : nz W i j = zi W i j := if_pos ⟨hi, hj⟩
theorem nz_cl2 {W : Nat → Int32} {k : Nat} (hk : k < 4) {B : Int} (h0 : 0 ≤ B) (hB : B ≤ 536870000) (hr : rg 4 B (zi W)) (hd : zi W k k = 1) : nz (cl2 4 k W) = fw k (nz W) := by
  funext i j
  by_cases h : i < 4 ∧ j < 4
  · rw [nz_in _ h.1 h.2, cl2_zi (by omega) hk h0 hB hr hd h.1 h.2]
    unfold fw
    rw [nz_in _ h.1 h.2, nz_in _ h.1 hk, nz_in _ hk h.2]
  · have e : ∀ V, nz V i j = AN := fun V => if_neg h
    unfold fw
    rw [e, e]
    by_cases hi : i < 4
    · have hj : ¬ j < 4 := fun t => h ⟨hi, t⟩
      have e2 : nz W k j = AN := if_neg (fun t => hj t.2)
      rw [e2, sm_A]
      omega
    · have e2 : nz W i k = AN := if_neg (fun t => hi t.1)
      rw [e2, A_sm]
      omega
theorem cl_xs {Z : Nat → Int32} {B : Int} (h0 : 0 ≤ B) (hB : 8 * (B + 1) ≤ 536870000) (hr : ∀ i j, i < 4 → j < 4 → -B ≤ zi Z i j ∧ zi Z i j ≤ AN) (hd : ∀ i, i < 4 → zi Z i i = 1) : (em 4 (cl 4 Z) 0 = 0 ∧ (∀ i, i < 4 → 1 ≤ xs (nz Z) 4 i i) ∧ nz (cl 4 Z) = xs (nz Z) 4) ∨ (em 4 (cl 4 Z) 0 = 1 ∧ ∃ i, i < 4 ∧ xs (nz Z) 4 i i < 1) := by
  have hA := AN_is
  have main : ∀ d k (W : Nat → Int32), k + d = 4 → nz W = xs (nz Z) k → (∀ i j, i < 4 → j < 4 → 1 - 2 ^ k * (B + 1) ≤ zi W i j ∧ zi W i j ≤ AN) → (∀ i, i < 4 → zi W i i ≤ 1) → nz (it (cl2 4) k d W) = xs (nz Z) 4 ∨ ((∃ i, i < 4 ∧ zi (it (cl2 4) k d W) i i < 1) ∧ ∃ i, i < 4 ∧ xs (nz Z) 4 i i < 1) := by
    intro d
    induction d with
    | zero =>
      intro k W hk e _ _
      rw [show k = 4 by omega] at e
      exact Or.inl e
    | succ d ih =>
      intro k W hk e hw hdg
      have hk4 : k < 4 := by omega
      by_cases hneg : zi W k k < 1
      · refine Or.inr ⟨⟨k, hk4, ?_⟩, k, hk4, ?_⟩
        · have := it_le 4 (d + 1) k W (5 * k + k)
          unfold zi at hneg ⊢
          omega
        · have := xs_mono (X := nz Z) (show k ≤ 4 by omega) k k
          rw [← e, nz_in _ hk4 hk4] at this
          omega
      · have dk : zi W k k = 1 := by
          have := hdg k hk4
          omega
        have k4 : k = 0 ∨ k = 1 ∨ k = 2 ∨ k = 3 := by omega
        have p2 : (2 : Int) ^ k ≤ 8 := by rcases k4 with h | h | h | h <;> rw [h] <;> decide
        have p1 : (1 : Int) ≤ 2 ^ k := by rcases k4 with h | h | h | h <;> rw [h] <;> decide
        have pb : (2 : Int) ^ k * (B + 1) ≤ 8 * (B + 1) := Int.mul_le_mul_of_nonneg_right p2 (by omega)
        have pc : 1 * (B + 1) ≤ (2 : Int) ^ k * (B + 1) := Int.mul_le_mul_of_nonneg_right p1 (by omega)
        have ps : (2 : Int) ^ (k + 1) * (B + 1) = 2 * (2 ^ k * (B + 1)) := by rw [Int.pow_succ, Int.mul_comm (2 ^ k) 2, Int.mul_assoc]
        have rW : rg 4 (2 ^ k * (B + 1)) (zi W) := fun i j hi hj => ⟨by have := (hw i j hi hj).1; omega, (hw i j hi hj).2⟩
        have en := nz_cl2 hk4 (show 0 ≤ (2 : Int) ^ k * (B + 1) by omega) (by omega) rW dk
        refine ih (k + 1) (cl2 4 k W) (by omega) ?_ (fun i j hi hj => ?_) (fun i hi => ?_)
        · rw [en, e]
          rfl
        · have st := cl2_zi (m := 4) (by omega) hk4 (show 0 ≤ (2 : Int) ^ k * (B + 1) by omega) (by omega) rW dk hi hj
          rw [st, ps]
          have r0 := hw i j hi hj
          have r1 := hw i k hi hk4
          have r2 := hw k j hk4 hj
          unfold fw
          have f : 1 - 2 * (2 ^ k * (B + 1)) ≤ sm (zi W i k) (zi W k j) := by
            by_cases h1 : zi W i k = AN
            · rw [h1, A_sm]; omega
            by_cases h2 : zi W k j = AN
            · rw [h2, sm_A]; omega
            have := sm_bd h1 h2
            omega
          omega
        · have := cl2_le 4 k W (5 * i + i)
          have := hdg i hi
          unfold zi at *
          omega
  have r := main 4 0 Z (by omega) rfl (fun i j hi hj => by
    have := hr i j hi hj
    have e : (2 : Int) ^ 0 * (B + 1) = B + 1 := by omega
    rw [e]
    omega) (fun i hi => by rw [hd i hi]; omega)
  have ecl : it (cl2 4) 0 4 Z = cl 4 Z := rfl
  rw [ecl] at r
  rcases em_is 4 (cl 4 Z) with ⟨g1, g2⟩ | ⟨g1, i, hi, g2⟩
  · rcases r with e | ⟨⟨i, hi, hn⟩, _⟩
    · refine Or.inl ⟨g1, fun i hi => ?_, e⟩
      rw [← e, nz_in _ hi hi]
      exact g2 i hi
    · have := g2 i hi
      omega
  · rcases r with e | ⟨_, g⟩
    · refine Or.inr ⟨g1, i, hi, ?_⟩
      rw [← e, nz_in _ hi hi]
      exact g2
    · exact Or.inr ⟨g1, g⟩
/-- closing what is closed -/
theorem fw_fix {X : iM} {k : Nat} (hA : lA X) (hk : k < 4) (ht : tp k X) {i j : Nat} (hi : i < 4) (hj : j < 4) : fw k X i j = X i j := by
  rcases fw_or hA hk hi hj with e | ⟨f1, f2, e, f3⟩
  · exact e
  · have := ht i j hi hj f1 f2
    omega
theorem xs_fix {X : iM} (hA : lA X) (ht : ∀ l, l < 4 → tp l X) : ∀ s, s < 5 → ∀ i j, i < 4 → j < 4 → xs X s i j = X i j := fun s hs i j hi hj => by
  have a := xs_ge hA ht (fun i j _ _ => Int.le_refl _) s hs i j hi hj
  have b := xs_mono (X := X) (Nat.zero_le s) i j
  have e : xs X 0 i j = X i j := rfl
  omega
/-- THE HAND's zone is good -/
def hI (S T1 TF K L : Int) (Z : Nat → Int32) : Prop := hgd S T1 TF (nz Z) ∧ wI K L (nz Z)
section HI
variable {S T1 TF K L M0 : Int} {Z : Nat → Int32}
theorem hI_rg (hL : 0 ≤ L) (h : hI S T1 TF K L Z) : (∀ i j, i < 4 → j < 4 → -(2 * L) ≤ zi Z i j ∧ zi Z i j ≤ AN) ∧ ∀ i, i < 4 → zi Z i i = 1 := by
  refine ⟨fun i j hi hj => ?_, fun i hi => ?_⟩
  · have a := wI_lo h.1 hL h.2 hi hj
    have b := h.1.1 i j hi hj
    rw [nz_in _ hi hj] at a b
    exact ⟨a, b⟩
  · have := h.1.2.1 i hi
    rw [nz_in _ hi hi] at this
    exact this
/-- closing THE HAND's zone changes nothing -/
theorem hI_cl (hL : 0 ≤ L) (hL2 : 8 * (2 * L + 1) ≤ 536870000) (h : hI S T1 TF K L Z) : em 4 (cl 4 Z) 0 = 0 ∧ ∀ i j, i < 4 → j < 4 → cl 4 Z (5 * i + j) = Z (5 * i + j) := by
  obtain ⟨r, d⟩ := hI_rg hL h
  obtain ⟨a, b, c, e, _⟩ := h.1
  have fx := xs_fix a e 4 (by omega)
  rcases cl_xs (B := 2 * L) (by omega) hL2 r d with ⟨g1, g2, g3⟩ | ⟨g1, i, hi, g2⟩
  · refine ⟨g1, fun i j hi hj => ?_⟩
    have q := fx i j hi hj
    rw [← g3, nz_in _ hi hj, nz_in _ hi hj] at q
    exact i32_eq.mpr q
  · rw [fx i i hi hi, b i hi] at g2
    omega
end HI
