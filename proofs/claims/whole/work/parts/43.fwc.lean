/-! closing in general, where no bound is great -/
theorem fw_fn {m k : Nat} {X : iM} {C : Int} (h0 : 0 ≤ C) (hk : k < m) (hX : ∀ i j, i < m → j < m → fn C (X i j)) {i j : Nat} (hi : i < m) (hj : j < m) : fn (2 * C + 1) (fw k X i j) := by
  have h1 := fn_mono (hX i j hi hj) (show C ≤ 2 * C + 1 by omega)
  have h2 := fn_mono (sm_fn (hX i k hi hk) (hX k j hk hj)) (show C + C + 1 ≤ 2 * C + 1 by omega)
  unfold fw
  rcases Int.le_total (X i j) (sm (X i k) (X k j)) with h | h
  · rw [Int.min_eq_left h]; exact h1
  · rw [Int.min_eq_right h]; exact h2
theorem fw_step {m k : Nat} {X : iM} {C : Int} (h0 : 0 ≤ C) (hC : C ≤ 200000) (hk : k < m) (hX : ∀ i j, i < m → j < m → fn C (X i j)) (hd : X k k = 1) (hT : ∀ l, l < k → ∀ i j, i < m → j < m → X i j ≤ sm (X i l) (X l j)) : ∀ l, l < k + 1 → ∀ i j, i < m → j < m → fw k X i j ≤ sm (fw k X i l) (fw k X l j) := by
  have hA := AN_is
  intro l hl i j hi hj
  have lA : ∀ {x D : Int}, fn D x → D ≤ 400003 → x ≤ AN := fun h g => fn_le h (by omega)
  have up : ∀ {x : Int} {D : Int}, fn D x → D ≤ 400003 → fn 400003 x := fun h g => fn_mono h g
  have bik := hX i k hi hk
  have bkj := hX k j hk hj
  have top : fw k X i j ≤ sm (X i k) (X k j) := by unfold fw; omega
  have topo : fw k X i j ≤ X i j := by unfold fw; omega
  by_cases hlk : l = k
  · have e1 : fw k X i l = X i k := by
      unfold fw
      rw [hlk, hd, sm_one]
      omega
    have e2 : fw k X l j = X k j := by
      unfold fw
      rw [hlk, hd, one_sm]
      omega
    rw [e1, e2]
    exact top
  · have hlk' : l < k := by omega
    have hlm : l < m := by omega
    have bil := hX i l hi hlm
    have blj := hX l j hlm hj
    have bkl := hX k l hk hlm
    have blk := hX l k hlm hk
    have t0 := hT l hlk' i j hi hj
    have t1 := hT l hlk' k j hk hj
    have t2 := hT l hlk' i k hi hk
    have t3 := hT l hlk' k k hk hk
    rw [hd] at t3
    have s1 := sm_fn bkl blj
    have s2 := sm_fn bil blk
    have s3 := sm_fn bkl blk
    have s4 := sm_fn s3 bkj
    have s5 := sm_fn blk bkj
    have kb : sm (X i k) (X k j) ≤ sm (sm (X i k) (X k l)) (X l j) := by
      rw [sm_assoc (up bik (by omega)) (up bkl (by omega)) (up blj (by omega)) (by omega)]
      exact sm_mo (up bik (by omega)) (up bkj (by omega)) (by omega) (Int.le_refl _) t1 (lA bik (by omega)) (fn_le s1 (by omega))
    have kc : sm (X i k) (X k j) ≤ sm (X i l) (sm (X l k) (X k j)) := by
      rw [← sm_assoc (up bil (by omega)) (up blk (by omega)) (up bkj (by omega)) (by omega)]
      exact sm_mo (up bik (by omega)) (up bkj (by omega)) (by omega) t2 (Int.le_refl _) (fn_le s2 (by omega)) (lA bkj (by omega))
    have kd : sm (X i k) (X k j) ≤ sm (sm (X i k) (X k l)) (sm (X l k) (X k j)) := by
      rw [sm_assoc (up bik (by omega)) (up bkl (by omega)) (fn_mono s5 (by omega)) (by omega), ← sm_assoc (up bkl (by omega)) (up blk (by omega)) (up bkj (by omega)) (by omega)]
      have u : X k j ≤ sm (sm (X k l) (X l k)) (X k j) := by
        have v := sm_mo (B := 400003) (a := 1) (b := X k j) (Or.inr (by omega)) (up bkj (by omega)) (by omega) t3 (Int.le_refl _) (fn_le s3 (by omega)) (lA bkj (by omega))
        rw [one_sm] at v
        exact v
      exact sm_mo (up bik (by omega)) (up bkj (by omega)) (by omega) (Int.le_refl _) u (lA bik (by omega)) (fn_le s4 (by omega))
    have f1 : fw k X i l = min (X i l) (sm (X i k) (X k l)) := rfl
    have f2 : fw k X l j = min (X l j) (sm (X l k) (X k j)) := rfl
    rw [f1, f2]
    rcases Int.le_total (X i l) (sm (X i k) (X k l)) with g | g <;> rcases Int.le_total (X l j) (sm (X l k) (X k j)) with f | f
    · rw [Int.min_eq_left g, Int.min_eq_left f]; omega
    · rw [Int.min_eq_left g, Int.min_eq_right f]; omega
    · rw [Int.min_eq_right g, Int.min_eq_left f]; omega
    · rw [Int.min_eq_right g, Int.min_eq_right f]; omega
/-- closing a matrix above a good zone gives the loosest closed one below it -/
theorem close_G {m : Nat} {B : Int} (hm : m ≤ 5) (h0 : 0 ≤ B) (hB : B ≤ 5000) {Z : Nat → Int32} (hX : ∀ i j, i < m → j < m → fn B (zi Z i j)) (hd : ∀ i, i < m → zi Z i i = 1) {L : iM} (hL : zgd m 100000 L) (hLX : ∀ i j, i < m → j < m → L i j ≤ zi Z i j) : zgd m (32 * B + 31) (zi (cl m Z)) ∧ (∀ i j, i < m → j < m → zi (cl m Z) i j ≤ zi Z i j) ∧ ∀ K : iM, zgd m 100000 K → (∀ i j, i < m → j < m → K i j ≤ zi Z i j) → ∀ i j, i < m → j < m → K i j ≤ zi (cl m Z) i j := by
  have hA := AN_is
  have main : ∀ d k (W : Nat → Int32) (C : Int), k + d = m → 0 ≤ C → C + 1 ≤ 2 ^ k * (B + 1) → (∀ i j, i < m → j < m → fn C (zi W i j)) → (∀ i j, i < m → j < m → zi W i j ≤ zi Z i j) → (∀ K : iM, zgd m 100000 K → (∀ i j, i < m → j < m → K i j ≤ zi Z i j) → ∀ i j, i < m → j < m → K i j ≤ zi W i j) → (∀ l, l < k → ∀ i j, i < m → j < m → zi W i j ≤ sm (zi W i l) (zi W l j)) → (∃ C', C' + 1 ≤ 2 ^ m * (B + 1) ∧ ∀ i j, i < m → j < m → fn C' (zi (it (cl2 m) k d W) i j)) ∧ (∀ i j, i < m → j < m → zi (it (cl2 m) k d W) i j ≤ zi Z i j) ∧ (∀ K : iM, zgd m 100000 K → (∀ i j, i < m → j < m → K i j ≤ zi Z i j) → ∀ i j, i < m → j < m → K i j ≤ zi (it (cl2 m) k d W) i j) ∧ cld m (zi (it (cl2 m) k d W)) := by
    intro d
    induction d with
    | zero =>
      intro k W C hk hC0 hC h1 h2 h3 h4
      rw [show k = m by omega] at hC h4
      exact ⟨⟨C, hC, h1⟩, h2, h3, fun i j l hi hj hl => h4 l hl i j hi hj⟩
    | succ d ih =>
      intro k W C hk hC0 hC h1 h2 h3 h4
      have hkm : k < m := by omega
      have k4 : k = 0 ∨ k = 1 ∨ k = 2 ∨ k = 3 ∨ k = 4 := by omega
      have p2 : (2 : Int) ^ k ≤ 16 := by rcases k4 with h | h | h | h | h <;> rw [h] <;> decide
      have pb : (2 : Int) ^ k * (B + 1) ≤ 16 * (B + 1) := Int.mul_le_mul_of_nonneg_right p2 (by omega)
      have ps : (2 : Int) ^ (k + 1) * (B + 1) = 2 * (2 ^ k * (B + 1)) := by rw [Int.pow_succ, Int.mul_comm (2 ^ k) 2, Int.mul_assoc]
      have dk : zi W k k = 1 := by
        have g1 := h2 k k hkm hkm
        have g2 := h3 L hL hLX k k hkm hkm
        rw [hL.2.1 k hkm] at g2
        rw [hd k hkm] at g1
        omega
      have rW : rg m 200000 (zi W) := fun i j hi hj => by
        rcases h1 i j hi hj with h | h
        · rw [h]; omega
        · omega
      have st : ∀ i j, i < m → j < m → zi (cl2 m k W) i j = fw k (zi W) i j := fun i j hi hj => cl2_zi hm hkm (by omega) (by omega) rW dk hi hj
      refine ih (k + 1) (cl2 m k W) (2 * C + 1) (by omega) (by omega) (by rw [ps]; omega) (fun i j hi hj => ?_) (fun i j hi hj => ?_) (fun K hK hKZ i j hi hj => ?_) (fun l hl i j hi hj => ?_)
      · rw [st i j hi hj]
        exact fw_fn hC0 hkm h1 hi hj
      · rw [st i j hi hj]
        have := h2 i j hi hj
        unfold fw
        omega
      · rw [st i j hi hj]
        have a1 := h3 K hK hKZ i j hi hj
        have a2 := hK.1 i j k hi hj hkm
        have lW : ∀ i j, i < m → j < m → zi W i j ≤ AN := fun i j hi hj => (rW i j hi hj).2
        have a3 := sm_mo (B := 100000) (hK.2.2 i k hi hkm) (hK.2.2 k j hkm hj) (by omega) (h3 K hK hKZ i k hi hkm) (h3 K hK hKZ k j hkm hj) (lW i k hi hkm) (lW k j hkm hj)
        unfold fw
        omega
      · have hlm : l < m := by omega
        rw [st i j hi hj, st i l hi hlm, st l j hlm hj]
        exact fw_step hC0 (by omega) hkm h1 dk h4 l hl i j hi hj
  have r := main m 0 Z B (by omega) h0 (by omega) hX (fun i j _ _ => Int.le_refl _) (fun K _ hKZ => hKZ) (fun l hl => by omega)
  obtain ⟨⟨C', hC', f1⟩, f2, f3, f4⟩ := r
  refine ⟨⟨f4, fun i hi => ?_, fun i j hi hj => ?_⟩, f2, f3⟩
  · have g1 := f2 i i hi hi
    have g2 := f3 L hL hLX i i hi hi
    rw [hL.2.1 i hi] at g2
    rw [hd i hi] at g1
    show zi (it (cl2 m) 0 m Z) i i = 1
    have e : zi (cl m Z) i i = zi (it (cl2 m) 0 m Z) i i := rfl
    omega
  · refine fn_mono (f1 i j hi hj) ?_
    have m5 : m = 0 ∨ m = 1 ∨ m = 2 ∨ m = 3 ∨ m = 4 ∨ m = 5 := by omega
    have p2 : (2 : Int) ^ m ≤ 32 := by rcases m5 with h | h | h | h | h | h <;> rw [h] <;> decide
    have pb : (2 : Int) ^ m * (B + 1) ≤ 32 * (B + 1) := Int.mul_le_mul_of_nonneg_right p2 (by omega)
    omega
