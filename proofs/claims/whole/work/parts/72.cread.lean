/-! the class's objects: what lives; reads; machines, places, ways, states by number -/
def LV (D : kD) (κ : kS) : Prop := WD D ∧ (∀ kd, kd < 10 → kd ≠ 6 → kd ≠ 7 → kI D kd 0) ∧ (∀ i, i < 2 * N (κ 3 0 0) + 2 → kI D 6 i ∧ kI D 7 i) ∧ (∀ m, m < N (κ 1 0 1) → kI D 10 m ∧ kI D 11 m ∧ kI D 12 m ∧ (∀ p, p < N (κ 10 m 2) → kI D 13 (6 * m + p) ∧ kI D 14 (6 * m + p) ∧ kI D 15 (6 * m + p)) ∧ ∀ w, w < N (κ 10 m 3) → kI D 16 (12 * m + w) ∧ kI D 17 (12 * m + w) ∧ kI D 18 (12 * m + w)) ∧ (∀ k, k < N (κ 3 0 0) → kI D 19 k ∧ kI D 20 k ∧ kI D 21 k) ∧ ∀ d, d < 8 → κ 9 0 d ≠ 0 → kI D 22 (N (κ 9 1 d)) ∧ kI D 23 (N (κ 9 1 d)) ∧ (κ 22 (N (κ 9 1 d)) 8 = 1 ∨ κ 22 (N (κ 9 1 d)) 8 = 2 → kI D 24 (N (κ 9 1 d)))
theorem LV.cg {D : kD} {κ κ' : kS} (h : LV D κ) (x : kxd κ κ') (h3 : κ' 3 0 0 = κ 3 0 0) : LV D κ' := by
  obtain ⟨x1, x9, x10, x22⟩ := x
  unfold LV at h ⊢
  simp only [x1, x9, x10, x22, h3]
  exact h
theorem LV.k1 {D : kD} {κ : kS} (h : LV D κ) : kI D 1 0 := h.2.1 1 (by decide) (by decide) (by decide)
theorem LV.z0 {D : kD} {κ : kS} (h : LV D κ) : kI D 6 0 ∧ kI D 7 0 := h.2.2.1 0 (by omega)
theorem LV.z1 {D : kD} {κ : kS} (h : LV D κ) : kI D 6 1 ∧ kI D 7 1 := h.2.2.1 1 (by omega)
theorem LV.zb {D : kD} {κ : kS} (h : LV D κ) {k : Nat} (hk : k < N (κ 3 0 0)) : kI D 6 (2 * k + 2) ∧ kI D 7 (2 * k + 2) := h.2.2.1 _ (by omega)
theorem LV.ze {D : kD} {κ : kS} (h : LV D κ) {k : Nat} (hk : k < N (κ 3 0 0)) : kI D 6 (2 * k + 3) ∧ kI D 7 (2 * k + 3) := h.2.2.1 _ (by omega)
section RD
variable {D : kD} {κ : kS} {x : Nat}
theorem rd0 (h : kI D 0 0) : kc (rn D κ) (D.1 0 0) 4 = true ∧ gq (rn D κ) (D.1 0 0) 4 0 = some (some (D.1 1 0)) ∧ gq (rn D κ) (D.1 0 0) 4 1 = some (some (D.1 6 1)) ∧ gq (rn D κ) (D.1 0 0) 4 2 = some (some (D.1 8 0)) ∧ gq (rn D κ) (D.1 0 0) 4 3 = some (some (D.1 9 0)) := by
  refine ⟨?_, ?_, ?_, ?_, ?_⟩
  · unfold kc; rw [rn_at h]; rfl
  · unfold gq; rw [rn_at h]; rfl
  · unfold gq; rw [rn_at h]; rfl
  · unfold gq; rw [rn_at h]; rfl
  · unfold gq; rw [rn_at h]; rfl
theorem rd1 (h : kI D 1 0) : kc (rn D κ) (D.1 1 0) 3 = true ∧ gi (rn D κ) (D.1 1 0) 3 1 = some (κ 1 0 1) ∧ gi (rn D κ) (D.1 1 0) 3 3 = some (κ 1 0 3) ∧ gi (rn D κ) (D.1 1 0) 3 4 = some (κ 1 0 4) ∧ gi (rn D κ) (D.1 1 0) 3 5 = some (κ 1 0 5) ∧ gi (rn D κ) (D.1 1 0) 3 6 = some (κ 1 0 6) ∧ gi (rn D κ) (D.1 1 0) 3 7 = some (κ 1 0 7) ∧ gi (rn D κ) (D.1 1 0) 3 8 = some (κ 1 0 8) ∧ gq (rn D κ) (D.1 1 0) 3 0 = some (some (D.1 2 0)) ∧ gq (rn D κ) (D.1 1 0) 3 2 = some (some (D.1 3 0)) ∧ gq (rn D κ) (D.1 1 0) 3 9 = some (some (D.1 4 0)) ∧ gq (rn D κ) (D.1 1 0) 3 10 = some (some (D.1 5 0)) ∧ gq (rn D κ) (D.1 1 0) 3 11 = some (some (D.1 6 0)) := by
  refine ⟨?_, ?_, ?_, ?_, ?_, ?_, ?_, ?_, ?_, ?_, ?_, ?_, ?_⟩
  · unfold kc; rw [rn_at h]; rfl
  · unfold gi; rw [rn_at h]; rfl
  · unfold gi; rw [rn_at h]; rfl
  · unfold gi; rw [rn_at h]; rfl
  · unfold gi; rw [rn_at h]; rfl
  · unfold gi; rw [rn_at h]; rfl
  · unfold gi; rw [rn_at h]; rfl
  · unfold gi; rw [rn_at h]; rfl
  · unfold gq; rw [rn_at h]; rfl
  · unfold gq; rw [rn_at h]; rfl
  · unfold gq; rw [rn_at h]; rfl
  · unfold gq; rw [rn_at h]; rfl
  · unfold gq; rw [rn_at h]; rfl
theorem rd10 (h : kI D 10 x) : kc (rn D κ) (D.1 10 x) 5 = true ∧ gi (rn D κ) (D.1 10 x) 5 2 = some (κ 10 x 2) ∧ gi (rn D κ) (D.1 10 x) 5 3 = some (κ 10 x 3) ∧ gq (rn D κ) (D.1 10 x) 5 0 = some (some (D.1 11 x)) ∧ gq (rn D κ) (D.1 10 x) 5 1 = some (some (D.1 12 x)) := by
  refine ⟨?_, ?_, ?_, ?_, ?_⟩
  · unfold kc; rw [rn_at h]; rfl
  · unfold gi; rw [rn_at h]; rfl
  · unfold gi; rw [rn_at h]; rfl
  · unfold gq; rw [rn_at h]; rfl
  · unfold gq; rw [rn_at h]; rfl
theorem rd13 (h : kI D 13 x) : kc (rn D κ) (D.1 13 x) 6 = true ∧ gi (rn D κ) (D.1 13 x) 6 2 = some (κ 13 x 2) ∧ gq (rn D κ) (D.1 13 x) 6 0 = some (some (D.1 14 x)) ∧ gq (rn D κ) (D.1 13 x) 6 1 = some (some (D.1 15 x)) := by
  refine ⟨?_, ?_, ?_, ?_⟩
  · unfold kc; rw [rn_at h]; rfl
  · unfold gi; rw [rn_at h]; rfl
  · unfold gq; rw [rn_at h]; rfl
  · unfold gq; rw [rn_at h]; rfl
theorem rd16 (h : kI D 16 x) : kc (rn D κ) (D.1 16 x) 7 = true ∧ gi (rn D κ) (D.1 16 x) 7 0 = some (κ 16 x 0) ∧ gi (rn D κ) (D.1 16 x) 7 1 = some (κ 16 x 1) ∧ gi (rn D κ) (D.1 16 x) 7 2 = some (κ 16 x 2) ∧ gi (rn D κ) (D.1 16 x) 7 3 = some (κ 16 x 3) ∧ gi (rn D κ) (D.1 16 x) 7 6 = some (κ 16 x 6) ∧ gq (rn D κ) (D.1 16 x) 7 4 = some (some (D.1 17 x)) ∧ gq (rn D κ) (D.1 16 x) 7 5 = some (some (D.1 18 x)) := by
  refine ⟨?_, ?_, ?_, ?_, ?_, ?_, ?_, ?_⟩
  · unfold kc; rw [rn_at h]; rfl
  · unfold gi; rw [rn_at h]; rfl
  · unfold gi; rw [rn_at h]; rfl
  · unfold gi; rw [rn_at h]; rfl
  · unfold gi; rw [rn_at h]; rfl
  · unfold gi; rw [rn_at h]; rfl
  · unfold gq; rw [rn_at h]; rfl
  · unfold gq; rw [rn_at h]; rfl
theorem rd19 (h : kI D 19 x) : kc (rn D κ) (D.1 19 x) 2 = true ∧ gi (rn D κ) (D.1 19 x) 2 0 = some (κ 19 x 0) ∧ gi (rn D κ) (D.1 19 x) 2 5 = some (κ 19 x 5) ∧ gi (rn D κ) (D.1 19 x) 2 6 = some (κ 19 x 6) ∧ gi (rn D κ) (D.1 19 x) 2 7 = some (κ 19 x 7) ∧ gi (rn D κ) (D.1 19 x) 2 8 = some (κ 19 x 8) ∧ gi (rn D κ) (D.1 19 x) 2 9 = some (κ 19 x 9) ∧ gi (rn D κ) (D.1 19 x) 2 10 = some (κ 19 x 10) ∧ gi (rn D κ) (D.1 19 x) 2 11 = some (κ 19 x 11) ∧ gq (rn D κ) (D.1 19 x) 2 1 = some (some (D.1 20 x)) ∧ gq (rn D κ) (D.1 19 x) 2 2 = some (some (D.1 21 x)) ∧ gq (rn D κ) (D.1 19 x) 2 3 = some (some (D.1 6 (2 * x + 2))) ∧ gq (rn D κ) (D.1 19 x) 2 4 = some (some (D.1 6 (2 * x + 3))) := by
  refine ⟨?_, ?_, ?_, ?_, ?_, ?_, ?_, ?_, ?_, ?_, ?_, ?_, ?_⟩
  · unfold kc; rw [rn_at h]; rfl
  · unfold gi; rw [rn_at h]; rfl
  · unfold gi; rw [rn_at h]; rfl
  · unfold gi; rw [rn_at h]; rfl
  · unfold gi; rw [rn_at h]; rfl
  · unfold gi; rw [rn_at h]; rfl
  · unfold gi; rw [rn_at h]; rfl
  · unfold gi; rw [rn_at h]; rfl
  · unfold gi; rw [rn_at h]; rfl
  · unfold gq; rw [rn_at h]; rfl
  · unfold gq; rw [rn_at h]; rfl
  · unfold gq; rw [rn_at h]; rfl
  · unfold gq; rw [rn_at h]; rfl
theorem rd6 (h : kI D 6 x) : kc (rn D κ) (D.1 6 x) 1 = true ∧ gi (rn D κ) (D.1 6 x) 1 2 = some (κ 6 x 2) ∧ gq (rn D κ) (D.1 6 x) 1 1 = some (some (D.1 7 x)) := by
  refine ⟨?_, ?_, ?_⟩
  · unfold kc; rw [rn_at h]; rfl
  · unfold gi; rw [rn_at h]; rfl
  · unfold gq; rw [rn_at h]; rfl
theorem kra4 (h : kI D 4 x) {i : Nat} (hi : i < 4) : ai (rn D κ) (D.1 4 x) 0 (J i) = some (κ 4 x i) := rn_ai h (fun _ => rfl) hi (by decide)
theorem krl4 (h : kI D 4 x) : al (rn D κ) (D.1 4 x) 0 = some (J 4) := rn_al h (fun _ => rfl)
theorem krp4 (hD : WD D) (h : kI D 4 x) {i : Nat} (hi : i < 4) (v : Int32) : pa (rn D κ) (D.1 4 x) 0 (J i) v = some (rn D (ku κ 4 x i v)) := rn_pa hD h (fun _ => rfl) hi (by decide) (by decide) (by decide) (by decide) (by decide)
theorem kra5 (h : kI D 5 x) {i : Nat} (hi : i < 3) : ai (rn D κ) (D.1 5 x) 0 (J i) = some (κ 5 x i) := rn_ai h (fun _ => rfl) hi (by decide)
theorem krl5 (h : kI D 5 x) : al (rn D κ) (D.1 5 x) 0 = some (J 3) := rn_al h (fun _ => rfl)
theorem krp5 (hD : WD D) (h : kI D 5 x) {i : Nat} (hi : i < 3) (v : Int32) : pa (rn D κ) (D.1 5 x) 0 (J i) v = some (rn D (ku κ 5 x i v)) := rn_pa hD h (fun _ => rfl) hi (by decide) (by decide) (by decide) (by decide) (by decide)
theorem kra8 (h : kI D 8 x) {i : Nat} (hi : i < 4) : ai (rn D κ) (D.1 8 x) 0 (J i) = some (κ 8 x i) := rn_ai h (fun _ => rfl) hi (by decide)
theorem krl8 (h : kI D 8 x) : al (rn D κ) (D.1 8 x) 0 = some (J 4) := rn_al h (fun _ => rfl)
theorem krp8 (hD : WD D) (h : kI D 8 x) {i : Nat} (hi : i < 4) (v : Int32) : pa (rn D κ) (D.1 8 x) 0 (J i) v = some (rn D (ku κ 8 x i v)) := rn_pa hD h (fun _ => rfl) hi (by decide) (by decide) (by decide) (by decide) (by decide)
theorem kra14 (h : kI D 14 x) {i : Nat} (hi : i < 2) : ai (rn D κ) (D.1 14 x) 0 (J i) = some (κ 14 x i) := rn_ai h (fun _ => rfl) hi (by decide)
theorem krl14 (h : kI D 14 x) : al (rn D κ) (D.1 14 x) 0 = some (J 2) := rn_al h (fun _ => rfl)
theorem krp14 (hD : WD D) (h : kI D 14 x) {i : Nat} (hi : i < 2) (v : Int32) : pa (rn D κ) (D.1 14 x) 0 (J i) v = some (rn D (ku κ 14 x i v)) := rn_pa hD h (fun _ => rfl) hi (by decide) (by decide) (by decide) (by decide) (by decide)
theorem kra15 (h : kI D 15 x) {i : Nat} (hi : i < 2) : ai (rn D κ) (D.1 15 x) 0 (J i) = some (κ 15 x i) := rn_ai h (fun _ => rfl) hi (by decide)
theorem krl15 (h : kI D 15 x) : al (rn D κ) (D.1 15 x) 0 = some (J 2) := rn_al h (fun _ => rfl)
theorem krp15 (hD : WD D) (h : kI D 15 x) {i : Nat} (hi : i < 2) (v : Int32) : pa (rn D κ) (D.1 15 x) 0 (J i) v = some (rn D (ku κ 15 x i v)) := rn_pa hD h (fun _ => rfl) hi (by decide) (by decide) (by decide) (by decide) (by decide)
theorem kra17 (h : kI D 17 x) {i : Nat} (hi : i < 3) : ai (rn D κ) (D.1 17 x) 0 (J i) = some (κ 17 x i) := rn_ai h (fun _ => rfl) hi (by decide)
theorem krl17 (h : kI D 17 x) : al (rn D κ) (D.1 17 x) 0 = some (J 3) := rn_al h (fun _ => rfl)
theorem krp17 (hD : WD D) (h : kI D 17 x) {i : Nat} (hi : i < 3) (v : Int32) : pa (rn D κ) (D.1 17 x) 0 (J i) v = some (rn D (ku κ 17 x i v)) := rn_pa hD h (fun _ => rfl) hi (by decide) (by decide) (by decide) (by decide) (by decide)
theorem kra18 (h : kI D 18 x) {i : Nat} (hi : i < 3) : ai (rn D κ) (D.1 18 x) 0 (J i) = some (κ 18 x i) := rn_ai h (fun _ => rfl) hi (by decide)
theorem krl18 (h : kI D 18 x) : al (rn D κ) (D.1 18 x) 0 = some (J 3) := rn_al h (fun _ => rfl)
theorem krp18 (hD : WD D) (h : kI D 18 x) {i : Nat} (hi : i < 3) (v : Int32) : pa (rn D κ) (D.1 18 x) 0 (J i) v = some (rn D (ku κ 18 x i v)) := rn_pa hD h (fun _ => rfl) hi (by decide) (by decide) (by decide) (by decide) (by decide)
theorem kra20 (h : kI D 20 x) {i : Nat} (hi : i < 3) : ai (rn D κ) (D.1 20 x) 0 (J i) = some (κ 20 x i) := rn_ai h (fun _ => rfl) hi (by decide)
theorem krl20 (h : kI D 20 x) : al (rn D κ) (D.1 20 x) 0 = some (J 3) := rn_al h (fun _ => rfl)
theorem krp20 (hD : WD D) (h : kI D 20 x) {i : Nat} (hi : i < 3) (v : Int32) : pa (rn D κ) (D.1 20 x) 0 (J i) v = some (rn D (ku κ 20 x i v)) := rn_pa hD h (fun _ => rfl) hi (by decide) (by decide) (by decide) (by decide) (by decide)
theorem kra21 (h : kI D 21 x) {i : Nat} (hi : i < 4) : ai (rn D κ) (D.1 21 x) 0 (J i) = some (κ 21 x i) := rn_ai h (fun _ => rfl) hi (by decide)
theorem krl21 (h : kI D 21 x) : al (rn D κ) (D.1 21 x) 0 = some (J 4) := rn_al h (fun _ => rfl)
theorem krp21 (hD : WD D) (h : kI D 21 x) {i : Nat} (hi : i < 4) (v : Int32) : pa (rn D κ) (D.1 21 x) 0 (J i) v = some (rn D (ku κ 21 x i v)) := rn_pa hD h (fun _ => rfl) hi (by decide) (by decide) (by decide) (by decide) (by decide)
theorem rw1_3 (hD : WD D) (h : kI D 1 0) (v : Int32) : pf (rn D κ) (D.1 1 0) 3 3 (.int v) = some (rn D (ku κ 1 0 3 v)) := rn_pf hD h rfl (by show 3 < 12; decide) (by simp only [kcl, kf_e]; rfl) (by decide) (by decide) (by decide) (fun _ => by decide)
theorem rw1_4 (hD : WD D) (h : kI D 1 0) (v : Int32) : pf (rn D κ) (D.1 1 0) 3 4 (.int v) = some (rn D (ku κ 1 0 4 v)) := rn_pf hD h rfl (by show 4 < 12; decide) (by simp only [kcl, kf_e]; rfl) (by decide) (by decide) (by decide) (fun _ => by decide)
theorem rw1_5 (hD : WD D) (h : kI D 1 0) (v : Int32) : pf (rn D κ) (D.1 1 0) 3 5 (.int v) = some (rn D (ku κ 1 0 5 v)) := rn_pf hD h rfl (by show 5 < 12; decide) (by simp only [kcl, kf_e]; rfl) (by decide) (by decide) (by decide) (fun _ => by decide)
theorem rw1_6 (hD : WD D) (h : kI D 1 0) (v : Int32) : pf (rn D κ) (D.1 1 0) 3 6 (.int v) = some (rn D (ku κ 1 0 6 v)) := rn_pf hD h rfl (by show 6 < 12; decide) (by simp only [kcl, kf_e]; rfl) (by decide) (by decide) (by decide) (fun _ => by decide)
theorem rw1_7 (hD : WD D) (h : kI D 1 0) (v : Int32) : pf (rn D κ) (D.1 1 0) 3 7 (.int v) = some (rn D (ku κ 1 0 7 v)) := rn_pf hD h rfl (by show 7 < 12; decide) (by simp only [kcl, kf_e]; rfl) (by decide) (by decide) (by decide) (fun _ => by decide)
theorem rw1_8 (hD : WD D) (h : kI D 1 0) (v : Int32) : pf (rn D κ) (D.1 1 0) 3 8 (.int v) = some (rn D (ku κ 1 0 8 v)) := rn_pf hD h rfl (by show 8 < 12; decide) (by simp only [kcl, kf_e]; rfl) (by decide) (by decide) (by decide) (fun _ => by decide)
theorem rw13_2 (hD : WD D) (h : kI D 13 x) (v : Int32) : pf (rn D κ) (D.1 13 x) 6 2 (.int v) = some (rn D (ku κ 13 x 2 v)) := rn_pf hD h rfl (by show 2 < 3; decide) (by simp only [kcl, kf_e]; rfl) (by decide) (by decide) (by decide) (fun t => absurd t (by decide))
theorem rw16_6 (hD : WD D) (h : kI D 16 x) (v : Int32) : pf (rn D κ) (D.1 16 x) 7 6 (.int v) = some (rn D (ku κ 16 x 6 v)) := rn_pf hD h rfl (by show 6 < 7; decide) (by simp only [kcl, kf_e]; rfl) (by decide) (by decide) (by decide) (fun t => absurd t (by decide))
theorem rw19_5 (hD : WD D) (h : kI D 19 x) (v : Int32) : pf (rn D κ) (D.1 19 x) 2 5 (.int v) = some (rn D (ku κ 19 x 5 v)) := rn_pf hD h rfl (by show 5 < 12; decide) (by simp only [kcl, kf_e]; rfl) (by decide) (by decide) (by decide) (fun t => absurd t (by decide))
theorem rw19_6 (hD : WD D) (h : kI D 19 x) (v : Int32) : pf (rn D κ) (D.1 19 x) 2 6 (.int v) = some (rn D (ku κ 19 x 6 v)) := rn_pf hD h rfl (by show 6 < 12; decide) (by simp only [kcl, kf_e]; rfl) (by decide) (by decide) (by decide) (fun t => absurd t (by decide))
theorem rw19_7 (hD : WD D) (h : kI D 19 x) (v : Int32) : pf (rn D κ) (D.1 19 x) 2 7 (.int v) = some (rn D (ku κ 19 x 7 v)) := rn_pf hD h rfl (by show 7 < 12; decide) (by simp only [kcl, kf_e]; rfl) (by decide) (by decide) (by decide) (fun t => absurd t (by decide))
theorem rw19_8 (hD : WD D) (h : kI D 19 x) (v : Int32) : pf (rn D κ) (D.1 19 x) 2 8 (.int v) = some (rn D (ku κ 19 x 8 v)) := rn_pf hD h rfl (by show 8 < 12; decide) (by simp only [kcl, kf_e]; rfl) (by decide) (by decide) (by decide) (fun t => absurd t (by decide))
theorem rw19_9 (hD : WD D) (h : kI D 19 x) (v : Int32) : pf (rn D κ) (D.1 19 x) 2 9 (.int v) = some (rn D (ku κ 19 x 9 v)) := rn_pf hD h rfl (by show 9 < 12; decide) (by simp only [kcl, kf_e]; rfl) (by decide) (by decide) (by decide) (fun t => absurd t (by decide))
theorem rw19_10 (hD : WD D) (h : kI D 19 x) (v : Int32) : pf (rn D κ) (D.1 19 x) 2 10 (.int v) = some (rn D (ku κ 19 x 10 v)) := rn_pf hD h rfl (by show 10 < 12; decide) (by simp only [kcl, kf_e]; rfl) (by decide) (by decide) (by decide) (fun t => absurd t (by decide))
theorem rw19_11 (hD : WD D) (h : kI D 19 x) (v : Int32) : pf (rn D κ) (D.1 19 x) 2 11 (.int v) = some (rn D (ku κ 19 x 11 v)) := rn_pf hD h rfl (by show 11 < 12; decide) (by simp only [kcl, kf_e]; rfl) (by decide) (by decide) (by decide) (fun t => absurd t (by decide))
theorem rw6_2 (hD : WD D) (h : kI D 6 x) (v : Int32) : pf (rn D κ) (D.1 6 x) 1 2 (.int v) = some (rn D (ku κ 6 x 2 v)) := rn_pf hD h rfl (by show 2 < 3; decide) (by simp only [kcl, kf_e]; rfl) (by decide) (by decide) (by decide) (fun t => absurd t (by decide))
/-- a zone's change shows nowhere else -/
theorem kz_v (κ : kS) (ix : Nat) (q : zQ) : (∀ y, kz κ ix q 1 y = κ 1 y) ∧ (∀ y, kz κ ix q 3 y = κ 3 y) ∧ (∀ y, kz κ ix q 4 y = κ 4 y) ∧ (∀ y, kz κ ix q 5 y = κ 5 y) ∧ (∀ y, kz κ ix q 8 y = κ 8 y) ∧ (∀ y, kz κ ix q 9 y = κ 9 y) ∧ (∀ y, kz κ ix q 10 y = κ 10 y) ∧ (∀ y, kz κ ix q 13 y = κ 13 y) ∧ (∀ y, kz κ ix q 14 y = κ 14 y) ∧ (∀ y, kz κ ix q 15 y = κ 15 y) ∧ (∀ y, kz κ ix q 16 y = κ 16 y) ∧ (∀ y, kz κ ix q 17 y = κ 17 y) ∧ (∀ y, kz κ ix q 18 y = κ 18 y) ∧ (∀ y, kz κ ix q 19 y = κ 19 y) ∧ (∀ y, kz κ ix q 20 y = κ 20 y) ∧ (∀ y, kz κ ix q 21 y = κ 21 y) ∧ (∀ y, kz κ ix q 22 y = κ 22 y) ∧ (∀ y, kz κ ix q 23 y = κ 23 y) ∧ (∀ y, kz κ ix q 24 y = κ 24 y) := ⟨fun _ => kz_k (by decide) (by decide), fun _ => kz_k (by decide) (by decide), fun _ => kz_k (by decide) (by decide), fun _ => kz_k (by decide) (by decide), fun _ => kz_k (by decide) (by decide), fun _ => kz_k (by decide) (by decide), fun _ => kz_k (by decide) (by decide), fun _ => kz_k (by decide) (by decide), fun _ => kz_k (by decide) (by decide), fun _ => kz_k (by decide) (by decide), fun _ => kz_k (by decide) (by decide), fun _ => kz_k (by decide) (by decide), fun _ => kz_k (by decide) (by decide), fun _ => kz_k (by decide) (by decide), fun _ => kz_k (by decide) (by decide), fun _ => kz_k (by decide) (by decide), fun _ => kz_k (by decide) (by decide), fun _ => kz_k (by decide) (by decide), fun _ => kz_k (by decide) (by decide)⟩
theorem i_out {y c : Int32} {B : Nat} (hc : sml c B) (hB : B < 2147483648) (h : ∀ m, m < N c → y ≠ J m) : y < 0 ∨ c ≤ y := by
  by_cases h0 : y < 0
  · exact Or.inl h0
  · right
    have hy : y = J (N y) := J_of (by rw [i32_le]; rw [i32_lt] at h0; have : (0 : Int32).toInt = 0 := by decide
                                      omega)
    by_cases hl : N y < N c
    · exact absurd hy (h _ hl)
    · have hyb : N y < 2147483648 := by
        have := Int32.toInt_lt y
        have e := Int32.toNat_toInt y
        show Int32.toNatClampNeg y < _
        omega
      rw [hc.1, hy, J_le (by have := hc.2; omega) hyb]
      omega
theorem machineAt_in (h : LV D κ) (hc : sml (κ 1 0 1) 3) {m : Nat} (hm : m < N (κ 1 0 1)) (n : Nat) : Ya_machineAt_f n (D.1 1 0) (J m) (rn D κ) = some (some (D.1 10 m), rn D κ) := by
  have hb := hc.2
  unfold Ya_machineAt_f
  rw [if_neg (J_nneg (by omega))]
  simp only [rd1 h.k1, obd]
  rw [if_neg (sml_nle hc (by omega) hm), if_neg (by rw [J3, J_le (by omega) (by omega)]; omega), rn_aq (h.2.1 2 (by decide) (by decide) (by decide)) rfl (show m < 3 by omega) (by decide)]
  dsimp only
  rw [if_pos hm]
theorem machineAt_out (h : LV D κ) (hc : sml (κ 1 0 1) 3) {y : Int32} (hm : ∀ m, m < N (κ 1 0 1) → y ≠ J m) (n : Nat) : Ya_machineAt_f n (D.1 1 0) y (rn D κ) = some (none, rn D κ) := by
  unfold Ya_machineAt_f
  simp only [rd1 h.k1, obd]
  rcases i_out hc (by omega) hm with a | a
  · rw [if_pos a]
  · rw [if_pos a]
    split <;> rfl
theorem placeAt_in (h : LV D κ) (hc : sml (κ 1 0 1) 3) {m p : Nat} (hm : m < N (κ 1 0 1)) (hp : sml (κ 10 m 2) 6) (hpp : p < N (κ 10 m 2)) (n : Nat) : Ya_placeAt_f n (D.1 1 0) (J m) (J p) (rn D κ) = some (some (D.1 13 (6 * m + p)), rn D κ) := by
  have hb := hp.2
  have lm := h.2.2.2.1 m hm
  unfold Ya_placeAt_f
  rw [if_pos (rd1 h.k1).1, machineAt_in h hc hm]
  simp only [obd, bnd, oel, rd10 lm.1]
  rw [if_neg (J_nneg (by omega)), if_neg (sml_nle hp (by omega) hpp), if_pos (by rw [J6, J_lt (by omega) (by omega)]; omega), rn_aq lm.2.1 rfl (show p < 6 by omega) (by decide)]
  dsimp only
  rw [if_pos hpp]
theorem placeAt_om (h : LV D κ) (hc : sml (κ 1 0 1) 3) {y : Int32} (hm : ∀ m, m < N (κ 1 0 1) → y ≠ J m) (n : Nat) (w : Int32) : Ya_placeAt_f n (D.1 1 0) y w (rn D κ) = some (none, rn D κ) := by
  unfold Ya_placeAt_f
  rw [if_pos (rd1 h.k1).1, machineAt_out h hc hm]
  rfl
theorem placeAt_op (h : LV D κ) (hc : sml (κ 1 0 1) 3) {m : Nat} (hm : m < N (κ 1 0 1)) (hp : sml (κ 10 m 2) 6) {y : Int32} (hy : ∀ p, p < N (κ 10 m 2) → y ≠ J p) (n : Nat) : Ya_placeAt_f n (D.1 1 0) (J m) y (rn D κ) = some (none, rn D κ) := by
  have lm := h.2.2.2.1 m hm
  unfold Ya_placeAt_f
  rw [if_pos (rd1 h.k1).1, machineAt_in h hc hm]
  simp only [obd, bnd, oel, rd10 lm.1]
  rcases i_out hp (by omega) hy with a | a
  · rw [if_pos a]
  · rw [if_pos a]
    split <;> rfl
theorem wayAt_in (h : LV D κ) (hc : sml (κ 1 0 1) 3) {m p : Nat} (hm : m < N (κ 1 0 1)) (hp : sml (κ 10 m 3) 12) (hpp : p < N (κ 10 m 3)) (n : Nat) : Ya_wayAt_f n (D.1 1 0) (J m) (J p) (rn D κ) = some (some (D.1 16 (12 * m + p)), rn D κ) := by
  have hb := hp.2
  have lm := h.2.2.2.1 m hm
  unfold Ya_wayAt_f
  rw [if_pos (rd1 h.k1).1, machineAt_in h hc hm]
  simp only [obd, bnd, oel, rd10 lm.1]
  rw [if_neg (J_nneg (by omega)), if_neg (sml_nle hp (by omega) hpp), if_pos (by rw [J12, J_lt (by omega) (by omega)]; omega), rn_aq lm.2.2.1 rfl (show p < 12 by omega) (by decide)]
  dsimp only
  rw [if_pos hpp]
theorem wayAt_om (h : LV D κ) (hc : sml (κ 1 0 1) 3) {y : Int32} (hm : ∀ m, m < N (κ 1 0 1) → y ≠ J m) (n : Nat) (w : Int32) : Ya_wayAt_f n (D.1 1 0) y w (rn D κ) = some (none, rn D κ) := by
  unfold Ya_wayAt_f
  rw [if_pos (rd1 h.k1).1, machineAt_out h hc hm]
  rfl
theorem wayAt_op (h : LV D κ) (hc : sml (κ 1 0 1) 3) {m : Nat} (hm : m < N (κ 1 0 1)) (hp : sml (κ 10 m 3) 12) {y : Int32} (hy : ∀ p, p < N (κ 10 m 3) → y ≠ J p) (n : Nat) : Ya_wayAt_f n (D.1 1 0) (J m) y (rn D κ) = some (none, rn D κ) := by
  have lm := h.2.2.2.1 m hm
  unfold Ya_wayAt_f
  rw [if_pos (rd1 h.k1).1, machineAt_in h hc hm]
  simp only [obd, bnd, oel, rd10 lm.1]
  rcases i_out hp (by omega) hy with a | a
  · rw [if_pos a]
  · rw [if_pos a]
    split <;> rfl
theorem stateAt_in (h : LV D κ) (hc : sml (κ 1 0 3) 200) (hle : N (κ 1 0 3) ≤ N (κ 3 0 0)) {k : Nat} (hk : k < N (κ 1 0 3)) (n : Nat) : Ya_stateAt_f n (D.1 1 0) (J k) (rn D κ) = some (some (D.1 19 k), rn D κ) := by
  have hb := hc.2
  unfold Ya_stateAt_f
  rw [if_neg (J_nneg (by omega))]
  simp only [rd1 h.k1, obd]
  rw [if_neg (sml_nle hc (by omega) hk), if_neg (by rw [show (200 : Int32) = J 200 from rfl, J_le (by omega) (by omega)]; omega), rn_aq (h.2.1 3 (by decide) (by decide) (by decide)) rfl (show k < 200 by omega) (by decide)]
  dsimp only
  rw [if_pos (by omega)]
theorem stateAt_out (h : LV D κ) (hc : sml (κ 1 0 3) 200) {y : Int32} (hm : ∀ m, m < N (κ 1 0 3) → y ≠ J m) (n : Nat) : Ya_stateAt_f n (D.1 1 0) y (rn D κ) = some (none, rn D κ) := by
  unfold Ya_stateAt_f
  simp only [rd1 h.k1, obd]
  rcases i_out hc (by omega) hm with a | a
  · rw [if_pos a]
  · rw [if_pos a]
    split <;> rfl
end RD
