/-! THE LAW: its own methods that catch -/
theorem bound_cd {n o : Nat} {x1 x2 x3 : Int32} {h : xH} {R : Int32 × Nat × xH} (hR : Ti_bound_f n o x1 x2 x3 h = some R) : R.2.1 ≤ 1 := by
  unfold Ti_bound_f at hR
  obtain ⟨w1, -, hR⟩ := o_bind hR
  obtain ⟨a6, -, hR⟩ := o_bind hR
  obtain ⟨-, hR⟩ := o_if hR
  obtain ⟨r7, -, hR⟩ := o_bind hR
  obtain ⟨w8, -, hR⟩ := b_bnd hR
  cases w8 with
  | none =>
    rw [oel_n] at hR
    cases hR
    exact Nat.le_refl 1
  | some a =>
    rw [oel_s] at hR
    obtain ⟨r12, -, hR⟩ := o_bind hR
    split at hR
    · cases hR
      exact Nat.le_refl 1
    · obtain ⟨r14, -, hR⟩ := o_bind hR
      split at hR
      · cases hR
        exact Nat.le_refl 1
      · obtain ⟨w16, -, hR⟩ := o_bind hR
        obtain ⟨a21, -, hR⟩ := o_bind hR
        obtain ⟨-, hR⟩ := o_if hR
        obtain ⟨r22, -, hR⟩ := o_bind hR
        cases hR
        exact Nat.zero_le 1
theorem handBound_cd {n o : Nat} {x1 x2 : Int32} {h : xH} {R : Int32 × Nat × xH} (hR : Ti_handBound_f n o x1 x2 h = some R) : R.2.1 ≤ 1 := by
  unfold Ti_handBound_f at hR
  obtain ⟨r1, -, hR⟩ := o_bind hR
  split at hR
  · cases hR
    exact Nat.le_refl 1
  · obtain ⟨r3, -, hR⟩ := o_bind hR
    split at hR
    · cases hR
      exact Nat.le_refl 1
    · obtain ⟨w5, -, hR⟩ := o_bind hR
      obtain ⟨a10, -, hR⟩ := o_bind hR
      obtain ⟨u11, -, hR⟩ := o_bind hR
      split at hR
      · obtain ⟨w17, -, hR⟩ := o_bind hR
        obtain ⟨a22, -, hR⟩ := o_bind hR
        obtain ⟨-, hR⟩ := o_if hR
        obtain ⟨r23, -, hR⟩ := o_bind hR
        cases hR
        exact Nat.zero_le 1
      · cases hR
        exact Nat.zero_le 1
section LO
variable {D : kD} {κ : kS} {w : Nat}
theorem out_ev {h : xH} (hw : ∃ f, h w = some (.inl (1, 1, .inr (.inl f)))) (v : Int64) : ∃ H f, pl h w 0 v = some H ∧ (∀ a, a ≠ w → H a = h a) ∧ H w = some (.inl (1, 1, .inr (.inl f))) ∧ f 0 = v := by
  obtain ⟨f, hf⟩ := hw
  refine ⟨xup h w (.inl (1, 1, .inr (.inl (vp_updL f 0 v)))), vp_updL f 0 v, ?_, fun a ha => xup_ne ha, xup_eq, ?_⟩
  · unfold pl
    rw [hf]
    dsimp only
    rw [if_pos rfl, if_pos (by decide)]
    rfl
  · unfold vp_updL
    exact if_pos rfl
theorem L_bound_ev (k0 : kI D 0 0) (hw : ∃ f, rn D κ w = some (.inl (1, 1, .inr (.inl f)))) {n cd : Nat} {v a1 a2 a3 : Int32} (e1 : Ti_bound_f n (D.1 0 0) a1 a2 a3 (rn D κ) = some (v, cd, rn D κ)) : ∃ H f, L_bound_f n (some (D.1 0 0)) a1 a2 a3 (some w) (rn D κ) = some (J cd, H) ∧ (∀ a, a ≠ w → H a = rn D κ a) ∧ H w = some (.inl (1, 1, .inr (.inl f))) ∧ (cd = 0 → f 0 = Int32.toInt64 v) := by
  have c1 : cd ≤ 1 := bound_cd e1
  unfold L_bound_f
  simp only [obd]
  rw [if_pos (rd0 k0).1, e1]
  dsimp only
  by_cases g : cd = 0
  · subst g
    obtain ⟨H, f, p1, p2, p3, p4⟩ := out_ev hw (Int32.toInt64 v)
    refine ⟨H, f, ?_, p2, p3, fun _ => p4⟩
    rw [if_pos rfl, p1]
    rfl
  · obtain ⟨f, hf⟩ := hw
    have e : cd = 1 := by omega
    subst e
    exact ⟨rn D κ, f, by rw [if_neg (by decide), if_pos rfl]; rfl, fun _ _ => rfl, hf, fun t => absurd t (by decide)⟩
theorem L_handBound_ev (k0 : kI D 0 0) (hw : ∃ f, rn D κ w = some (.inl (1, 1, .inr (.inl f)))) {n cd : Nat} {v a1 a2 : Int32} (e1 : Ti_handBound_f n (D.1 0 0) a1 a2 (rn D κ) = some (v, cd, rn D κ)) : ∃ H f, L_handBound_f n (some (D.1 0 0)) a1 a2 (some w) (rn D κ) = some (J cd, H) ∧ (∀ a, a ≠ w → H a = rn D κ a) ∧ H w = some (.inl (1, 1, .inr (.inl f))) ∧ (cd = 0 → f 0 = Int32.toInt64 v) := by
  have c1 : cd ≤ 1 := handBound_cd e1
  unfold L_handBound_f
  simp only [obd]
  rw [if_pos (rd0 k0).1, e1]
  dsimp only
  by_cases g : cd = 0
  · subst g
    obtain ⟨H, f, p1, p2, p3, p4⟩ := out_ev hw (Int32.toInt64 v)
    refine ⟨H, f, ?_, p2, p3, fun _ => p4⟩
    rw [if_pos rfl, p1]
    rfl
  · obtain ⟨f, hf⟩ := hw
    have e : cd = 1 := by omega
    subst e
    exact ⟨rn D κ, f, by rw [if_neg (by decide), if_pos rfl]; rfl, fun _ _ => rfl, hf, fun t => absurd t (by decide)⟩
theorem L_element_ev (k0 : kI D 0 0) (hw : ∃ f, rn D κ w = some (.inl (1, 1, .inr (.inl f)))) {n cd : Nat} {v : Int64} {a1 a2 : Int32} (c2 : cd ≤ 2) (e1 : Ti_element_f n (D.1 0 0) a1 a2 (rn D κ) = some (v, cd, rn D κ)) : ∃ H f, L_element_f n (some (D.1 0 0)) a1 a2 (some w) (rn D κ) = some (J cd, H) ∧ (∀ a, a ≠ w → H a = rn D κ a) ∧ H w = some (.inl (1, 1, .inr (.inl f))) ∧ (cd = 0 → f 0 = v) := by
  unfold L_element_f
  simp only [obd]
  rw [if_pos (rd0 k0).1, e1]
  dsimp only
  by_cases g : cd = 0
  · subst g
    obtain ⟨H, f, p1, p2, p3, p4⟩ := out_ev hw v
    refine ⟨H, f, ?_, p2, p3, fun _ => p4⟩
    rw [if_pos rfl, p1]
    rfl
  · obtain ⟨f, hf⟩ := hw
    by_cases g1 : cd = 1
    · subst g1
      exact ⟨rn D κ, f, by rw [if_neg (by decide), if_pos rfl]; rfl, fun _ _ => rfl, hf, fun t => absurd t (by decide)⟩
    · have e : cd = 2 := by omega
      subst e
      exact ⟨rn D κ, f, by rw [if_neg (by decide), if_neg (by decide), if_pos rfl]; rfl, fun _ _ => rfl, hf, fun t => absurd t (by decide)⟩
theorem Mo_w {r z z' : Nat} {ad : Nat → Nat} {h H : xH} {σ : mS} {τ : mL} (hM : Mo (r, ad, h, z) σ τ h) (hH : ∀ a, a ≠ w → H a = h a) (hne : w ≠ r ∧ ∀ k p, mk k = some p → w ≠ ad k) : Mo (r, ad, H, z') σ τ H := by
  refine ⟨?_, fun k kd m hk => ?_, hM.2.2.1, fun _ _ _ => rfl⟩
  · show H r = _
    rw [hH r (Ne.symm hne.1)]
    exact hM.1
  · show H (ad k) = _
    rw [hH (ad k) (Ne.symm (hne.2 k _ hk))]
    exact hM.2.1 k kd m hk
end LO
