/-! three new cells; place: class and reference -/
theorem kcl_cg' {D : kD} {κ κ' : kS} {k i : Nat} (h : κ' k i = κ k i) (h1 : k = 2 → κ' 1 0 1 = κ 1 0 1) (h9 : k = 9 → κ' 9 = κ 9) (h11 : k = 11 → κ' 10 i 2 = κ 10 i 2) (h12 : k = 12 → κ' 10 i 3 = κ 10 i 3) (h22 : k = 23 ∨ k = 24 → κ' 22 i = κ 22 i) : kcl D κ' k i = kcl D κ k i := by
  unfold kcl heA heB
  split
  all_goals first
    | rfl
    | (simp only [h]; done)
    | (rw [h1 rfl])
    | (rw [h9 rfl])
    | (rw [h11 rfl])
    | (rw [h12 rfl])
    | (rw [h22 (Or.inl rfl), h])
    | (rw [h22 (Or.inr rfl), h])
theorem rn_eq {D : kD} {κ κ' : kS} (h : ∀ a q, D.2.1 a = some q → kcl D κ' q.1 q.2 = kcl D κ q.1 q.2) : rn D κ' = rn D κ := by
  funext a
  unfold rn
  cases hi : D.2.1 a with
  | none => rfl
  | some q => exact h a q hi
theorem rn_put2 {D : kD} {κ κ' : kS} {k1 i1 k2 i2 : Nat} {e1 e2 : xE} (hD : WD D) (hI1 : kI D k1 i1) (hI2 : kI D k2 i2) (hne : ¬ (k1 = k2 ∧ i1 = i2)) (he1 : kcl D κ' k1 i1 = some e1) (he2 : kcl D κ' k2 i2 = some e2) (ho : ∀ a k i, D.2.1 a = some (k, i) → ¬ (k = k1 ∧ i = i1) → ¬ (k = k2 ∧ i = i2) → kcl D κ' k i = kcl D κ k i) : xup (xup (rn D κ) (D.1 k1 i1) e1) (D.1 k2 i2) e2 = rn D κ' := by
  have nab := kI_ne hI1 hI2 hne
  funext a
  unfold xup
  by_cases h2 : a = D.1 k2 i2
  · rw [if_pos h2, h2, rn_at hI2, he2]
  · rw [if_neg h2]
    by_cases h1 : a = D.1 k1 i1
    · rw [if_pos h1, h1, rn_at hI1, he1]
    · rw [if_neg h1]
      unfold rn
      cases hi : D.2.1 a with
      | none => rfl
      | some q =>
        refine (ho a q.1 q.2 hi (fun t => h1 ?_) (fun t => h2 ?_)).symm
        · rw [← hD a q hi, t.1, t.2]
        · rw [← hD a q hi, t.1, t.2]
theorem gi_ne {h : xH} {a b ci k : Nat} {e : xE} (hb : b ≠ a) : gi (xup h a e) b ci k = gi h b ci k := by
  unfold gi
  rw [xup_ne hb]
theorem gq_ne {h : xH} {a b ci k : Nat} {e : xE} (hb : b ≠ a) : gq (xup h a e) b ci k = gq h b ci k := by
  unfold gq
  rw [xup_ne hb]
theorem pf_of {h : xH} {b ci k : Nat} {v : Value} {fs : List Value} (hb : h b = some (.inr (ci, fs))) (hk : k < fs.length) : pf h b ci k v = some (xup h b (.inr (ci, fs.set k v))) := by
  unfold pf
  rw [hb]
  dsimp only
  rw [if_pos rfl, if_pos hk]
theorem pq_of {h : xH} {a kd n v ci i : Nat} {f : Nat → Option Nat} (ha : h a = some (rfA kd n f)) (hi : i < n) (hn : n < 1000) (hv : kc h v ci = true) : pq h a kd (J i) v ci = some (xup h a (rfA kd n (va_up f i (some v)))) := by
  unfold pq
  rw [ha]
  unfold rfA
  dsimp only
  rw [if_pos rfl, if_pos (xin_J hi (by omega)), if_pos hv, J_nat (by omega)]
/-- three new cells: two arrays and their object -/
def dT (D : kD) (z kA kB kC x : Nat) : kD := dN (dN (dN D (z + 1) kA x) (z + 1 + 1) kB x) z kC x
section DT
variable {D : kD} {z kA kB kC x : Nat}
theorem dT_Dx (hz : ∀ a, z ≤ a → D.2.1 a = none) (dA : dead D kA x) (dB : dead D kB x) (dC : dead D kC x) (nAB : kA ≠ kB) (nAC : kA ≠ kC) (nBC : kB ≠ kC) : Dx D (dN D (z + 1) kA x) ∧ Dx (dN D (z + 1) kA x) (dN (dN D (z + 1) kA x) (z + 1 + 1) kB x) ∧ Dx (dN (dN D (z + 1) kA x) (z + 1 + 1) kB x) (dT D z kA kB kC x) ∧ dead (dN D (z + 1) kA x) kB x ∧ dead (dN (dN D (z + 1) kA x) (z + 1 + 1) kB x) kC x := by
  have d1 : dead (dN D (z + 1) kA x) kB x := dN_dead dB (fun t => nAB t.1.symm)
  have d2 : dead (dN (dN D (z + 1) kA x) (z + 1 + 1) kB x) kC x := dN_dead (dN_dead dC (fun t => nAC t.1.symm)) (fun t => nBC t.1.symm)
  exact ⟨Dx_dN (hz _ (by omega)) dA, Dx_dN (by rw [dN_In (by omega)]; exact hz _ (by omega)) d1, Dx_dN (by rw [dN_In (by omega), dN_In (by omega)]; exact hz _ (by omega)) d2, d1, d2⟩
theorem dT_In {a : Nat} (h : z + 3 ≤ a ∨ a < z) : (dT D z kA kB kC x).2.1 a = D.2.1 a := by
  unfold dT
  rw [dN_In (by omega), dN_In (by omega), dN_In (by omega)]
theorem dT_q {P : Nat → Nat → Prop} (h : ∀ a q, D.2.1 a = some q → P q.1 q.2) (pA : P kA x) (pB : P kB x) (pC : P kC x) : ∀ a q, (dT D z kA kB kC x).2.1 a = some q → P q.1 q.2 := by
  have st : ∀ {E : kD} {a kd ix : Nat}, (∀ a q, E.2.1 a = some q → P q.1 q.2) → P kd ix → ∀ b q, (dN E a kd ix).2.1 b = some q → P q.1 q.2 := fun {E a kd ix} h l b q hq => by
    by_cases hb : b = a
    · rw [hb, dN_Ie] at hq
      cases hq
      exact l
    · rw [dN_In hb] at hq
      exact h b q hq
  exact st (st (st h pA) pB) pC
end DT
theorem plinit {h : xH} {o z : Nat} (ho : o < z) (n : Nat) : Pl_init_f n o (xup h o (.inr (6, [.null, .null, .int 0]))) z = some (0, xup (xup (xup h z (inA 2 (fun _ => 0))) (z + 1) (inA 2 (fun _ => 0))) o (.inr (6, [.ref z, .ref (z + 1), .int 0])), 2, 4) := by
  unfold Pl_init_f He_init_f
  simp only [obd, bnd]
  rw [xup_comm _ _ _ (show o ≠ z by omega)]
  have p1 : pf (xup (xup h z (.inl (0, 2, .inl (fun _ => 0)))) o (.inr (6, [.null, .null, .int 0]))) o 6 0 (.ref z) = some (xup (xup h z (.inl (0, 2, .inl (fun _ => 0)))) o (.inr (6, [.ref z, .null, .int 0]))) := pf_x (by show 0 < 3; decide)
  rw [p1]
  dsimp only
  rw [xup_comm _ _ _ (show o ≠ z + 1 by omega)]
  have p2 : pf (xup (xup (xup h z (.inl (0, 2, .inl (fun _ => 0)))) (z + 1) (.inl (0, 2, .inl (fun _ => 0)))) o (.inr (6, [.ref z, .null, .int 0]))) o 6 1 (.ref (z + 1)) = some (xup (xup (xup h z (.inl (0, 2, .inl (fun _ => 0)))) (z + 1) (.inl (0, 2, .inl (fun _ => 0)))) o (.inr (6, [.ref z, .ref (z + 1), .int 0]))) := pf_x (by show 1 < 3; decide)
  rw [p2]
  rfl
section RFS2
variable {κ : kS} {k i ix : Nat}
theorem rfs_14 (h : rfs κ k i 14 ix) : k = 13 ∧ i = ix := by
  unfold rfs at h
  split at h <;> simp at h
  exact ⟨rfl, h.symm⟩
theorem rfs_15 (h : rfs κ k i 15 ix) : k = 13 ∧ i = ix := by
  unfold rfs at h
  split at h <;> simp at h
  exact ⟨rfl, h.symm⟩
theorem rfs_13 (h : rfs κ k i 13 ix) : k = 11 ∧ ∃ p, p < N (κ 10 i 2) ∧ ix = 6 * i + p := by
  unfold rfs at h
  split at h <;> simp at h
  exact ⟨rfl, h⟩
theorem rfs_17 (h : rfs κ k i 17 ix) : k = 16 ∧ i = ix := by
  unfold rfs at h
  split at h <;> simp at h
  exact ⟨rfl, h.symm⟩
theorem rfs_18 (h : rfs κ k i 18 ix) : k = 16 ∧ i = ix := by
  unfold rfs at h
  split at h <;> simp at h
  exact ⟨rfl, h.symm⟩
theorem rfs_16 (h : rfs κ k i 16 ix) : k = 12 ∧ ∃ w, w < N (κ 10 i 3) ∧ ix = 12 * i + w := by
  unfold rfs at h
  split at h <;> simp at h
  exact ⟨rfl, h⟩
theorem rfs_11 (h : rfs κ k i 11 ix) : k = 10 ∧ i = ix := by
  unfold rfs at h
  split at h <;> simp at h
  exact ⟨rfl, h.symm⟩
theorem rfs_12 (h : rfs κ k i 12 ix) : k = 10 ∧ i = ix := by
  unfold rfs at h
  split at h <;> simp at h
  exact ⟨rfl, h.symm⟩
theorem rfs_10 (h : rfs κ k i 10 ix) : k = 2 ∧ ix < N (κ 1 0 1) := by
  unfold rfs at h
  split at h <;> simp at h
  exact ⟨rfl, h⟩
end RFS2
