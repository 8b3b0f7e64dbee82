/-! copies of a way, a place; rows of places, of bounds: the class -/
section KP2
variable {D : kD} {κ : kS} {σ : mS} {τ : mL} {z : Nat}
theorem kI_lt (hF : FZ D κ z) {k i : Nat} (h : kI D k i) : D.1 k i < z := by
  rcases Nat.lt_or_ge (D.1 k i) z with t | t
  · exact t
  · have e := hF.1 _ t
    unfold kI at h
    rw [e] at h
    cases h
theorem cpi_of {h : xH} {a0 a n0 n1 k : Nat} {f g : Nat → Int32} (e0 : h a0 = some (inA n0 f)) (e1 : h a = some (inA n1 g)) (k0 : k ≤ n0) (k1 : k ≤ n1) (hk : k < 1000) : cpi h a0 0 a 0 (J k) = some (xup h a (inA n1 (va_cpy f g 0 0 k))) := by
  have nk : Int32.toNatClampNeg (J k) = k := J_nat (by omega)
  have n0' : Int32.toNatClampNeg 0 = 0 := rfl
  have j0 : ¬ (J k < 0) := J_nneg (by omega)
  unfold cpi
  rw [e0, e1]
  unfold inA
  rw [nk, n0']
  refine if_pos ?_
  simp only [Bool.and_eq_true, Bool.not_eq_true', decide_eq_false_iff_not, decide_eq_true_eq]
  exact ⟨⟨⟨⟨by decide, by decide⟩, j0⟩, by omega⟩, by omega⟩
theorem xup3 {h : xH} {e1 e2 e3 e1' e2' e3' : xE} : xup (xup (xup (xup (xup (xup h (z + 1) e1) (z + 1 + 1) e2) z e3) (z + 1) e1') (z + 1 + 1) e2') z e3' = xup (xup (xup h (z + 1) e1') (z + 1 + 1) e2') z e3' := by
  funext a
  unfold xup
  by_cases p : a = z
  · simp only [if_pos p]
  · by_cases q : a = z + 1 + 1
    · simp only [if_neg p, if_pos q]
    · by_cases r : a = z + 1
      · simp only [if_neg p, if_neg q, if_pos r]
      · simp only [if_neg p, if_neg q, if_neg r]
theorem wa_as (hF : FZ D κ z) {i : Nat} (i16 : kI D 16 i) (i17 : kI D 17 i) (i18 : kI D 18 i) : ∃ f1 f2, ∀ n, Wa_asItIs_f n (D.1 16 i) (rn D κ) z = some (some z, xup (xup (xup (rn D κ) (z + 1) (inA 3 f1)) (z + 1 + 1) (inA 3 f2)) z (.inr (7, [.int (κ 16 i 0), .int (κ 16 i 1), .int (κ 16 i 2), .int (κ 16 i 3), .ref (z + 1), .ref (z + 1 + 1), .int (κ 16 i 6)])), 3, 13) := by
  refine ⟨va_cpy (κ 17 i) (fun _ => 0) 0 0 3, va_cpy (κ 18 i) (fun _ => 0) 0 0 3, fun n => ?_⟩
  have l16 := kI_lt hF i16
  have l17 := kI_lt hF i17
  have l18 := kI_lt hF i18
  have c16 : rn D κ (D.1 16 i) = some (.inr (7, [.int (κ 16 i 0), .int (κ 16 i 1), .int (κ 16 i 2), .int (κ 16 i 3), .ref (D.1 17 i), .ref (D.1 18 i), .int (κ 16 i 6)])) := rn_at i16
  have c17 : rn D κ (D.1 17 i) = some (inA 3 (κ 17 i)) := rn_at i17
  have c18 : rn D κ (D.1 18 i) = some (inA 3 (κ 18 i)) := rn_at i18
  generalize rn D κ = H at c16 c17 c18
  generalize D.1 16 i = o at l16 c16
  generalize D.1 17 i = oA at l17 c16 c17
  generalize D.1 18 i = oB at l18 c16 c18
  unfold Wa_asItIs_f
  simp only [bnd]
  rw [gi_ne (show o ≠ z by omega), gi_ne (show o ≠ z by omega), gi_ne (show o ≠ z by omega), gi_ne (show o ≠ z by omega), gi_of (k := 0) c16 rfl, gi_of (k := 1) c16 rfl, gi_of (k := 2) c16 rfl, gi_of (k := 3) c16 rfl]
  simp only [bnd, obd]
  rw [wainit (show z < z + 1 by omega)]
  dsimp only
  have q1 : ∀ {e1 e2 e3 : xE} {a : Nat}, a < z → (xup (xup (xup H (z + 1) e1) (z + 1 + 1) e2) z e3) a = H a := fun {e1 e2 e3 a} ha => by rw [xup_ne (by omega), xup_ne (by omega), xup_ne (by omega)]
  have H1o : ∀ {e1 e2 e3 : xE}, (xup (xup (xup H (z + 1) e1) (z + 1 + 1) e2) z e3) o = _ := fun {e1 e2 e3} => (q1 l16).trans c16
  rw [gq_of (k := 4) H1o rfl, gq_of (k := 4) (xup_eq) rfl]
  dsimp only
  have cA : (3 : Int32) = J 3 := rfl
  rw [cA, cpi_of (k := 3) (n1 := 3) (g := fun _ => 0) ((q1 l17).trans c17) (by rw [xup_ne (by omega), xup_ne (by omega), xup_eq]) (by omega) (by omega) (by omega)]
  dsimp only
  rw [gq_of (a := o) (k := 5) (by rw [xup_ne (by omega)]; exact H1o) rfl, gq_of (a := z) (k := 5) (by rw [xup_ne (by omega), xup_eq]) rfl]
  dsimp only
  rw [cpi_of (k := 3) (n1 := 3) (g := fun _ => 0) (by rw [xup_ne (by omega)]; exact (q1 l18).trans c18) (by rw [xup_ne (by omega), xup_ne (by omega), xup_eq]) (by omega) (by omega) (by omega)]
  dsimp only
  rw [gi_of (a := o) (k := 6) (by rw [xup_ne (by omega), xup_ne (by omega)]; exact H1o) rfl]
  dsimp only
  rw [pf_of (b := z) (by rw [xup_ne (by omega), xup_ne (by omega), xup_eq]) (by show 6 < 7; decide)]
  dsimp only
  rw [xup3]
  rfl
theorem pl_as (hF : FZ D κ z) {i : Nat} (i13 : kI D 13 i) (i14 : kI D 14 i) (i15 : kI D 15 i) : ∃ f1 f2, ∀ n, Pl_asItIs_f n (D.1 13 i) (rn D κ) z = some (some z, xup (xup (xup (rn D κ) (z + 1) (inA 2 f1)) (z + 1 + 1) (inA 2 f2)) z (.inr (6, [.ref (z + 1), .ref (z + 1 + 1), .int (κ 13 i 2)])), 3, 7) := by
  refine ⟨va_cpy (κ 14 i) (fun _ => 0) 0 0 2, va_cpy (κ 15 i) (fun _ => 0) 0 0 2, fun n => ?_⟩
  have l16 := kI_lt hF i13
  have l17 := kI_lt hF i14
  have l18 := kI_lt hF i15
  have c16 : rn D κ (D.1 13 i) = some (.inr (6, [.ref (D.1 14 i), .ref (D.1 15 i), .int (κ 13 i 2)])) := rn_at i13
  have c17 : rn D κ (D.1 14 i) = some (inA 2 (κ 14 i)) := rn_at i14
  have c18 : rn D κ (D.1 15 i) = some (inA 2 (κ 15 i)) := rn_at i15
  generalize rn D κ = H at c16 c17 c18
  generalize D.1 13 i = o at l16 c16
  generalize D.1 14 i = oA at l17 c16 c17
  generalize D.1 15 i = oB at l18 c16 c18
  unfold Pl_asItIs_f
  simp only [bnd, obd]
  rw [plinit (show z < z + 1 by omega)]
  dsimp only
  have q1 : ∀ {e1 e2 e3 : xE} {a : Nat}, a < z → (xup (xup (xup H (z + 1) e1) (z + 1 + 1) e2) z e3) a = H a := fun {e1 e2 e3 a} ha => by rw [xup_ne (by omega), xup_ne (by omega), xup_ne (by omega)]
  have H1o : ∀ {e1 e2 e3 : xE}, (xup (xup (xup H (z + 1) e1) (z + 1 + 1) e2) z e3) o = _ := fun {e1 e2 e3} => (q1 l16).trans c16
  rw [gq_of (k := 0) H1o rfl, gq_of (k := 0) (xup_eq) rfl]
  dsimp only
  have cA : (2 : Int32) = J 2 := rfl
  rw [cA, cpi_of (k := 2) (n1 := 2) (g := fun _ => 0) ((q1 l17).trans c17) (by rw [xup_ne (by omega), xup_ne (by omega), xup_eq]) (by omega) (by omega) (by omega)]
  dsimp only
  rw [gq_of (a := o) (k := 1) (by rw [xup_ne (by omega)]; exact H1o) rfl, gq_of (a := z) (k := 1) (by rw [xup_ne (by omega), xup_eq]) rfl]
  dsimp only
  rw [cpi_of (k := 2) (n1 := 2) (g := fun _ => 0) (by rw [xup_ne (by omega)]; exact (q1 l18).trans c18) (by rw [xup_ne (by omega), xup_ne (by omega), xup_eq]) (by omega) (by omega) (by omega)]
  dsimp only
  rw [gi_of (a := o) (k := 2) (by rw [xup_ne (by omega), xup_ne (by omega)]; exact H1o) rfl]
  dsimp only
  rw [pf_of (b := z) (by rw [xup_ne (by omega), xup_ne (by omega), xup_eq]) (by show 2 < 3; decide)]
  dsimp only
  rw [xup3]
  rfl
theorem stA_x (hY : YW D κ σ) (p : PW κ σ) (hF : FZ D κ z) {k : Nat} (hk : k < N (σ 22 0)) (e : xE) (n : Nat) : Ya_stateAt_f n (D.1 1 0) (J k) (xup (rn D κ) z e) = some (some (D.1 19 k), xup (rn D κ) z e) := by
  have h := hY.1
  have hc : sml (κ 1 0 3) 200 := by rw [p.1]; exact p.2.1
  have hk' : k < N (κ 1 0 3) := by rw [p.1]; exact hk
  have hle : N (κ 1 0 3) ≤ N (κ 3 0 0) := by rw [p.1]; exact p.2.2.2.1
  have hb := hc.2
  have l1 := kI_lt hF h.k1
  have i3 := h.2.1 3 (by decide) (by decide) (by decide)
  have l3 := kI_lt hF i3
  unfold Ya_stateAt_f
  rw [if_neg (J_nneg (by omega)), gi_ne (by omega), gq_ne (by omega)]
  have aqn : ∀ i, aq (xup (rn D κ) z e) (D.1 3 0) 7 i = aq (rn D κ) (D.1 3 0) 7 i := fun i => by
    unfold aq
    rw [xup_ne (by omega)]
  simp only [rd1 h.k1, obd]
  rw [aqn, if_neg (sml_nle hc (by omega) hk'), if_neg (by rw [show (200 : Int32) = J 200 from rfl, J_le (by omega) (by omega)]; omega), rn_aq i3 rfl (show k < 200 by omega) (by decide)]
  dsimp only
  rw [if_pos (by omega)]
end KP2
