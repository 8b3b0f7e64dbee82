/-! copy: the reference's rows; giving to a row -/
def betw (d i k : Nat) (τ : mL) : mL := sl τ 51 k (τ 50 (60 * d + i + k))
def bput (e j k : Nat) (τ : mL) : mL := sl τ 50 (60 * e + j + k) (τ 51 k)
def cpT (d i e j m : Nat) (τ : mL) : mL := it (bput e j) 0 m (it (betw d i) 0 m τ)
theorem betw_is (d i m : Nat) (τ : mL) : (∀ k, k < m → it (betw d i) 0 m τ 51 k = τ 50 (60 * d + i + k)) ∧ ∀ b, it (betw d i) 0 m τ 50 b = τ 50 b := by
  have r := it_inv (betw d i) (fun k T => (∀ c, c < k → T 51 c = τ 50 (60 * d + i + c)) ∧ ∀ b, T 50 b = τ 50 b) m (fun k T hk hT => by
    unfold betw sl
    refine ⟨fun c hc => ?_, fun b => ?_⟩
    · by_cases e : c = k
      · rw [if_pos ⟨rfl, e⟩, hT.2, e]
      · rw [if_neg (fun t => e t.2)]
        exact hT.1 c (by omega)
    · rw [if_neg (by omega)]
      exact hT.2 b) m 0 τ (by omega) ⟨fun c hc => absurd hc (Nat.not_lt_zero _), fun b => rfl⟩
  exact r
theorem cpT_is (d i e j m : Nat) (τ : mL) : (∀ k, k < m → cpT d i e j m τ 50 (60 * e + j + k) = τ 50 (60 * d + i + k)) ∧ ∀ b, ¬ (60 * e + j ≤ b ∧ b < 60 * e + j + m) → cpT d i e j m τ 50 b = τ 50 b := by
  obtain ⟨b1, b2⟩ := betw_is d i m τ
  have r := it_inv (bput e j) (fun k T => (∀ c, c < k → T 50 (60 * e + j + c) = τ 50 (60 * d + i + c)) ∧ (∀ b, ¬ (60 * e + j ≤ b ∧ b < 60 * e + j + k) → T 50 b = τ 50 b) ∧ ∀ c, c < m → T 51 c = τ 50 (60 * d + i + c)) m (fun k T hk hT => by
    unfold bput sl
    refine ⟨fun c hc => ?_, fun b hb => ?_, fun c hc => ?_⟩
    · by_cases q : c = k
      · rw [if_pos ⟨rfl, by rw [q]⟩, hT.2.2 k hk, q]
      · rw [if_neg (by omega)]
        exact hT.1 c (by omega)
    · rw [if_neg (by omega)]
      exact hT.2.1 b (by omega)
    · rw [if_neg (by omega)]
      exact hT.2.2 c hc) m 0 (it (betw d i) 0 m τ) (by omega) ⟨fun c hc => absurd hc (Nat.not_lt_zero _), fun b _ => b2 b, fun c hc => b1 c hc⟩
  exact ⟨r.1, r.2.1⟩
section SH8
variable {D : kD} {κ : kS} {σ : mS} {τ : mL} {z x y : Nat}
theorem copy_99 {s : mS} {d i e j m : Nat} (hd : d < 8) (he : e < 8) (hi : i + m ≤ 60) (hj : j + m ≤ 60) : Ev (fun n => Mo_copy_f n 99 (J d) (J i) (J e) (J j) (J m) (J 0) s τ) (J m, s, cpT d i e j m τ) := by
  refine Ev.up (f := fun n k T => Mo_copy_f n 99 (J d) (J i) (J e) (J j) (J m) (J k) s T) m (betw d i) (fun _ _ => True) (fun _ _ _ _ => trivial) (fun k T hk _ ee => ?_) m 0 τ (by omega) trivial ?_
  · refine Ev.succ (fun n => Mo_copy_e99 n _ _ _ _ _ _ _ _) ?_
    unfold Mo_copy_t99
    have ix : (60 : Int32) * J d + J i + J k = J (60 * d + i + k) := by rw [show (60 : Int32) = J 60 from rfl, J_mul, J_add, J_add]
    rw [ix]
    refine Ev.neg (by rw [J_le (by omega) (by omega)]; omega) (Ev.pos (xin_J (by omega) (by decide)) (Ev.pos (xin_J (by omega) (by decide)) (Ev.bn ?_)))
    rw [show Int32.toNatClampNeg (J (60 * d + i + k)) = 60 * d + i + k from J_nat (by omega), show Int32.toNatClampNeg (J k) = k from J_nat (by omega), show J k + 1 = J (k + 1) from J_add k 1]
    exact ee
  · refine Ev.succ (fun n => Mo_copy_e99 n _ _ _ _ _ _ _ _) ?_
    unfold Mo_copy_t99
    refine Ev.pos (by rw [J_le (by omega) (by omega)]; omega) ?_
    refine Ev.up (f := fun n k T => Mo_copy_f n 136 (J d) (J i) (J e) (J j) (J m) (J k) s T) m (bput e j) (fun _ _ => True) (fun _ _ _ _ => trivial) (fun k T hk _ ee => ?_) m 0 (it (betw d i) 0 m τ) (by omega) trivial ?_
    · refine Ev.succ (fun n => Mo_copy_e136 n _ _ _ _ _ _ _ _) ?_
      unfold Mo_copy_t136
      have ix : (60 : Int32) * J e + J j + J k = J (60 * e + j + k) := by rw [show (60 : Int32) = J 60 from rfl, J_mul, J_add, J_add]
      rw [ix]
      refine Ev.neg (by rw [J_le (by omega) (by omega)]; omega) (Ev.pos (xin_J (by omega) (by decide)) (Ev.pos (xin_J (by omega) (by decide)) (Ev.bn ?_)))
      rw [show Int32.toNatClampNeg (J (60 * e + j + k)) = 60 * e + j + k from J_nat (by omega), show Int32.toNatClampNeg (J k) = k from J_nat (by omega), show J k + 1 = J (k + 1) from J_add k 1]
      exact ee
    · refine Ev.succ (fun n => Mo_copy_e136 n _ _ _ _ _ _ _ _) ?_
      unfold Mo_copy_t136
      exact Ev.pos (by rw [J_le (by omega) (by omega)]; omega) Ev.ret
/-- a row of longs gets new content -/
theorem rn_putL {l : Nat → Int64} {e : xE} (hD : WD D) (hI : kI D 23 y) (he : heB κ (dL D y l).2.2.2 y = e) : xup (rn D κ) (D.1 23 y) e = rn (dL D y l) κ := by
  funext a
  unfold xup
  by_cases ha : a = D.1 23 y
  · rw [if_pos ha, ha]
    have hI' : kI (dL D y l) 23 y := hI
    have : rn (dL D y l) κ ((dL D y l).1 23 y) = kcl (dL D y l) κ 23 y := rn_at hI'
    rw [← he]
    exact this.symm
  · rw [if_neg ha]
    unfold rn
    show _ = match D.2.1 a with | some i => kcl (dL D y l) κ i.1 i.2 | none => D.2.2.1 a
    cases hi : D.2.1 a with
    | none => rfl
    | some q =>
      refine (kcl_L (fun t => ha ?_)).symm
      rw [← hD a q hi, t.1, t.2]
theorem nn32 {m : Nat} (hm : m ≤ 60) : ¬ (J m < 0) ∧ Int32.toNatClampNeg (J m) = m := ⟨J_nneg (by omega), J_nat (by omega)⟩
theorem srow_give (hD : WD D) (kx : kI D 22 x) (kx' : kI D 23 x) (ky : kI D 22 y) (ky' : kI D 23 y) (ex : κ 22 x 8 = 3) (ey : κ 22 y 8 = 3) {i j m : Nat} (hi : i + m ≤ N (κ 22 x 0)) (hj : j + m ≤ N (κ 22 y 0)) (h60 : N (κ 22 x 0) ≤ 60) (h61 : N (κ 22 y 0) ≤ 60) (hf : ∀ c, c < N (κ 22 x 0) → 0 ≤ (κ 23 x c).toInt ∧ (κ 23 x c).toInt ≤ 5) (n : Nat) : Sr_giveTo_f n (D.1 22 x) (J i) (some (D.1 22 y)) (J j) (J m) (rn D κ) = some (0, rn D (kf κ 23 y (va_cpy (κ 23 x) (κ 23 y) i j m))) := by
  obtain ⟨a1, a2⟩ := nn32 (show i ≤ 60 by omega)
  obtain ⟨b1, b2⟩ := nn32 (show j ≤ 60 by omega)
  obtain ⟨c1, c2⟩ := nn32 (show m ≤ 60 by omega)
  have kc8 : kc (rn D κ) (D.1 22 y) 8 = true := by rw [kc_of (h22S ky ey)]; decide
  unfold Sr_giveTo_f
  rw [oel_s, if_pos kc8, if_pos kc8, gq_of (k := 0) (h22S kx ex) rfl, gq_of (k := 0) (h22S ky ey) rfl]
  simp only [obd]
  have all : (List.range m).all (fun c => fits .short (.int (κ 23 x (i + c)))) = true := by
    rw [List.all_eq_true]
    intro c hc
    have := hf (i + c) (by have := List.mem_range.mp hc; omega)
    have z1 : (-32768 : Int32).toInt = -32768 := by decide
    have z2 : (32767 : Int32).toInt = 32767 := by decide
    show ((-32768 : Int32) ≤ κ 23 x (i + c) && κ 23 x (i + c) ≤ 32767) = true
    rw [Bool.and_eq_true, decide_eq_true_eq, decide_eq_true_eq, i32_le, i32_le, z1, z2]
    omega
  have cp : cps (rn D κ) (D.1 23 x) (J i) (D.1 23 y) (J j) (J m) = some (rn D (kf κ 23 y (va_cpy (κ 23 x) (κ 23 y) i j m))) := by
    unfold cps
    rw [h23S kx' ex, h23S ky' ey]
    simp only
    rw [a2, b2, c2, all]
    simp only [a1, b1, c1, decide_false, Bool.not_false, Bool.true_and, Bool.and_true, hi, hj, decide_true, if_true]
    congr 1
    refine rn_kf hD ky' ?_ (by decide) (by decide) (by decide) (fun t => absurd t (by decide))
    rw [kcl23]
    unfold heB
    rw [kf_k (by decide), ey, kf_e]
    rfl
  rw [cp]
theorem lrow_give (hD : WD D) (kx : kI D 22 x) (kx' : kI D 23 x) (ky : kI D 22 y) (ky' : kI D 23 y) (ex : κ 22 x 8 = 4) (ey : κ 22 y 8 = 4) {i j m : Nat} (hi : i + m ≤ N (κ 22 x 0)) (hj : j + m ≤ N (κ 22 y 0)) (h60 : N (κ 22 x 0) ≤ 60) (h61 : N (κ 22 y 0) ≤ 60) (n : Nat) : Lr_giveTo_f n (D.1 22 x) (J i) (some (D.1 22 y)) (J j) (J m) (rn D κ) = some (0, rn (dL D y (va_cpy (D.2.2.2 x) (D.2.2.2 y) i j m)) κ) := by
  obtain ⟨a1, a2⟩ := nn32 (show i ≤ 60 by omega)
  obtain ⟨b1, b2⟩ := nn32 (show j ≤ 60 by omega)
  obtain ⟨c1, c2⟩ := nn32 (show m ≤ 60 by omega)
  have kc9 : kc (rn D κ) (D.1 22 y) 9 = true := by rw [kc_of (h22L ky ey)]; decide
  have kc8 : ¬ (kc (rn D κ) (D.1 22 y) 8 = true) := by rw [kc_of (h22L ky ey)]; decide
  unfold Lr_giveTo_f
  rw [oel_s, if_neg kc8, if_pos kc9, if_pos kc9, gq_of (k := 0) (h22L kx ex) rfl, gq_of (k := 0) (h22L ky ey) rfl]
  simp only [obd]
  have cp : cpl (rn D κ) (D.1 23 x) (J i) (D.1 23 y) (J j) (J m) = some (rn (dL D y (va_cpy (D.2.2.2 x) (D.2.2.2 y) i j m)) κ) := by
    unfold cpl
    rw [h23L kx' ex, h23L ky' ey]
    simp only
    rw [a2, b2, c2]
    simp only [a1, b1, c1, decide_false, Bool.not_false, Bool.true_and, Bool.and_true, hi, hj, decide_true, if_true]
    congr 1
    refine rn_putL hD ky' ?_
    have l0 : (dL D y (va_cpy (D.2.2.2 x) (D.2.2.2 y) i j m)).2.2.2 y = va_cpy (D.2.2.2 x) (D.2.2.2 y) i j m := if_pos rfl
    unfold heB
    rw [ey, l0]
    rfl
  rw [cp]
end SH8
