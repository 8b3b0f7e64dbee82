/-! copy, class and reference -/
theorem sub60 {A : Nat} (hA : A ≤ 60) {m : Int32} (hm : 0 ≤ m.toInt) : (J A - m).toInt = (A : Int) - m.toInt := by
  have := Int32.toInt_lt m
  rw [Int32.toInt_sub, J_int (by omega), bm_id (by omega) (by omega)]
section SH9
variable {D : kD} {κ : kS} {σ : mS} {τ : mL} {z x y : Nat}
def SCn (D : kD) (κ : kS) (σ : mS) (τ : mL) (z : Nat) (f : Nat → Option (Int32 × xH)) (g : Nat → Option (Int32 × mS × mL)) : Prop := ∃ r D' κ' σ' τ', Ev f (r, rn D' κ') ∧ Ev g (r, σ', τ') ∧ Dk D D' ∧ YW D' κ' σ' ∧ FZ D' κ' z ∧ SH D' κ' σ' τ' ∧ kfs κ κ' ∧ sfs σ σ' ∧ κ' 9 = κ 9
theorem SCn_no (h : YW D κ σ) (hF : FZ D κ z) (S : SH D κ σ τ) {r : Int32} {f : Nat → Option (Int32 × xH)} {g : Nat → Option (Int32 × mS × mL)} (ef : Ev f (r, rn D κ)) (eg : Ev g (r, su σ 0 0 0, τ)) : SCn D κ σ τ z f g := ⟨r, D, κ, su σ 0 0 0, τ, ef, eg, ⟨fun _ _ i => ⟨rfl, i⟩, rfl⟩, YW_sst h (yq_0 σ), hF, SH_su0 S, kfs.rf κ, fun s b h0 _ => su_n h0, rfl⟩
theorem hasPl {s : mS} {d A : Nat} (hd : d < 8) (hA : A ≤ 60) (e : s 47 d = J A) (i m : Int32) (n : Nat) : Mo_hasPlaces_f n (J d) i m s τ = some ((if 0 ≤ m.toInt ∧ 0 ≤ i.toInt ∧ i.toInt + m.toInt ≤ A then 1 else 0), s, τ) := by
  have z0 : (0 : Int32).toInt = 0 := by decide
  have nd : Int32.toNatClampNeg (J d) = d := J_nat (by omega)
  have xd : xin (J d) 8 = true := xin_J hd (by decide)
  unfold Mo_hasPlaces_f
  rw [nd, e, xd]
  simp only [if_true]
  by_cases g1 : m < 0
  · rw [if_pos g1, if_neg (by rw [i32_lt] at g1; omega)]
  · rw [if_neg g1]
    rw [i32_lt] at g1
    by_cases g2 : i < 0
    · rw [if_pos g2, if_neg (by rw [i32_lt] at g2; omega)]
    · rw [if_neg g2]
      rw [i32_lt] at g2
      by_cases g3 : J A < i
      · rw [if_pos g3, if_neg (by rw [i32_lt, J_int (by omega)] at g3; omega)]
      · rw [if_neg g3]
        rw [i32_lt, J_int (by omega)] at g3
        by_cases g4 : J A - i < m
        · rw [if_pos g4, if_neg (by rw [i32_lt, sub60 hA (by omega)] at g4; omega)]
        · rw [if_neg g4, if_pos]
          rw [i32_lt, sub60 hA (by omega)] at g4
          omega
theorem SH_upd (S : SH D κ σ τ) {e : Nat} (he : e < 8) (h0 : κ 9 0 e ≠ 0) {D' : kD} {κ' : kS} {σ' : mS} {τ' : mL} (h9 : κ' 9 = κ 9) (h22 : ∀ a, κ' 22 a = κ 22 a) (ho : ∀ a, a ≠ N (κ 9 1 e) → κ' 23 a = κ 23 a ∧ D'.2.2.2 a = D.2.2.2 a) (hs : ∀ s b, 46 ≤ s → s ≤ 49 → σ' s b = σ s b) (ht : ∀ c i, c ≠ e → i < 60 → τ' 50 (60 * c + i) = τ 50 (60 * c + i)) (new : SHd D' κ' σ' τ' e) : SH D' κ' σ' τ' := by
  refine ⟨fun c hc => ?_, fun a b ha hb hne h1 h2 => by rw [h9] at h1 h2 ⊢; exact S.2 a b ha hb hne h1 h2⟩
  by_cases hce : c = e
  · rw [hce]; exact new
  · have s := S.1 c hc
    unfold SHd at s ⊢
    rw [h9]
    rcases s with ⟨a, b⟩ | ⟨a, b⟩
    · exact Or.inl ⟨a, by rw [hs 46 c (by omega) (by omega)]; exact b⟩
    · obtain ⟨o1, o2⟩ := ho _ (S.2 c e hc he hce a h0)
      refine Or.inr ⟨a, ?_⟩
      generalize N (κ 9 1 c) = w at b o1 o2
      unfold shW shP shS shL at b ⊢
      rw [hs 46 c (by omega) (by omega), hs 47 c (by omega) (by omega), hs 48 c (by omega) (by omega), hs 49 c (by omega) (by omega), h22 w, o1, o2]
      rcases b with b | b | ⟨b1, b2, b3, b4, b5⟩ | ⟨b1, b2, b3, b4, b5⟩
      · exact Or.inl b
      · exact Or.inr (Or.inl b)
      · refine Or.inr (Or.inr (Or.inl ⟨b1, b2, b3, b4, fun i hi => ?_⟩))
        have := b4.2
        rw [ht c i hce (by omega)]
        exact b5 i hi
      · refine Or.inr (Or.inr (Or.inr ⟨b1, b2, b3, b4, fun i hi => ?_⟩))
        have := b4.2
        rw [ht c i hce (by omega)]
        exact b5 i hi
/-- of two kinds of rows -/
theorem copied_ne {h : xH} {a b : Nat} {i j m : Int32} (k : (kc h a 8 = true ∧ kc h b 8 = false ∧ kc h b 9 = true) ∨ (kc h a 8 = false ∧ kc h a 9 = true ∧ kc h b 8 = true)) (n : Nat) : Ti_copied_f n (some a) i (some b) j m h = some (-12, h) := by
  unfold Ti_copied_f Sr_isOfKind_f Lr_isOfKind_f
  rcases k with ⟨k1, k2, k3⟩ | ⟨k1, k2, k3⟩
  · simp only [obd, oel, k1, k2, k3, if_true, if_false, Bool.false_eq_true]
  · simp only [obd, oel, k1, k2, k3, if_true, if_false, Bool.false_eq_true]
/-- where a copy lies within both rows -/
def cpOk (A B' : Nat) (i j m : Int32) : Prop := 0 ≤ m.toInt ∧ 0 ≤ i.toInt ∧ 0 ≤ j.toInt ∧ i.toInt + m.toInt ≤ A ∧ j.toInt + m.toInt ≤ B'
theorem copied_S (kx : kI D 22 x) (kx' : kI D 23 x) (ky : kI D 22 y) (ky' : kI D 23 y) (ex : κ 22 x 8 = 3) (ey : κ 22 y 8 = 3) (h60 : N (κ 22 x 0) ≤ 60) (h61 : N (κ 22 y 0) ≤ 60) {i j m : Int32} (n : Nat) : (¬ cpOk (N (κ 22 x 0)) (N (κ 22 y 0)) i j m → Ti_copied_f n (some (D.1 22 x)) i (some (D.1 22 y)) j m (rn D κ) = some (-13, rn D κ)) ∧ (cpOk (N (κ 22 x 0)) (N (κ 22 y 0)) i j m → ∀ H, Sr_giveTo_f n (D.1 22 x) i (some (D.1 22 y)) j m (rn D κ) = some (0, H) → Ti_copied_f n (some (D.1 22 x)) i (some (D.1 22 y)) j m (rn D κ) = some (m, H)) := by
  have z0 : (0 : Int32).toInt = 0 := by decide
  have a8 : kc (rn D κ) (D.1 22 x) 8 = true := by rw [kc_of (h22S kx ex)]; decide
  have b8 : kc (rn D κ) (D.1 22 y) 8 = true := by rw [kc_of (h22S ky ey)]; decide
  have sx := srow_size (κ := κ) kx kx' ex n
  have sy := srow_size (κ := κ) ky ky' ey n
  have one : ¬ ((1 : Int32) = 0) := by decide
  unfold Ti_copied_f Sr_isOfKind_f cpOk
  simp only [obd, oel, a8, b8, if_true, one, if_false, sx, sy]
  refine ⟨fun no => ?_, fun ok H hH => ?_⟩
  · by_cases g1 : m < 0
    · rw [if_pos g1]
    · rw [if_neg g1]
      rw [i32_lt] at g1
      by_cases g2 : i < 0
      · rw [if_pos g2]
      · rw [if_neg g2]
        rw [i32_lt] at g2
        by_cases g3 : j < 0
        · rw [if_pos g3]
        · rw [if_neg g3]
          rw [i32_lt] at g3
          by_cases g4 : J (N (κ 22 x 0)) - m < i
          · rw [if_pos g4]
          · rw [if_neg g4]
            rw [i32_lt, sub60 h60 (by omega)] at g4
            rw [if_neg]
            rw [i32_le, sub60 h61 (by omega)]
            omega
  · rw [if_neg (by rw [i32_lt]; omega), if_neg (by rw [i32_lt]; omega), if_neg (by rw [i32_lt]; omega), if_neg (by rw [i32_lt, sub60 h60 (by omega)]; omega), if_pos (by rw [i32_le, sub60 h61 (by omega)]; omega), hH]
theorem copied_L (kx : kI D 22 x) (kx' : kI D 23 x) (ky : kI D 22 y) (ky' : kI D 23 y) (ex : κ 22 x 8 = 4) (ey : κ 22 y 8 = 4) (h60 : N (κ 22 x 0) ≤ 60) (h61 : N (κ 22 y 0) ≤ 60) {i j m : Int32} (n : Nat) : (¬ cpOk (N (κ 22 x 0)) (N (κ 22 y 0)) i j m → Ti_copied_f n (some (D.1 22 x)) i (some (D.1 22 y)) j m (rn D κ) = some (-13, rn D κ)) ∧ (cpOk (N (κ 22 x 0)) (N (κ 22 y 0)) i j m → ∀ H, Lr_giveTo_f n (D.1 22 x) i (some (D.1 22 y)) j m (rn D κ) = some (0, H) → Ti_copied_f n (some (D.1 22 x)) i (some (D.1 22 y)) j m (rn D κ) = some (m, H)) := by
  have z0 : (0 : Int32).toInt = 0 := by decide
  have a8 : kc (rn D κ) (D.1 22 x) 8 = false := by rw [kc_of (h22L kx ex)]; decide
  have a9 : kc (rn D κ) (D.1 22 x) 9 = true := by rw [kc_of (h22L kx ex)]; decide
  have b8 : kc (rn D κ) (D.1 22 y) 8 = false := by rw [kc_of (h22L ky ey)]; decide
  have b9 : kc (rn D κ) (D.1 22 y) 9 = true := by rw [kc_of (h22L ky ey)]; decide
  have sx := lrow_size (κ := κ) kx kx' ex n
  have sy := lrow_size (κ := κ) ky ky' ey n
  have one : ¬ ((1 : Int32) = 0) := by decide
  unfold Ti_copied_f Lr_isOfKind_f cpOk
  simp only [obd, oel, a8, a9, b8, b9, if_true, one, if_false, sx, sy, Bool.false_eq_true]
  refine ⟨fun no => ?_, fun ok H hH => ?_⟩
  · by_cases g1 : m < 0
    · rw [if_pos g1]
    · rw [if_neg g1]
      rw [i32_lt] at g1
      by_cases g2 : i < 0
      · rw [if_pos g2]
      · rw [if_neg g2]
        rw [i32_lt] at g2
        by_cases g3 : j < 0
        · rw [if_pos g3]
        · rw [if_neg g3]
          rw [i32_lt] at g3
          by_cases g4 : J (N (κ 22 x 0)) - m < i
          · rw [if_pos g4]
          · rw [if_neg g4]
            rw [i32_lt, sub60 h60 (by omega)] at g4
            rw [if_neg]
            rw [i32_le, sub60 h61 (by omega)]
            omega
  · rw [if_neg (by rw [i32_lt]; omega), if_neg (by rw [i32_lt]; omega), if_neg (by rw [i32_lt]; omega), if_neg (by rw [i32_lt, sub60 h60 (by omega)]; omega), if_pos (by rw [i32_le, sub60 h61 (by omega)]; omega), hH]
end SH9
