/-! calls that build the yard: limit, test -/
/-- what the yard's calls leave alone -/
def kfy (κ κ' : kS) : Prop := (∀ kd ix, kd ≠ 1 → (kd < 10 ∨ 18 < kd) → κ' kd ix = κ kd ix) ∧ ∀ c, c ≠ 1 → κ' 1 0 c = κ 1 0 c
def sfy (σ σ' : mS) : Prop := ∀ s b, 14 < s → σ' s b = σ s b
/-- a MACHINE that has not come has nothing -/
def MZ (σ : mS) : Prop := ∀ m, N (σ 1 0) ≤ m → m < 3 → σ 2 m = 0 ∧ σ 3 m = 0
/-- the two sides of a call that builds -/
def BO (D : kD) (κ : kS) (σ : mS) (τ : mL) (z : Nat) (f : Nat → Option (Int32 × xH × Nat × Nat)) (g : Nat → Option (Int32 × mS × mL)) : Prop := ∃ r D' κ' σ' c s, Ev f (r, rn D' κ', c, s) ∧ Ev g (r, σ', τ) ∧ Dx D D' ∧ YW D' κ' σ' ∧ FZ D' κ' (z + c) ∧ WV σ' ∧ WT σ' ∧ kfy κ κ' ∧ sfy σ σ' ∧ c ≤ 3 ∧ s ≤ 22 ∧ (MZ σ → MZ σ')
/-- .. that makes no cells -/
def BN (D : kD) (κ : kS) (σ : mS) (τ : mL) (z : Nat) (f : Nat → Option (Int32 × xH)) (g : Nat → Option (Int32 × mS × mL)) : Prop := ∃ r κ' σ', Ev f (r, rn D κ') ∧ Ev g (r, σ', τ) ∧ YW D κ' σ' ∧ FZ D κ' z ∧ WV σ' ∧ WT σ' ∧ kfy κ κ' ∧ sfy σ σ' ∧ (MZ σ → MZ σ')
theorem kfy.rf (κ : kS) : kfy κ κ := ⟨fun _ _ _ _ => rfl, fun _ _ => rfl⟩
theorem sfy_0 (σ : mS) : sfy σ (su σ 0 0 0) := fun s b hs => su_n (by omega)
theorem MZ_0 (σ : mS) (mz : MZ σ) : MZ (su σ 0 0 0) := fun m h1 h2 => by
  rw [su_n (by decide)] at h1
  rw [su_n (by decide), su_n (by decide)]
  exact mz m h1 h2
theorem yq_0 (σ : mS) : yq (su σ 0 0 0) σ := fun a b h1 _ => su_n (by omega)
/-- numbers of a range -/
theorem n_or (c : Nat) (x : Int32) : (∃ k, k < c ∧ x = J k) ∨ ∀ m, m < c → x ≠ J m := by
  by_cases h : ∃ k, k < c ∧ x = J k
  · exact Or.inl h
  · exact Or.inr (fun m hm e => h ⟨m, hm, e⟩)
section BY
variable {D : kD} {κ : kS} {σ : mS} {τ : mL} {z : Nat}
theorem isMachine_in (hs : sml (σ 1 0) 3) {m : Nat} (hm : m < N (σ 1 0)) (n : Nat) : Mo_isMachine_f n (J m) σ τ = some (1, σ, τ) := by
  have hb := hs.2
  unfold Mo_isMachine_f
  rw [if_neg (J_nneg (by omega)), if_neg (sml_nle hs (by omega) hm)]
theorem isMachine_out (hs : sml (σ 1 0) 3) {y : Int32} (hy : ∀ m, m < N (σ 1 0) → y ≠ J m) (n : Nat) : Mo_isMachine_f n y σ τ = some (0, σ, τ) := by
  unfold Mo_isMachine_f
  rcases i_out hs (by omega) hy with a | a
  · rw [if_pos a]
  · rw [if_pos a]
    split <;> rfl
theorem isPlace_in (hW : WY σ) {m p : Nat} (hm : m < N (σ 1 0)) (hp : p < N (σ 2 m)) (n : Nat) : Mo_isPlace_f n (J m) (J p) σ τ = some (1, σ, τ) := by
  have hb := hW.1.2
  have s2 := (hW.2.1 m (by omega)).1
  unfold Mo_isPlace_f
  rw [isMachine_in hW.1 hm]
  simp only [obd]
  rw [if_neg (by decide), if_neg (J_nneg (by have := s2.2; omega)), if_pos (xin_J (by omega) (by decide)), J_nat (by omega), if_neg (sml_nle s2 (by omega) hp)]
theorem isPlace_om (hW : WY σ) {y : Int32} (hy : ∀ m, m < N (σ 1 0) → y ≠ J m) (w : Int32) (n : Nat) : Mo_isPlace_f n y w σ τ = some (0, σ, τ) := by
  unfold Mo_isPlace_f
  rw [isMachine_out hW.1 hy]
  rfl
theorem isPlace_op (hW : WY σ) {m : Nat} (hm : m < N (σ 1 0)) {y : Int32} (hy : ∀ p, p < N (σ 2 m) → y ≠ J p) (n : Nat) : Mo_isPlace_f n (J m) y σ τ = some (0, σ, τ) := by
  have hb := hW.1.2
  have s2 := (hW.2.1 m (by omega)).1
  unfold Mo_isPlace_f
  rw [isMachine_in hW.1 hm]
  simp only [obd]
  rw [if_neg (by decide), if_pos (xin_J (show m < 3 by omega) (by decide)), J_nat (by omega)]
  rcases i_out s2 (by omega) hy with a | a
  · rw [if_pos a]
  · rw [if_pos a]
    split <;> rfl
theorem isWay_in (hW : WY σ) {m p : Nat} (hm : m < N (σ 1 0)) (hp : p < N (σ 3 m)) (n : Nat) : Mo_isWay_f n (J m) (J p) σ τ = some (1, σ, τ) := by
  have hb := hW.1.2
  have s2 := (hW.2.1 m (by omega)).2
  unfold Mo_isWay_f
  rw [isMachine_in hW.1 hm]
  simp only [obd]
  rw [if_neg (by decide), if_neg (J_nneg (by have := s2.2; omega)), if_pos (xin_J (by omega) (by decide)), J_nat (by omega), if_neg (sml_nle s2 (by omega) hp)]
theorem isWay_om (hW : WY σ) {y : Int32} (hy : ∀ m, m < N (σ 1 0) → y ≠ J m) (w : Int32) (n : Nat) : Mo_isWay_f n y w σ τ = some (0, σ, τ) := by
  unfold Mo_isWay_f
  rw [isMachine_out hW.1 hy]
  rfl
theorem isWay_op (hW : WY σ) {m : Nat} (hm : m < N (σ 1 0)) {y : Int32} (hy : ∀ p, p < N (σ 3 m) → y ≠ J p) (n : Nat) : Mo_isWay_f n (J m) y σ τ = some (0, σ, τ) := by
  have hb := hW.1.2
  have s2 := (hW.2.1 m (by omega)).2
  unfold Mo_isWay_f
  rw [isMachine_in hW.1 hm]
  simp only [obd]
  rw [if_neg (by decide), if_pos (xin_J (show m < 3 by omega) (by decide)), J_nat (by omega)]
  rcases i_out s2 (by omega) hy with a | a
  · rw [if_pos a]
  · rw [if_pos a]
    split <;> rfl
/-- placeAt and isPlace; wayAt and isWay -/
theorem pl_or (h : YW D κ σ) (x y : Int32) : (∃ m p, m < N (σ 1 0) ∧ p < N (σ 2 m) ∧ x = J m ∧ y = J p) ∨ ((∀ n, Ya_placeAt_f n (D.1 1 0) x y (rn D κ) = some (none, rn D κ)) ∧ ∀ ρ, yq ρ σ → ∀ (τ : mL) n, Mo_isPlace_f n x y ρ τ = some (0, ρ, τ)) := by
  rcases n_or (N (σ 1 0)) x with ⟨m, hm, rfl⟩ | hx
  · rcases n_or (N (σ 2 m)) y with ⟨p, hp, rfl⟩ | hy
    · exact Or.inl ⟨m, p, hm, hp, rfl, rfl⟩
    · have yy := (h.2.1.2 m hm).1.1
      have hm3 : m < 3 := by have := h.2.2.1.2; omega
      refine Or.inr ⟨fun n => placeAt_op h.1 h.mc (by rw [h.2.1.1]; exact hm) (by rw [yy]; exact (h.2.2.2.1 m hm3).1) (by rw [yy]; exact hy) n, fun ρ hρ τ n => isPlace_op (h.2.2.eq hρ) (by rw [hρ 1 0 (by decide) (by decide)]; exact hm) (by rw [hρ 2 m (by decide) (by decide)]; exact hy) n⟩
  · exact Or.inr ⟨fun n => placeAt_om h.1 h.mc (by rw [h.2.1.1]; exact hx) n y, fun ρ hρ τ n => isPlace_om (h.2.2.eq hρ) (by rw [hρ 1 0 (by decide) (by decide)]; exact hx) y n⟩
theorem wa_or (h : YW D κ σ) (x y : Int32) : (∃ m p, m < N (σ 1 0) ∧ p < N (σ 3 m) ∧ x = J m ∧ y = J p) ∨ ((∀ n, Ya_wayAt_f n (D.1 1 0) x y (rn D κ) = some (none, rn D κ)) ∧ ∀ ρ, yq ρ σ → ∀ (τ : mL) n, Mo_isWay_f n x y ρ τ = some (0, ρ, τ)) := by
  rcases n_or (N (σ 1 0)) x with ⟨m, hm, rfl⟩ | hx
  · rcases n_or (N (σ 3 m)) y with ⟨p, hp, rfl⟩ | hy
    · exact Or.inl ⟨m, p, hm, hp, rfl, rfl⟩
    · have yy := (h.2.1.2 m hm).1.2
      have hm3 : m < 3 := by have := h.2.2.1.2; omega
      refine Or.inr ⟨fun n => wayAt_op h.1 h.mc (by rw [h.2.1.1]; exact hm) (by rw [yy]; exact (h.2.2.2.1 m hm3).2) (by rw [yy]; exact hy) n, fun ρ hρ τ n => isWay_op (h.2.2.eq hρ) (by rw [hρ 1 0 (by decide) (by decide)]; exact hm) (by rw [hρ 3 m (by decide) (by decide)]; exact hy) n⟩
  · exact Or.inr ⟨fun n => wayAt_om h.1 h.mc (by rw [h.2.1.1]; exact hx) n y, fun ρ hρ τ n => isWay_om (h.2.2.eq hρ) (by rw [hρ 1 0 (by decide) (by decide)]; exact hx) y n⟩
/-- a range, for class and reference -/
theorem btw (x a b : Int32) (a' b' : Int64) (ha : a.toInt = a'.toInt) (hb : b.toInt = b'.toInt) : (a.toInt ≤ x.toInt ∧ x.toInt ≤ b.toInt ∧ Mo_isIn_f (Int32.toInt64 x) a' b' = 1 ∧ ∀ n (h : xH), Ti_isBetween_f n x a b h = some (1, h)) ∨ (¬ (a.toInt ≤ x.toInt ∧ x.toInt ≤ b.toInt) ∧ Mo_isIn_f (Int32.toInt64 x) a' b' = 0 ∧ ∀ n (h : xH), Ti_isBetween_f n x a b h = some (0, h)) := by
  rw [isIn_is, ← ha, ← hb]
  by_cases g : a.toInt ≤ x.toInt ∧ x.toInt ≤ b.toInt
  · refine Or.inl ⟨g.1, g.2, if_pos g, fun n h => ?_⟩
    unfold Ti_isBetween_f
    rw [if_neg (by rw [i32_lt]; omega), if_neg (by rw [i32_lt]; omega)]
  · refine Or.inr ⟨g, if_neg g, fun n h => ?_⟩
    unfold Ti_isBetween_f
    by_cases q : x < a
    · rw [if_pos q]
    · rw [if_neg q, if_pos]
      rw [i32_lt] at q ⊢
      omega
theorem mark_bo (n : Nat) (c b : Int32) (h : xH) : Zo_mark_f n c b h = some (Mo_boundOf_f c b, h) := by
  unfold Zo_mark_f Mo_boundOf_f
  by_cases g : b = 0
  · rw [if_pos g, if_pos g]
  · rw [if_neg g, if_neg g]
theorem bo_int {c b : Int32} (h : -1000 ≤ c.toInt ∧ c.toInt ≤ 1000) : (Mo_boundOf_f c b).toInt = 2 * c.toInt + 1 ∨ (Mo_boundOf_f c b).toInt = 2 * c.toInt := by
  have two : (2 : Int32).toInt = 2 := by decide
  have one : (1 : Int32).toInt = 1 := by decide
  have e2 : ((2 : Int32) * c).toInt = 2 * c.toInt := by rw [Int32.toInt_mul, two]; exact bm_id (by omega) (by omega)
  unfold Mo_boundOf_f
  by_cases g : b = 0
  · rw [if_pos g]
    left
    rw [Int32.toInt_add, e2, one]
    exact bm_id (by omega) (by omega)
  · rw [if_neg g]
    exact Or.inr e2
end BY
