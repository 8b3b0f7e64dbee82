/-! the reference's zone operations as operations on integer matrices -/
def sgood (m : Nat) (B : Int) (Z : Nat → Int32) : Prop := zgd m B (zi Z)
theorem zi_fu {Z : Nat → Int32} {p q i j : Nat} (hq : q < 5) (hj : j < 5) (x : Int32) : zi (fu Z (5 * p + q) x) i j = up1 (zi Z) p q x.toInt i j := by
  unfold zi fu up1
  by_cases h : i = p ∧ j = q
  · rw [if_pos h, if_pos (by rw [idx5 hj hq]; exact h)]
  · rw [if_neg h, if_neg (by rw [idx5 hj hq]; exact h)]
theorem qtg_same {m p q : Nat} {b : Int32} {Z : Nat → Int32} (h : zi Z p q ≤ b.toInt) : qtg m p q b (Z, 0) = (Z, 0) := by
  unfold qtg
  rw [if_pos rfl, if_pos (i32_le.mpr h)]
theorem qtg_cut {m p q : Nat} {b : Int32} {Z : Nat → Int32} (h : b.toInt < zi Z p q) : qtg m p q b (Z, 0) = qcl m (fu Z (5 * p + q) b, 0) := by
  unfold qtg
  have n : ¬ (Z (5 * p + q) ≤ b) := fun t => by
    have := i32_le.mp t
    unfold zi at h
    omega
  rw [if_pos rfl]
  show (if Z (5 * p + q) ≤ b then _ else _) = _
  rw [if_neg n]
section Step
variable {m : Nat} {B : Int} {Z : Nat → Int32} {p q : Nat} {b : Int32}
theorem qtg_E (hm : m ≤ 5) (h0 : 0 ≤ B) (hB : B ≤ 100000) (hM : zgd m B (zi Z)) (hp : p < m) (hq : q < m) (hpq : p ≠ q) (hw : fn B b.toInt) (hc : sm b.toInt (zi Z q p) < 1) (hlt : b.toInt < zi Z p q) : (qtg m p q b (Z, 0)).2 = 1 := by
  rw [qtg_cut hlt]
  obtain ⟨i, hi, hn⟩ := close_E hm h0 hB hM hp hq hpq hw hlt hc (Z := fu Z (5 * p + q) b) (fun i j hi hj => zi_fu (by omega) (by omega) b)
  show em m (cl m (fu Z (5 * p + q) b)) 0 = 1
  rcases em_is m (cl m (fu Z (5 * p + q) b)) with ⟨_, h⟩ | ⟨h, _⟩
  · have := h i hi
    omega
  · exact h
theorem qtg_N (hm : m ≤ 5) (h0 : 0 ≤ B) (hB : B ≤ 100000) (hM : zgd m B (zi Z)) (hp : p < m) (hq : q < m) (hpq : p ≠ q) (hw : fn B b.toInt) (hc : 1 ≤ sm b.toInt (zi Z q p)) (hlt : b.toInt < zi Z p q) : (qtg m p q b (Z, 0)).2 = 0 ∧ ∀ i j, i < m → j < m → zi (qtg m p q b (Z, 0)).1 i j = sq (zi Z) p q b.toInt i j := by
  rw [qtg_cut hlt]
  have hN := close_N hm h0 hB hM hp hq hpq hw hlt hc (Z := fu Z (5 * p + q) b) (fun i j hi hj => zi_fu (by omega) (by omega) b)
  refine ⟨?_, hN⟩
  show em m (cl m (fu Z (5 * p + q) b)) 0 = 0
  rcases em_is m (cl m (fu Z (5 * p + q) b)) with ⟨h, _⟩ | ⟨_, i, hi, h⟩
  · exact h
  · rw [hN i i hi hi, sq_diag h0 hB hM hp hq hw hc hi] at h
    omega
theorem sq_same {M : iM} (hM : zgd m B M) (h0 : 0 ≤ B) (hB : B ≤ 100000) (hp : p < m) (hq : q < m) {w : Int} (hw : fn B w) (h : M p q ≤ w) {i j : Nat} (hi : i < m) (hj : j < m) : sq M p q w i j = M i j := by
  have hA := AN_is
  have up : ∀ {x : Int} {C : Int}, fn C x → C ≤ 400003 → fn 400003 x := fun h g => fn_mono h g
  have fM := hM.2.2
  have t1 := hM.1 i j p hi hj hp
  have t2 := hM.1 p j q hp hj hq
  have s1 := sm_fn hw (fM q j hq hj)
  have e : sqT M p q w i j = sm (M i p) (sm w (M q j)) := sm_assoc (up (fM i p hi hp) (by omega)) (up hw (by omega)) (up (fM q j hq hj) (by omega)) (by omega)
  have a1 : sm (M p q) (M q j) ≤ sm w (M q j) := sm_mo (up (fM p q hp hq) (by omega)) (up (fM q j hq hj) (by omega)) (by omega) h (Int.le_refl _) (fn_le hw (by omega)) (fn_le (fM q j hq hj) (by omega))
  have a2 : sm (M i p) (M p j) ≤ sm (M i p) (sm w (M q j)) := sm_mo (up (fM i p hi hp) (by omega)) (up (fM p j hp hj) (by omega)) (by omega) (Int.le_refl _) (by omega) (fn_le (fM i p hi hp) (by omega)) (fn_le s1 (by omega))
  unfold sq
  rw [e]
  omega
/-- all three at once: TIGHTENED is EMPTY just where the bound and the one the other way are against each other -/
theorem qtg_is (hm : m ≤ 5) (h0 : 0 ≤ B) (hB : B ≤ 100000) (hM : zgd m B (zi Z)) (hp : p < m) (hq : q < m) (hpq : p ≠ q) (hw : fn B b.toInt) : (sm b.toInt (zi Z q p) < 1 ∧ (qtg m p q b (Z, 0)).2 = 1) ∨ (1 ≤ sm b.toInt (zi Z q p) ∧ (qtg m p q b (Z, 0)).2 = 0 ∧ ∀ i j, i < m → j < m → zi (qtg m p q b (Z, 0)).1 i j = sq (zi Z) p q b.toInt i j) := by
  have hA := AN_is
  rcases Int.lt_or_le b.toInt (zi Z p q) with hlt | hle
  · rcases Int.lt_or_le (sm b.toInt (zi Z q p)) 1 with hc | hc
    · exact Or.inl ⟨hc, qtg_E hm h0 hB hM hp hq hpq hw hc hlt⟩
    · exact Or.inr ⟨hc, qtg_N hm h0 hB hM hp hq hpq hw hc hlt⟩
  · refine Or.inr ⟨?_, ?_, fun i j hi hj => ?_⟩
    · have t := hM.1 p p q hp hp hq
      rw [hM.2.1 p hp] at t
      have := sm_mo (B := 400003) (fn_mono (hM.2.2 p q hp hq) (by omega)) (fn_mono (hM.2.2 q p hq hp) (by omega)) (by omega) hle (Int.le_refl (zi Z q p)) (fn_le hw (by omega)) (fn_le (hM.2.2 q p hq hp) (by omega))
      omega
    · rw [qtg_same hle]
    · rw [qtg_same hle]
      exact (sq_same hM h0 hB hp hq hw hle hi hj).symm
theorem pz_zi (hm : m ≤ 5) {i j : Nat} (hi : i < m) (hj : j < m) : zi (pz m Z) i j = pm (zi Z) i j := by
  have hA : (1000000 : Int32).toInt = AN := by decide
  have h := it_inv (fun i Z => fu Z (5 * i) 1000000) (fun k W => 1 ≤ k ∧ ∀ a c, a < m → c < m → zi W a c = if c = 0 ∧ a ≠ 0 ∧ a < k then AN else zi Z a c) m (fun k W hk hW => ⟨by omega, fun a c ha hc => by
    have e : fu W (5 * k) 1000000 = fu W (5 * k + 0) 1000000 := rfl
    rw [e, zi_fu (by omega) (by omega)]
    unfold up1
    rw [hA]
    by_cases h : a = k ∧ c = 0
    · have hk1 := hW.1
      rw [if_pos h, if_pos (by omega)]
    · rw [if_neg h, hW.2 a c ha hc]
      by_cases g : c = 0 ∧ a ≠ 0 ∧ a < k
      · rw [if_pos g, if_pos (by omega)]
      · rw [if_neg g, if_neg (by omega)]⟩) (m - 1) 1 Z (by omega) ⟨by omega, fun a c _ _ => by rw [if_neg (by omega)]⟩
  have e := h.2 i j hi hj
  show zi (it (fun i Z => fu Z (5 * i) 1000000) 1 (m - 1) Z) i j = _
  rw [e]
  unfold pm
  by_cases g : j = 0 ∧ i ≠ 0
  · rw [if_pos g, if_pos (by omega)]
  · rw [if_neg g, if_neg (by omega)]
end Step
def rc (c : Int32) (i : Nat) : Nat := if 0 < i ∧ i < 4 ∧ bt c i then 0 else i
theorem rc_ok (m : Nat) (c : Int32) : rsok m (rc c) := by
  refine ⟨by unfold rc; rw [if_neg (by omega)], fun i _ => ?_⟩
  unfold rc
  split
  · exact Or.inr rfl
  · exact Or.inl rfl
theorem sn_zi {m : Nat} (hm : m ≤ 5) (h0m : 0 < m) {Z : Nat → Int32} (hd : zi Z 0 0 = 1) (c : Int32) {i j : Nat} (hi : i < m) (hj : j < m) : zi (sn Z m c Z) i j = rs (rc c) (zi Z) i j := by
  have hone : (1 : Int32).toInt = 1 := by decide
  have v1 : ∀ a b, b < 5 → 0 < a ∧ a < 4 ∧ bt c a → (sv c b (Z b)).toInt = rs (rc c) (zi Z) a b := fun a b hb ha => by
    have e1 : rc c a = 0 := if_pos ha
    unfold rs sv
    rw [e1]
    by_cases g : 0 < b ∧ b < 4 ∧ bt c b
    · rw [if_pos g, show rc c b = 0 from if_pos g, hd]
      exact hone
    · rw [if_neg g, show rc c b = b from if_neg g]
      unfold zi
      rw [show 5 * 0 + b = b by omega]
  have v2 : ∀ a b, b < 5 → 0 < a ∧ a < 4 ∧ bt c a → (sv c b (Z (5 * b))).toInt = rs (rc c) (zi Z) b a := fun a b hb ha => by
    have e1 : rc c a = 0 := if_pos ha
    unfold rs sv
    rw [e1]
    by_cases g : 0 < b ∧ b < 4 ∧ bt c b
    · rw [if_pos g, show rc c b = 0 from if_pos g, hd]
      exact hone
    · rw [if_neg g, show rc c b = b from if_neg g]
      rfl
  have key : ∀ k, 1 ≤ k → k < 4 → ∀ W : Nat → Int32, (∀ a b, a < m → b < m → zi W a b = if (0 < a ∧ a < k ∧ bt c a) ∨ (0 < b ∧ b < k ∧ bt c b) then rs (rc c) (zi Z) a b else zi Z a b) → ∀ a b, a < m → b < m → zi (sn2 Z m c k W) a b = if (0 < a ∧ a < k + 1 ∧ bt c a) ∨ (0 < b ∧ b < k + 1 ∧ bt c b) then rs (rc c) (zi Z) a b else zi Z a b := by
    intro k hk1 hk4 W hW a b ha hb
    unfold sn2
    by_cases hbt : bt c k
    · rw [if_pos hbt]
      have hset : 0 < k ∧ k < 4 ∧ bt c k := ⟨hk1, hk4, hbt⟩
      have h := it_inv (sn1 Z c k) (fun d Y => ∀ a b, a < m → b < m → zi Y a b = if ((0 < a ∧ a < k ∧ bt c a) ∨ (0 < b ∧ b < k ∧ bt c b)) ∨ (a = k ∧ b < d) ∨ (b = k ∧ a < d) then rs (rc c) (zi Z) a b else zi Z a b) m (fun d Y hd hY a b ha hb => by
        unfold sn1
        rw [zi_fu (by omega) (by omega)]
        unfold up1
        by_cases g1 : a = d ∧ b = k
        · rw [if_pos g1, if_pos (by omega), v2 k d (by omega) hset, g1.1, g1.2]
        · rw [if_neg g1, zi_fu (by omega) (by omega)]
          unfold up1
          by_cases g2 : a = k ∧ b = d
          · rw [if_pos g2, if_pos (by omega), v1 k d (by omega) hset, g2.1, g2.2]
          · rw [if_neg g2, hY a b ha hb]
            by_cases g3 : ((0 < a ∧ a < k ∧ bt c a) ∨ (0 < b ∧ b < k ∧ bt c b)) ∨ (a = k ∧ b < d) ∨ (b = k ∧ a < d)
            · rw [if_pos g3, if_pos (g3.elim Or.inl (fun t => Or.inr (by omega)))]
            · rw [if_neg g3, if_neg (fun t => g3 (t.elim Or.inl (fun t => Or.inr (by omega))))]) m 0 W (by omega) (fun a b ha hb => by
        rw [hW a b ha hb]
        by_cases g : (0 < a ∧ a < k ∧ bt c a) ∨ (0 < b ∧ b < k ∧ bt c b)
        · rw [if_pos g, if_pos (Or.inl g)]
        · rw [if_neg g, if_neg (fun t => t.elim g (fun t => by omega))])
      rw [h a b ha hb]
      by_cases g : (0 < a ∧ a < k + 1 ∧ bt c a) ∨ (0 < b ∧ b < k + 1 ∧ bt c b)
      · rw [if_pos g, if_pos ?_]
        rcases g with g | g
        · by_cases e : a = k
          · exact Or.inr (Or.inl ⟨e, hb⟩)
          · exact Or.inl (Or.inl ⟨g.1, by omega, g.2.2⟩)
        · by_cases e : b = k
          · exact Or.inr (Or.inr ⟨e, ha⟩)
          · exact Or.inl (Or.inr ⟨g.1, by omega, g.2.2⟩)
      · rw [if_neg g, if_neg ?_]
        intro t
        apply g
        rcases t with (t | t) | t | t
        · exact Or.inl ⟨t.1, by omega, t.2.2⟩
        · exact Or.inr ⟨t.1, by omega, t.2.2⟩
        · exact Or.inl (by rw [t.1]; exact ⟨hk1, by omega, hbt⟩)
        · exact Or.inr (by rw [t.1]; exact ⟨hk1, by omega, hbt⟩)
    · rw [if_neg hbt, hW a b ha hb]
      have e : ∀ x, (0 < x ∧ x < k ∧ bt c x) ↔ (0 < x ∧ x < k + 1 ∧ bt c x) := fun x => ⟨fun t => ⟨t.1, by omega, t.2.2⟩, fun t => ⟨t.1, by
        by_cases hx : x = k
        · rw [hx] at t; exact absurd t.2.2 hbt
        · omega, t.2.2⟩⟩
      by_cases g : (0 < a ∧ a < k ∧ bt c a) ∨ (0 < b ∧ b < k ∧ bt c b)
      · rw [if_pos g, if_pos (g.elim (fun t => Or.inl ((e a).mp t)) (fun t => Or.inr ((e b).mp t)))]
      · rw [if_neg g, if_neg (fun t => g (t.elim (fun t => Or.inl ((e a).mpr t)) (fun t => Or.inr ((e b).mpr t))))]
  have h := it_inv (sn2 Z m c) (fun k W => 1 ≤ k ∧ ∀ a b, a < m → b < m → zi W a b = if (0 < a ∧ a < k ∧ bt c a) ∨ (0 < b ∧ b < k ∧ bt c b) then rs (rc c) (zi Z) a b else zi Z a b) 4 (fun k W hk hW => ⟨by omega, key k hW.1 hk W hW.2⟩) 3 1 Z (by omega) ⟨by omega, fun a b _ _ => by rw [if_neg (by omega)]⟩
  have e := h.2 i j hi hj
  show zi (it (sn2 Z m c) 1 3 Z) i j = _
  rw [e]
  by_cases g : (0 < i ∧ i < 4 ∧ bt c i) ∨ (0 < j ∧ j < 4 ∧ bt c j)
  · rw [if_pos g]
  · rw [if_neg g]
    unfold rs
    rw [show rc c i = i from if_neg (fun t => g (Or.inl t)), show rc c j = j from if_neg (fun t => g (Or.inr t))]
