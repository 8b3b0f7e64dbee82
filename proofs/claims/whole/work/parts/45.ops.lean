/-! what tightening, passing and setting do to the times of a zone -/
theorem sem_sq {m : Nat} {B : Int} (h0 : 0 ≤ B) (hB : B ≤ 100000) {M : iM} (hM : zgd m B M) {p q : Nat} (hp : p < m) (hq : q < m) {w : Int} (hw : fn B w) {v : Nat → Rat} : sem m (sq M p q w) v ↔ sem m M v ∧ lb w (v p - v q) := by
  have hA := AN_is
  constructor
  · intro h
    refine ⟨fun i j hi hj => ?_, ?_⟩
    · refine lb_mono ?_ (fn_le (hM.2.2 i j hi hj) (by omega)) (h i j hi hj)
      unfold sq
      omega
    · refine lb_mono ?_ (fn_le hw (by omega)) (h p q hp hq)
      unfold sq sqT
      rw [hM.2.1 p hp, hM.2.1 q hq, one_sm, sm_one]
      omega
  · intro ⟨h, hl⟩ i j hi hj
    unfold sq
    rcases Int.le_total (M i j) (sqT M p q w i j) with g | g
    · rw [Int.min_eq_left g]; exact h i j hi hj
    · rw [Int.min_eq_right g]
      unfold sqT
      have t := lb_sum (lb_sum (h i p hi hp) hl) (h q j hq hj)
      have e : v i - v p + (v p - v q) + (v q - v j) = v i - v j := by grind
      rw [e] at t
      exact t
/-- PASSED -/
def pm (M : iM) : iM := fun i j => if j = 0 ∧ i ≠ 0 then AN else M i j
theorem pm_zgd {m : Nat} {B : Int} (hB : 2 * B + 1 < AN) {M : iM} (hM : zgd m B M) : zgd m B (pm M) := by
  refine ⟨fun i j k hi hj hk => ?_, fun i hi => ?_, fun i j hi hj => ?_⟩
  · by_cases h1 : k = 0 ∧ i ≠ 0
    · have e : pm M i k = AN := if_pos h1
      rw [e, A_sm]
      unfold pm
      split
      · exact Int.le_refl _
      · exact fn_le (hM.2.2 i j hi hj) (by have := AN_is; omega)
    · have e1 : pm M i k = M i k := if_neg h1
      by_cases h2 : j = 0 ∧ k ≠ 0
      · have e : pm M k j = AN := if_pos h2
        rw [e, sm_A]
        unfold pm
        split
        · exact Int.le_refl _
        · exact fn_le (hM.2.2 i j hi hj) (by have := AN_is; omega)
      · have e2 : pm M k j = M k j := if_neg h2
        have e3 : pm M i j = M i j := if_neg (fun t => by
          by_cases hk0 : k = 0
          · exact h1 ⟨hk0, t.2⟩
          · exact h2 ⟨t.1, hk0⟩)
        rw [e1, e2, e3]
        exact hM.1 i j k hi hj hk
  · have e : pm M i i = M i i := if_neg (fun t => t.2 t.1)
    rw [e]
    exact hM.2.1 i hi
  · unfold pm
    split
    · exact Or.inl rfl
    · exact hM.2.2 i j hi hj
theorem pm_from {m : Nat} {B : Int} (hB : 2 * B + 1 < AN) (h0m : 0 < m) {M : iM} (hM : zgd m B M) {v : Nat → Rat} (hv : sem m (pm M) v) : ∃ t, 0 ≤ t ∧ sem m M (vup v 0 (v 0 + t)) := by
  have hs : ∀ i j, i < m → j < m → j ≠ 0 → lb (M i j) (v i - v j) := fun i j hi hj hj0 => by
    have := hv i j hi hj
    rw [show pm M i j = M i j from if_neg (fun t => hj0 t.1)] at this
    exact this
  obtain ⟨y, hy⟩ := ext1 hB hM (fun i => i ≠ 0) (fun i j hi hj _ hj0 => hs i j hi hj hj0) h0m
  have fin : ∀ z, y ≤ z → v 0 ≤ z → (∀ i, i < m → i ≠ 0 → lb (M 0 i) (z - v i)) → ∃ t, 0 ≤ t ∧ sem m M (vup v 0 (v 0 + t)) := by
    intro z h1 h2 h3
    refine ⟨z - v 0, by grind, fun i j hi hj => ?_⟩
    have e : v 0 + (z - v 0) = z := by grind
    rw [e]
    unfold vup
    by_cases hi0 : i = 0
    · by_cases hj0 : j = 0
      · rw [if_pos hi0, if_pos hj0, hi0, hj0, hM.2.1 0 h0m, lb_one]
        grind
      · rw [if_pos hi0, if_neg hj0, hi0]
        exact h3 j hj hj0
    · by_cases hj0 : j = 0
      · rw [if_neg hi0, if_pos hj0, hj0]
        exact lb_up (hy i hi hi0).1 h1
      · rw [if_neg hi0, if_neg hj0]
        exact hs i j hi hj hj0
  rcases (Rat.le_total : y ≤ v 0 ∨ v 0 ≤ y) with g | g
  · exact fin (v 0) g (by grind) (fun i hi hi0 => hs 0 i h0m hi hi0)
  · exact fin y (by grind) g (fun i hi hi0 => (hy i hi hi0).2)
theorem pm_to {m : Nat} {M : iM} (hd : M 0 0 = 1) {u : Nat → Rat} (hu : sem m M u) {t : Rat} (ht : 0 ≤ t) : sem m (pm M) (vup u 0 (u 0 - t)) := by
  intro i j hi hj
  unfold pm vup
  by_cases hj0 : j = 0
  · by_cases hi0 : i = 0
    · rw [if_neg (fun t => t.2 hi0), if_pos hi0, if_pos hj0, hi0, hj0, hd, lb_one]
      grind
    · rw [if_pos ⟨hj0, hi0⟩]
      exact lb_AN _
  · rw [if_neg (fun t => hj0 t.1), if_neg hj0]
    by_cases hi0 : i = 0
    · rw [if_pos hi0, hi0]
      have := hu 0 j (by omega) hj
      exact lb_dn this (by grind)
    · rw [if_neg hi0]
      exact hu i j hi hj
/-- SET: the set clocks go to 0's place -/
def rs (ρ : Nat → Nat) (M : iM) : iM := fun i j => M (ρ i) (ρ j)
def rsok (m : Nat) (ρ : Nat → Nat) : Prop := ρ 0 = 0 ∧ ∀ i, i < m → ρ i = i ∨ ρ i = 0
theorem rsok.lt {m : Nat} {ρ : Nat → Nat} (h : rsok m ρ) {i : Nat} (hi : i < m) : ρ i < m := by
  rcases h.2 i hi with e | e <;> omega
theorem rs_zgd {m : Nat} {B : Int} {M : iM} (hM : zgd m B M) {ρ : Nat → Nat} (hρ : rsok m ρ) : zgd m B (rs ρ M) := ⟨fun i j k hi hj hk => hM.1 _ _ _ (hρ.lt hi) (hρ.lt hj) (hρ.lt hk), fun i hi => hM.2.1 _ (hρ.lt hi), fun i j hi hj => hM.2.2 _ _ (hρ.lt hi) (hρ.lt hj)⟩
theorem rs_from {m : Nat} {B : Int} (hB : 2 * B + 1 < AN) (h0m : 0 < m) {M : iM} (hM : zgd m B M) {ρ : Nat → Nat} (hρ : rsok m ρ) {v : Nat → Rat} (hv : sem m (rs ρ M) v) : ∃ u, sem m M u ∧ ∀ i, i < m → v i = u (ρ i) := by
  obtain ⟨u, hu, he⟩ := ext_all hB hM m (fun i => ρ i = i) v (fun i hi _ => by omega) (fun i j hi hj hPi hPj => by
    have := hv i j hi hj
    unfold rs at this
    rw [hPi, hPj] at this
    exact this)
  refine ⟨u, hu, fun i hi => ?_⟩
  have e0 : u 0 = v 0 := he 0 h0m hρ.1
  by_cases h : ρ i = i
  · rw [h]
    exact (he i hi h).symm
  · have hi0 : ρ i = 0 := (hρ.2 i hi).resolve_left h
    rw [hi0, e0]
    have a1 := hv i 0 hi h0m
    have a2 := hv 0 i h0m hi
    unfold rs at a1 a2
    rw [hi0, hρ.1, hM.2.1 0 h0m, lb_one] at a1 a2
    grind
theorem rs_to {m : Nat} {M : iM} {ρ : Nat → Nat} (hρ : rsok m ρ) {u : Nat → Rat} (hu : sem m M u) : sem m (rs ρ M) (fun i => u (ρ i)) := fun i j hi hj => hu _ _ (hρ.lt hi) (hρ.lt hj)
/-! no bound grows faster than the moves -/
def eqv (K : Rat) (m : Nat) (v u : Nat → Rat) : Prop := ∀ i j, i < m → j < m → v i - v j = u i - u j ∨ (K < v i - v j ∧ K < u i - u j) ∨ (v i - v j < -K ∧ u i - u j < -K)
theorem eqv_lb {K : Rat} {m : Nat} {v u : Nat → Rat} (h : eqv K m v u) {p q : Nat} (hp : p < m) (hq : q < m) {w : Int} (h1 : cR w ≤ K) (h2 : -K ≤ cR w) (hA : w ≠ AN) (hl : lb w (v p - v q)) : lb w (u p - u q) := by
  rcases h p q hp hq with g | g | g
  · rw [← g]; exact hl
  · have := lb_weak hl hA
    exfalso
    grind
  · exact lb_of_lt (by grind)
def bInv (m : Nat) (K L : Rat) (M : iM) : Prop := (∀ v, sem m M v → ∃ u, sem m M u ∧ eqv K m v u ∧ ∀ i j, i < m → j < m → u i - u j ≤ L) ∧ ∀ v, sem m M v → ∀ i j, i < m → j < m → L < v i - v j → ∀ X : Rat, ∃ u, sem m M u ∧ eqv K m v u ∧ X < u i - u j
theorem bInv_cut {m : Nat} {K L : Rat} {M M' : iM} (h : bInv m K L M) {p q : Nat} (hp : p < m) (hq : q < m) {w : Int} (h1 : cR w ≤ K) (h2 : -K ≤ cR w) (hA : w ≠ AN) (hM : ∀ v, sem m M' v ↔ sem m M v ∧ lb w (v p - v q)) : bInv m K L M' := by
  refine ⟨fun v hv => ?_, fun v hv i j hi hj hL X => ?_⟩
  · obtain ⟨a, b⟩ := (hM v).mp hv
    obtain ⟨u, c, d, e⟩ := h.1 v a
    exact ⟨u, (hM u).mpr ⟨c, eqv_lb d hp hq h1 h2 hA b⟩, d, e⟩
  · obtain ⟨a, b⟩ := (hM v).mp hv
    obtain ⟨u, c, d, e⟩ := h.2 v a i j hi hj hL X
    exact ⟨u, (hM u).mpr ⟨c, eqv_lb d hp hq h1 h2 hA b⟩, d, e⟩
theorem bInv_set {m : Nat} {K L : Rat} {B : Int} (hB : 2 * B + 1 < AN) (h0m : 0 < m) {M : iM} (hM : zgd m B M) {ρ : Nat → Nat} (hρ : rsok m ρ) (h : bInv m K L M) : bInv m K L (rs ρ M) := by
  refine ⟨fun v hv => ?_, fun v hv i j hi hj hL X => ?_⟩
  · obtain ⟨u, hu, he⟩ := rs_from hB h0m hM hρ hv
    obtain ⟨t, c, d, e⟩ := h.1 u hu
    refine ⟨fun i => t (ρ i), rs_to hρ c, fun i j hi hj => ?_, fun i j hi hj => e _ _ (hρ.lt hi) (hρ.lt hj)⟩
    rw [he i hi, he j hj]
    exact d _ _ (hρ.lt hi) (hρ.lt hj)
  · obtain ⟨u, hu, he⟩ := rs_from hB h0m hM hρ hv
    rw [he i hi, he j hj] at hL
    obtain ⟨t, c, d, e⟩ := h.2 u hu _ _ (hρ.lt hi) (hρ.lt hj) hL X
    refine ⟨fun i => t (ρ i), rs_to hρ c, fun i j hi hj => ?_, e⟩
    rw [he i hi, he j hj]
    exact d _ _ (hρ.lt hi) (hρ.lt hj)
theorem bInv_pass {m : Nat} {K L : Rat} (hK : 0 ≤ K) (hL0 : 0 ≤ L) {B : Int} (hB : 2 * B + 1 < AN) (h0m : 0 < m) {M : iM} (hM : zgd m B M) (hpos : ∀ j, j < m → M 0 j ≤ 1) (h : bInv m K L M) : bInv m K (L + K + 1) (pm M) := by
  have nn : ∀ {u : Nat → Rat}, sem m M u → ∀ j, j < m → u 0 - u j ≤ 0 := fun hu j hj => by
    have := lb_mono (hpos j hj) (by decide) (hu 0 j h0m hj)
    exact (lb_one _).mp this
  -- times u' alike u, then time t' alike t
  have alike : ∀ {v u : Nat → Rat} {t t' : Rat}, sem m M (vup v 0 (v 0 + t)) → sem m M u → eqv K m (vup v 0 (v 0 + t)) u → 0 ≤ t → 0 ≤ t' → (t = t' ∨ (K < t ∧ K < t')) → eqv K m v (vup u 0 (u 0 - t')) := by
    intro v u t t' h1 h2 h3 ht ht' htt i j hi hj
    have g := h3 i j hi hj
    unfold vup at g ⊢
    by_cases hi0 : i = 0
    · by_cases hj0 : j = 0
      · rw [if_pos hi0, if_pos hj0, hi0, hj0]
        left
        grind
      · rw [if_pos hi0, if_neg hj0] at g ⊢
        have a := nn h1 j hj
        have b := nn h2 j hj
        unfold vup at a
        rw [if_pos rfl, if_neg hj0] at a
        rw [hi0] at g ⊢
        rcases htt with e | e
        · rcases g with g | g | g
          · left; grind
          · exfalso; grind
          · right; right; grind
        · right; right; grind
    · by_cases hj0 : j = 0
      · rw [if_neg hi0, if_pos hj0] at g ⊢
        have a := nn h1 i hi
        have b := nn h2 i hi
        unfold vup at a
        rw [if_pos rfl, if_neg hi0] at a
        rw [hj0] at g ⊢
        rcases htt with e | e
        · rcases g with g | g | g
          · left; grind
          · right; left; grind
          · exfalso; grind
        · right; left; grind
      · rw [if_neg hi0, if_neg hj0] at g ⊢
        exact g
  refine ⟨fun v hv => ?_, fun v hv i j hi hj hL X => ?_⟩
  · obtain ⟨t, ht, hs⟩ := pm_from hB h0m hM hv
    obtain ⟨u, c, d, e⟩ := h.1 _ hs
    have small : ∀ t', 0 ≤ t' → t' ≤ K + 1 → ∀ i j, i < m → j < m → vup u 0 (u 0 - t') i - vup u 0 (u 0 - t') j ≤ L + K + 1 := by
      intro t' a b i j hi hj
      have g := e i j hi hj
      unfold vup
      by_cases hi0 : i = 0 <;> by_cases hj0 : j = 0
      · rw [if_pos hi0, if_pos hj0]; grind
      · rw [if_pos hi0, if_neg hj0]
        rw [hi0] at g
        grind
      · rw [if_neg hi0, if_pos hj0]
        rw [hj0] at g
        grind
      · rw [if_neg hi0, if_neg hj0]; grind
    by_cases htk : t ≤ K + 1
    · exact ⟨vup u 0 (u 0 - t), pm_to (hM.2.1 0 h0m) c ht, alike hs c d ht ht (Or.inl rfl), small t ht htk⟩
    · have k1 : 0 ≤ K + 1 := by grind
      exact ⟨vup u 0 (u 0 - (K + 1)), pm_to (hM.2.1 0 h0m) c k1, alike hs c d ht k1 (Or.inr ⟨by grind, by grind⟩), small _ k1 (by grind)⟩
  · obtain ⟨t, ht, hs⟩ := pm_from hB h0m hM hv
    by_cases hi0 : i = 0
    · exfalso
      have a := nn hs j hj
      unfold vup at a
      by_cases hj0 : j = 0
      · rw [hi0, hj0] at hL
        grind
      · rw [if_pos rfl, if_neg hj0] at a
        rw [hi0] at hL
        grind
    · by_cases hj0 : j = 0
      · by_cases htk : K < t
        · -- time itself is stretched
          have r0 : eqv K m (vup v 0 (v 0 + t)) (vup v 0 (v 0 + t)) := fun _ _ _ _ => Or.inl rfl
          have big : ∃ s : Rat, 0 ≤ s ∧ X ≤ s := by
            rcases (Rat.le_total : 0 ≤ X ∨ X ≤ 0) with g | g
            · exact ⟨X, g, by grind⟩
            · exact ⟨0, by grind, g⟩
          obtain ⟨s, s0, sX⟩ := big
          have tn : 0 ≤ t + s := by grind
          refine ⟨vup (vup v 0 (v 0 + t)) 0 (vup v 0 (v 0 + t) 0 - (t + s)), pm_to (hM.2.1 0 h0m) hs tn, alike hs hs r0 ht tn (Or.inr ⟨htk, by grind⟩), ?_⟩
          have a := nn hs i hi
          unfold vup at a ⊢
          rw [if_pos rfl, if_neg hi0] at a
          rw [if_neg hi0, if_neg hi0, if_pos hj0, if_pos rfl]
          grind
        · have g : L < vup v 0 (v 0 + t) i - vup v 0 (v 0 + t) 0 := by
            unfold vup
            rw [if_neg hi0, if_pos rfl]
            rw [hj0] at hL
            grind
          obtain ⟨u, c, d, e⟩ := h.2 _ hs i 0 hi h0m g X
          refine ⟨vup u 0 (u 0 - t), pm_to (hM.2.1 0 h0m) c ht, alike hs c d ht ht (Or.inl rfl), ?_⟩
          unfold vup
          rw [if_neg hi0, if_pos hj0]
          grind
      · have g : L < vup v 0 (v 0 + t) i - vup v 0 (v 0 + t) j := by
          unfold vup
          rw [if_neg hi0, if_neg hj0]
          grind
        obtain ⟨u, c, d, e⟩ := h.2 _ hs i j hi hj g X
        refine ⟨vup u 0 (u 0 - t), pm_to (hM.2.1 0 h0m) c ht, alike hs c d ht ht (Or.inl rfl), ?_⟩
        unfold vup
        rw [if_neg hi0, if_neg hj0]
        exact e
