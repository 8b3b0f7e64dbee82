/-! the second half alone: what is far may be farther -/
def sInv (m : Nat) (K L : Rat) (M : iM) : Prop := ∀ v, sem m M v → ∀ i j, i < m → j < m → L < v i - v j → ∀ X : Rat, ∃ u, sem m M u ∧ eqv K m v u ∧ X < u i - u j
theorem sInv_cut {m : Nat} {K L : Rat} {M M' : iM} (h : sInv m K L M) {p q : Nat} (hp : p < m) (hq : q < m) {w : Int} (h1 : cR w ≤ K) (h2 : -K ≤ cR w) (hA : w ≠ AN) (hM : ∀ v, sem m M' v ↔ sem m M v ∧ lb w (v p - v q)) : sInv m K L M' := by
  intro v hv i j hi hj hL X
  obtain ⟨a, b⟩ := (hM v).mp hv
  obtain ⟨u, c, d, e⟩ := h v a i j hi hj hL X
  exact ⟨u, (hM u).mpr ⟨c, eqv_lb d hp hq h1 h2 hA b⟩, d, e⟩
theorem sInv_set {m : Nat} {K L : Rat} {B : Int} (hB : 2 * B + 1 < AN) (h0m : 0 < m) {M : iM} (hM : zgd m B M) {ρ : Nat → Nat} (hρ : rsok m ρ) (h : sInv m K L M) : sInv m K L (rs ρ M) := by
  intro v hv i j hi hj hL X
  obtain ⟨u, hu, he⟩ := rs_from hB h0m hM hρ hv
  rw [he i hi, he j hj] at hL
  obtain ⟨t, c, d, e⟩ := h u hu _ _ (hρ.lt hi) (hρ.lt hj) hL X
  refine ⟨fun i => t (ρ i), rs_to hρ c, fun i j hi hj => ?_, e⟩
  rw [he i hi, he j hj]
  exact d _ _ (hρ.lt hi) (hρ.lt hj)
theorem sInv_pass {m : Nat} {K L : Rat} (hK : 0 ≤ K) (hL0 : 0 ≤ L) {B : Int} (hB : 2 * B + 1 < AN) (h0m : 0 < m) {M : iM} (hM : zgd m B M) (hpos : ∀ j, j < m → M 0 j ≤ 1) (h : sInv m K L M) : sInv m K (L + K + 1) (pm M) := by
  have nn : ∀ {u : Nat → Rat}, sem m M u → ∀ j, j < m → u 0 - u j ≤ 0 := fun hu j hj => by
    have := lb_mono (hpos j hj) (by decide) (hu 0 j h0m hj)
    exact (lb_one _).mp this
  -- times u' alike u, then time t' alike t
  have alike : ∀ {v u : Nat → Rat} {t t' : Rat}, sem m M (vup v 0 (v 0 + t)) → sem m M u → eqv K m (vup v 0 (v 0 + t)) u → 0 ≤ t → 0 ≤ t' → (t = t' ∨ (K < t ∧ K < t')) → eqv K m v (vup u 0 (u 0 - t')) := by
    intro v u t t' h1 h2 h3 ht ht' htt i j hi hj
    have g := h3 i j hi hj
    unfold vup at g ⊢
    by_cases hi0 : i = 0
    · by_cases hj0 : j = 0
      · rw [if_pos hi0, if_pos hj0, hi0, hj0]
        left
        grind
      · rw [if_pos hi0, if_neg hj0] at g ⊢
        have a := nn h1 j hj
        have b := nn h2 j hj
        unfold vup at a
        rw [if_pos rfl, if_neg hj0] at a
        rw [hi0] at g ⊢
        rcases htt with e | e
        · rcases g with g | g | g
          · left; grind
          · exfalso; grind
          · right; right; grind
        · right; right; grind
    · by_cases hj0 : j = 0
      · rw [if_neg hi0, if_pos hj0] at g ⊢
        have a := nn h1 i hi
        have b := nn h2 i hi
        unfold vup at a
        rw [if_pos rfl, if_neg hi0] at a
        rw [hj0] at g ⊢
        rcases htt with e | e
        · rcases g with g | g | g
          · left; grind
          · right; left; grind
          · exfalso; grind
        · right; left; grind
      · rw [if_neg hi0, if_neg hj0] at g ⊢
        exact g
  intro v hv i j hi hj hL X
  obtain ⟨t, ht, hs⟩ := pm_from hB h0m hM hv
  by_cases hi0 : i = 0
  · exfalso
    have a := nn hs j hj
    unfold vup at a
    by_cases hj0 : j = 0
    · rw [hi0, hj0] at hL
      grind
    · rw [if_pos rfl, if_neg hj0] at a
      rw [hi0] at hL
      grind
  · by_cases hj0 : j = 0
    · by_cases htk : K < t
      · -- time itself is stretched
        have r0 : eqv K m (vup v 0 (v 0 + t)) (vup v 0 (v 0 + t)) := fun _ _ _ _ => Or.inl rfl
        have big : ∃ s : Rat, 0 ≤ s ∧ X ≤ s := by
          rcases (Rat.le_total : 0 ≤ X ∨ X ≤ 0) with g | g
          · exact ⟨X, g, by grind⟩
          · exact ⟨0, by grind, g⟩
        obtain ⟨s, s0, sX⟩ := big
        have tn : 0 ≤ t + s := by grind
        refine ⟨vup (vup v 0 (v 0 + t)) 0 (vup v 0 (v 0 + t) 0 - (t + s)), pm_to (hM.2.1 0 h0m) hs tn, alike hs hs r0 ht tn (Or.inr ⟨htk, by grind⟩), ?_⟩
        have a := nn hs i hi
        unfold vup at a ⊢
        rw [if_pos rfl, if_neg hi0] at a
        rw [if_neg hi0, if_neg hi0, if_pos hj0, if_pos rfl]
        grind
      · have g : L < vup v 0 (v 0 + t) i - vup v 0 (v 0 + t) 0 := by
          unfold vup
          rw [if_neg hi0, if_pos rfl]
          rw [hj0] at hL
          grind
        obtain ⟨u, c, d, e⟩ := h _ hs i 0 hi h0m g X
        refine ⟨vup u 0 (u 0 - t), pm_to (hM.2.1 0 h0m) c ht, alike hs c d ht ht (Or.inl rfl), ?_⟩
        unfold vup
        rw [if_neg hi0, if_pos hj0]
        grind
    · have g : L < vup v 0 (v 0 + t) i - vup v 0 (v 0 + t) j := by
        unfold vup
        rw [if_neg hi0, if_neg hj0]
        grind
      obtain ⟨u, c, d, e⟩ := h _ hs i j hi hj g X
      refine ⟨vup u 0 (u 0 - t), pm_to (hM.2.1 0 h0m) c ht, alike hs c d ht ht (Or.inl rfl), ?_⟩
      unfold vup
      rw [if_neg hi0, if_neg hj0]
      exact e
/-! bounds out of these -/
theorem sem_ex {m : Nat} {B : Int} (hB : 2 * B + 1 < AN) {M : iM} (hM : zgd m B M) : ∃ v, sem m M v := by
  obtain ⟨u, hu, _⟩ := ext_all hB hM m (fun _ => False) (fun _ => 0) (fun i _ _ => by omega) (fun _ _ _ _ h _ => h.elim)
  exact ⟨u, hu⟩
/-- a bound that isn't ANY is nearly met -/
theorem near {m : Nat} {B : Int} (hB : 2 * B + 1 < AN) {M : iM} (hM : zgd m B M) {i j : Nat} (hi : i < m) (hj : j < m) (hij : i ≠ j) : ∃ v, sem m M v ∧ cR (M i j) - 1 < v i - v j := by
  obtain ⟨y, hy⟩ := ext1 hB hM (fun k => k = j) (v := fun _ => 0) (fun a b ha hb e1 e2 => by
    rw [e1, e2, hM.2.1 j hj, lb_one]
    grind) hi
  have h1 := (hy j hj rfl).1
  have h2 := (hy j hj rfl).2
  have fin : ∀ z : Rat, y ≤ z → lb (M i j) (z - 0) → cR (M i j) - 1 < z → ∃ v, sem m M v ∧ cR (M i j) - 1 < v i - v j := by
    intro z g1 g2 g3
    obtain ⟨u, hu, he⟩ := ext_all hB hM m (fun k => k = j ∨ k = i) (vup (fun _ => 0) i z) (fun k _ _ => by omega) (fun a b ha hb e1 e2 => by
      unfold vup
      rcases e1 with e1 | e1 <;> rcases e2 with e2 | e2
      · rw [e1, e2, if_neg (Ne.symm hij), hM.2.1 j hj, lb_one]
        grind
      · rw [e1, e2, if_neg (Ne.symm hij), if_pos rfl]
        exact lb_up h1 g1
      · rw [e1, e2, if_pos rfl, if_neg (Ne.symm hij)]
        exact g2
      · rw [e1, e2, if_pos rfl, hM.2.1 i hi, lb_one]
        grind)
    refine ⟨u, hu, ?_⟩
    rw [he i hi (Or.inr rfl), he j hj (Or.inl rfl)]
    unfold vup
    rw [if_pos rfl, if_neg (Ne.symm hij)]
    grind
  rcases (Rat.le_total : y ≤ cR (M i j) - 1 / 2 ∨ cR (M i j) - 1 / 2 ≤ y) with g | g
  · exact fin (cR (M i j) - 1 / 2) g (lb_of_lt (by grind)) (by grind)
  · exact fin y (by grind) h2 (by grind)
theorem sInv_hi {m : Nat} {B : Int} (hB : 2 * B + 1 < AN) {M : iM} (hM : zgd m B M) {K : Rat} {l : Int} (h : sInv m K (l : Rat) M) {i j : Nat} (hi : i < m) (hj : j < m) (hij : i ≠ j) (hA : M i j ≠ AN) : M i j ≤ 2 * l + 3 := by
  obtain ⟨v, hv, hn⟩ := near hB hM hi hj hij
  rcases Int.lt_or_le (l + 1) (M i j / 2) with g | g
  · exfalso
    have c : ((l + 1 : Int) : Rat) < cR (M i j) := Rat.intCast_lt_intCast.mpr g
    rw [Rat.intCast_add] at c
    have o : ((1 : Int) : Rat) = 1 := rfl
    rw [o] at c
    obtain ⟨u, hu, _, hx⟩ := h v hv i j hi hj (by grind) (cR (M i j))
    have := lb_weak (hu i j hi hj) hA
    grind
  · omega
theorem wInv_lo {m : Nat} {M : iM} {l : Int} {u : Nat → Rat} (hu : sem m M u) {i j : Nat} (hi : i < m) (hj : j < m) (h : u j - u i ≤ (l : Rat)) (hA : M i j ≠ AN) : -(2 * l) ≤ M i j := by
  have w := lb_weak (hu i j hi hj) hA
  have c : ((-l : Int) : Rat) ≤ cR (M i j) := by
    rw [Rat.intCast_neg]
    grind
  have := Rat.intCast_le_intCast.mp c
  omega
theorem bInv_fn {m : Nat} {B : Int} (hB : 2 * B + 1 < AN) {M : iM} (hM : zgd m B M) {K : Rat} {l : Int} (hl : 0 ≤ l) (h : bInv m K (l : Rat) M) {i j : Nat} (hi : i < m) (hj : j < m) : fn (2 * l + 3) (M i j) := by
  by_cases hA : M i j = AN
  · exact Or.inl hA
  by_cases hij : i = j
  · rw [hij, hM.2.1 j hj]
    exact Or.inr (by omega)
  obtain ⟨v, hv⟩ := sem_ex hB hM
  obtain ⟨u, hu, _, he⟩ := h.1 v hv
  have lo := wInv_lo hu hi hj (he j i hj hi) hA
  have hi2 := sInv_hi hB hM (K := K) (l := l) h.2 hi hj hij hA
  exact Or.inr (by omega)
