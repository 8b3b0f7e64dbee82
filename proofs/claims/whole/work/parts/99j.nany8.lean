/-! no bound of THE HAND's zone is far below: weak times, in whole numbers -/
def semW (X : iM) (v : Nat → Int) : Prop := ∀ i j, i < 4 → j < 4 → X i j < AN → v i - v j ≤ X i j / 2
def eq1 (K a b : Int) : Prop := a = b ∨ (K < a ∧ K < b) ∨ (a < -K ∧ b < -K)
def eqI (K : Int) (v u : Nat → Int) : Prop := ∀ i j, i < 4 → j < 4 → eq1 K (v i - v j) (u i - u j)
def wI (K L : Int) (X : iM) : Prop := ∀ v, semW X v → ∃ u, semW X u ∧ eqI K v u ∧ ∀ i j, i < 4 → j < 4 → u i - u j ≤ L
theorem nps_half (a b : Int) : nps a b / 2 = a / 2 + b / 2 := by
  unfold nps
  split <;> omega
theorem semW_fw {X : iM} {k : Nat} (hA : lA X) (hk : k < 4) {v : Nat → Int} : semW (fw k X) v ↔ semW X v := by
  constructor
  · intro h i j hi hj hf
    have l := fw_le k X i j
    have := h i j hi hj (by omega)
    omega
  · intro h i j hi hj hf
    rcases fw_or hA hk hi hj with e | ⟨a1, a2, e, a3⟩
    · rw [e] at hf ⊢
      exact h i j hi hj hf
    · rw [e, nps_half]
      have p := h i k hi hk a1
      have q := h k j hk hj a2
      omega
theorem semW_xs {X : iM} (hA : lA X) {v : Nat → Int} : ∀ s, s < 5 → (semW (xs X s) v ↔ semW X v) := by
  intro s
  induction s with
  | zero => intro _; exact Iff.rfl
  | succ s ih =>
    intro hs
    have lAs : lA (xs X s) := fun i j hi hj => Int.le_trans (xs_mono (X := X) (Nat.zero_le s) i j) (hA i j hi hj)
    exact (semW_fw lAs (by omega)).trans (ih (by omega))
theorem wI_xs {X : iM} {K L : Int} (hA : lA X) (h : wI K L X) : wI K L (xs X 4) := by
  intro v hv
  obtain ⟨u, a, b, c⟩ := h v ((semW_xs hA 4 (by omega)).mp hv)
  exact ⟨u, (semW_xs hA 4 (by omega)).mpr a, b, c⟩
theorem wI_cut {M0 K L : Int} {H O : iM} (hA : lA H) (hK : M0 + 1 ≤ 2 * K) (hO : oHZ M0 H O) (hd : ∀ i, i < 4 → O i i = 1) (h : wI K L H) : wI K L O := by
  intro v hv
  obtain ⟨u, a, b, c⟩ := h v (fun i j hi hj hf => by
    have := hO.1 i j hi hj
    have := hv i j hi hj (by omega)
    omega)
  refine ⟨u, fun i j hi hj hf => ?_, b, c⟩
  by_cases hij : i = j
  · subst hij
    have := hd i hi
    omega
  · rcases hO.2 i j hi hj hij hf with e | e
    · have := a i j hi hj (by omega)
      omega
    · have p := hv i j hi hj hf
      rcases b i j hi hj with g | g | g <;> omega
theorem semW_lo {S T1 TF : Int} {H : iM} (h : hgd S T1 TF H) : semW H (fun j => -(H 0 j / 2)) := by
  have hNA := AN_is
  obtain ⟨a, b, c, d, _⟩ := h
  intro i j hi hj hf
  have c1 := c i hi
  have t := d i hi 0 j (by omega) hj (by omega) hf
  have e := nps_half (H 0 i) (H i j)
  show -(H 0 i / 2) - -(H 0 j / 2) ≤ H i j / 2
  omega
theorem wI_lo {S T1 TF K L : Int} {H : iM} (h : hgd S T1 TF H) (hL : 0 ≤ L) (hw : wI K L H) {i j : Nat} (hi : i < 4) (hj : j < 4) : -(2 * L) ≤ H i j := by
  have hNA := AN_is
  have a := h.1 i j hi hj
  by_cases hf : H i j < AN
  · obtain ⟨u, p, _, q⟩ := hw _ (semW_lo h)
    have x := p i j hi hj hf
    have y := q j i hj hi
    omega
  · omega
def vi (v : Nat → Int) (x : Int) : Nat → Int := fun i => if i = 0 then x else v i
theorem vi_0 (v : Nat → Int) (x : Int) : vi v x 0 = x := if_pos rfl
theorem vi_n (v : Nat → Int) (x : Int) {i : Nat} (h : i ≠ 0) : vi v x i = v i := if_neg h
theorem pm_fromW {S T1 TF : Int} {H : iM} (h : hgd S T1 TF H) {v : Nat → Int} (hv : semW (pm H) v) : ∃ t, 0 ≤ t ∧ semW H (vi v (v 0 + t)) := by
  have hNA := AN_is
  obtain ⟨a, b, c, d, _⟩ := h
  have pn : ∀ i j, j ≠ 0 → pm H i j = H i j := fun i j hj => if_neg (fun t => hj t.1)
  have hs : ∀ i j, i < 4 → j < 4 → j ≠ 0 → H i j < AN → v i - v j ≤ H i j / 2 := fun i j hi hj hj0 hf => by
    have := hv i j hi hj
    rw [pn i j hj0] at this
    exact this hf
  have key : ∀ t, 0 ≤ t → (∀ i, i < 4 → i ≠ 0 → H i 0 < AN → v i - v 0 - H i 0 / 2 ≤ t) → (t = 0 ∨ ∃ i, i < 4 ∧ i ≠ 0 ∧ H i 0 < AN ∧ t = v i - v 0 - H i 0 / 2) → semW H (vi v (v 0 + t)) := by
    intro t ht h1 h2 i j hi hj hf
    by_cases hi0 : i = 0
    · subst hi0
      by_cases hj0 : j = 0
      · subst hj0
        have := b 0 hi
        omega
      · rw [vi_0, vi_n _ _ hj0]
        rcases h2 with e | ⟨p, hp, hp0, hpf, e⟩
        · have := hs 0 j hi hj hj0 hf
          omega
        · have q := d 0 hi p j hp hj hpf hf
          have c1 := c j hj
          have l := nps_leR (a := H p 0) c1
          have r := hs p j hp hj hj0 (by omega)
          have e2 := nps_half (H p 0) (H 0 j)
          omega
    · by_cases hj0 : j = 0
      · subst hj0
        rw [vi_n _ _ hi0, vi_0]
        have := h1 i hi hi0 hf
        omega
      · rw [vi_n _ _ hi0, vi_n _ _ hj0]
        exact hs i j hi hj hj0 hf
  have mx : ∀ n, n ≤ 4 → ∃ t, 0 ≤ t ∧ (∀ i, i < n → i ≠ 0 → H i 0 < AN → v i - v 0 - H i 0 / 2 ≤ t) ∧ (t = 0 ∨ ∃ i, i < n ∧ i ≠ 0 ∧ H i 0 < AN ∧ t = v i - v 0 - H i 0 / 2) := by
    intro n
    induction n with
    | zero => intro _; exact ⟨0, by omega, fun i hi => absurd hi (Nat.not_lt_zero i), Or.inl rfl⟩
    | succ n ih =>
      intro hn
      obtain ⟨t, t1, t2, t3⟩ := ih (by omega)
      by_cases g : n ≠ 0 ∧ H n 0 < AN ∧ t < v n - v 0 - H n 0 / 2
      · refine ⟨v n - v 0 - H n 0 / 2, by omega, fun i hi hi0 hf => ?_, Or.inr ⟨n, by omega, g.1, g.2.1, rfl⟩⟩
        by_cases e : i = n
        · rw [e]; exact Int.le_refl _
        · have := t2 i (by omega) hi0 hf
          omega
      · refine ⟨t, t1, fun i hi hi0 hf => ?_, t3.elim Or.inl (fun ⟨i, p, q⟩ => Or.inr ⟨i, by omega, q⟩)⟩
        by_cases e : i = n
        · rw [e] at hi0 hf ⊢
          by_cases g2 : t < v n - v 0 - H n 0 / 2
          · exact absurd ⟨hi0, hf, g2⟩ g
          · omega
        · exact t2 i (by omega) hi0 hf
  obtain ⟨t, t1, t2, t3⟩ := mx 4 (by omega)
  exact ⟨t, t1, key t t1 t2 t3⟩
theorem eq1_add {K a b t s : Int} (h : eq1 K a b) (h1 : 0 ≤ a) (h2 : 0 ≤ b) (g : t = s ∨ (K < t ∧ K < s)) (g1 : 0 ≤ t) (g2 : 0 ≤ s) : eq1 K (a + t) (b + s) := by
  unfold eq1 at *
  omega
theorem eq1_neg {K a b : Int} (h : eq1 K a b) : eq1 K (-a) (-b) := by
  unfold eq1 at *
  omega
theorem eq1_self (K a : Int) : eq1 K a a := Or.inl rfl
theorem wI_pass {S T1 TF K L : Int} {H : iM} (hK : 0 ≤ K) (h : hgd S T1 TF H) (hw : wI K L H) : wI K (L + K + 1) (pm H) := by
  have hNA := AN_is
  intro v hv
  obtain ⟨t, ht, hs⟩ := pm_fromW h hv
  obtain ⟨u, p, q, r⟩ := hw _ hs
  obtain ⟨a, b, c, d, _⟩ := h
  have nn : ∀ {w : Nat → Int}, semW H w → ∀ j, j < 4 → 0 ≤ w j - w 0 := fun hw j hj => by
    have c1 := c j hj
    have := hw 0 j (by omega) hj (by omega)
    omega
  let s : Int := min t (K + 1)
  have hs1 : 0 ≤ s ∧ s ≤ K + 1 ∧ (t = s ∨ (K < t ∧ K < s)) := by
    show 0 ≤ min t (K + 1) ∧ min t (K + 1) ≤ K + 1 ∧ (t = min t (K + 1) ∨ (K < t ∧ K < min t (K + 1)))
    omega
  have up : ∀ i, i < 4 → i ≠ 0 → eq1 K (v i - v 0) (u i - (u 0 - s)) := fun i hi hi0 => by
    have g := q i 0 hi (by omega)
    have n1 := nn hs i hi
    have n2 := nn p i hi
    rw [vi_n _ _ hi0, vi_0] at g n1
    have := eq1_add g n1 n2 hs1.2.2 ht hs1.1
    rw [show v i - (v 0 + t) + t = v i - v 0 by omega, show u i - u 0 + s = u i - (u 0 - s) by omega] at this
    exact this
  refine ⟨vi u (u 0 - s), fun i j hi hj hf => ?_, fun i j hi hj => ?_, fun i j hi hj => ?_⟩
  · by_cases hj0 : j = 0
    · subst hj0
      by_cases hi0 : i = 0
      · subst hi0
        have e : pm H 0 0 = 1 := (if_neg (fun t => t.2 rfl)).trans (b 0 hi)
        rw [e]
        omega
      · rw [show pm H i 0 = AN from if_pos ⟨rfl, hi0⟩] at hf
        omega
    · have e : pm H i j = H i j := if_neg (fun t => hj0 t.1)
      rw [e] at hf ⊢
      have z := p i j hi hj hf
      rw [vi_n _ _ hj0]
      by_cases hi0 : i = 0
      · subst hi0
        rw [vi_0]
        omega
      · rw [vi_n _ _ hi0]
        exact z
  · by_cases hi0 : i = 0
    · subst hi0
      by_cases hj0 : j = 0
      · subst hj0
        exact Or.inl (by omega)
      · rw [vi_0, vi_n _ _ hj0]
        have := eq1_neg (up j hj hj0)
        rw [show -(v j - v 0) = v 0 - v j by omega, show -(u j - (u 0 - s)) = u 0 - s - u j by omega] at this
        exact this
    · by_cases hj0 : j = 0
      · subst hj0
        rw [vi_n _ _ hi0, vi_0]
        exact up i hi hi0
      · rw [vi_n _ _ hi0, vi_n _ _ hj0]
        have g := q i j hi hj
        rw [vi_n _ _ hi0, vi_n _ _ hj0] at g
        exact g
  · have r1 := r i j hi hj
    have r2 := r i 0 hi (by omega)
    have r3 := r 0 j (by omega) hj
    have r4 := r 0 0 (by omega) (by omega)
    by_cases hi0 : i = 0
    · subst hi0
      by_cases hj0 : j = 0
      · subst hj0
        omega
      · rw [vi_0, vi_n _ _ hj0]
        omega
    · by_cases hj0 : j = 0
      · subst hj0
        rw [vi_n _ _ hi0, vi_0]
        omega
      · rw [vi_n _ _ hi0, vi_n _ _ hj0]
        omega
