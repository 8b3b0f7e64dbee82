/-! LET GO -/
def lgM (g : Nat → Int) (M : iM) : iM := fun i j => if i = j then M i j else if 0 < i ∧ g i < M i j / 2 then AN else if -(g j) ≤ M i j / 2 then M i j else -2 * g j
theorem lv_int {g : Nat → Int32} (hg : ∀ i, i < 4 → 0 ≤ (g i).toInt ∧ (g i).toInt ≤ 200) {i j : Nat} (hi : i < 4) (hj : j < 4) {b : Int32} (hb : i = 0 → b.toInt ≤ 1) : (lv g i j b).toInt = if 0 < i ∧ (g i).toInt < b.toInt / 2 then AN else if -(g j).toInt ≤ b.toInt / 2 then b.toInt else -2 * (g j).toInt := by
  have gi := hg i hi
  have gj := hg j hj
  have hA : (1000000 : Int32).toInt = AN := by decide
  have one : (1 : Int32).toInt = 1 := by decide
  have m2 : ((-2 : Int32)).toInt = -2 := by decide
  have en : (-(g j)).toInt = -(g j).toInt := by
    rw [Int32.toInt_neg]
    exact bm_id (by omega) (by omega)
  have em : ((-2 : Int32) * g j).toInt = -2 * (g j).toInt := by
    rw [Int32.toInt_mul, m2]
    exact bm_id (by omega) (by omega)
  have c1 : (b >>> ((1 : Int32) &&& 31) ≤ g i) ↔ b.toInt / 2 ≤ (g i).toInt := by rw [i32_le, shr1]
  have c2 : (-(g j) ≤ b >>> ((1 : Int32) &&& 31)) ↔ -(g j).toInt ≤ b.toInt / 2 := by rw [i32_le, shr1, en]
  have e1 : (lb1 g i j b).toInt = if 0 < i ∧ (g i).toInt < b.toInt / 2 then AN else if -(g j).toInt ≤ b.toInt / 2 then b.toInt else -2 * (g j).toInt := by
    unfold lb1
    by_cases h : 0 < i ∧ (g i).toInt < b.toInt / 2
    · rw [if_pos h, if_pos ⟨h.1, fun t => by have := c1.mp t; omega⟩]
      exact hA
    · rw [if_neg h, if_neg (fun t => h ⟨t.1, by
        rcases Int.lt_or_le (g i).toInt (b.toInt / 2) with u | u
        · exact u
        · exact absurd (c1.mpr u) t.2⟩)]
      by_cases h2 : -(g j).toInt ≤ b.toInt / 2
      · rw [if_pos h2, if_pos (c2.mpr h2)]
      · rw [if_neg h2, if_neg (fun t => h2 (c2.mp t)), em]
  unfold lv
  by_cases h0 : i = 0
  · have hle : lb1 g i j b ≤ 1 := by
      rw [i32_le, e1, one, if_neg (by omega)]
      have := hb h0
      split <;> omega
    rw [if_neg (fun t => t.2 hle)]
    exact e1
  · rw [if_neg (fun t => h0 t.1)]
    exact e1
theorem lt_zi {g : Nat → Int32} (hg : ∀ i, i < 4 → 0 ≤ (g i).toInt ∧ (g i).toInt ≤ 200) {Z : Nat → Int32} (h0 : ∀ j, j < 4 → zi Z 0 j ≤ 1) {i j : Nat} (hi : i < 4) (hj : j < 4) : zi (lt g Z) i j = lgM (fun k => (g k).toInt) (zi Z) i j := by
  have row : ∀ k, k < 4 → ∀ W : Nat → Int32, (∀ a b, a < 4 → b < 4 → zi W a b = if a < k then lgM (fun k => (g k).toInt) (zi Z) a b else zi Z a b) → ∀ a b, a < 4 → b < 4 → zi (it (lt1 g k) 0 4 W) a b = if a < k + 1 then lgM (fun k => (g k).toInt) (zi Z) a b else zi Z a b := by
    intro k hk W hW a b ha hb
    have h := it_inv (lt1 g k) (fun d Y => ∀ a b, a < 4 → b < 4 → zi Y a b = if a < k ∨ (a = k ∧ b < d) then lgM (fun k => (g k).toInt) (zi Z) a b else zi Z a b) 4 (fun d Y hd hY a b ha hb => by
      unfold lt1
      by_cases hkd : k = d
      · rw [if_pos hkd, hY a b ha hb]
        by_cases e : a = k ∧ b = d
        · rw [if_neg (by omega), if_pos (by omega)]
          unfold lgM
          rw [if_pos (by omega)]
        · by_cases t : a < k ∨ (a = k ∧ b < d)
          · rw [if_pos t, if_pos (by omega)]
          · rw [if_neg t, if_neg (by omega)]
      · rw [if_neg hkd, zi_fu (by omega) (by omega)]
        unfold up1
        by_cases e : a = k ∧ b = d
        · rw [if_pos e, if_pos (by omega)]
          have ey : (Y (5 * k + d)).toInt = zi Z k d := by
            have := hY k d hk hd
            rw [if_neg (by omega)] at this
            exact this
          rw [lv_int hg hk hd (fun t => by rw [ey, t]; exact h0 d hd), ey, e.1, e.2]
          unfold lgM
          rw [if_neg hkd]
        · rw [if_neg e, hY a b ha hb]
          by_cases t : a < k ∨ (a = k ∧ b < d)
          · rw [if_pos t, if_pos (by omega)]
          · rw [if_neg t, if_neg (by omega)]) 4 0 W (by omega) (fun a b ha hb => by
      rw [hW a b ha hb]
      by_cases t : a < k
      · rw [if_pos t, if_pos (by omega)]
      · rw [if_neg t, if_neg (by omega)])
    rw [h a b ha hb]
    by_cases t : a < k + 1
    · rw [if_pos t, if_pos (by omega)]
    · rw [if_neg t, if_neg (by omega)]
  have h := it_inv (fun i Z => it (lt1 g i) 0 4 Z) (fun k W => ∀ a b, a < 4 → b < 4 → zi W a b = if a < k then lgM (fun k => (g k).toInt) (zi Z) a b else zi Z a b) 4 (fun k W hk hW => row k hk W hW) 4 0 Z (by omega) (fun a b _ _ => by rw [if_neg (by omega)])
  have e := h i j hi hj
  rw [if_pos hi] at e
  exact e
/-! one more clock's time, above given limits of clocks still to come -/
theorem ext1V {m : Nat} {B : Int} (hB : B ≤ 200000) {M : iM} (hM : zgd m B M) (P V : Nat → Prop) {v s : Nat → Rat} (hv : ∀ i j, i < m → j < m → P i → P j → lb (M i j) (v i - v j)) (hs : ∀ x j, x < m → j < m → V x → P j → lb (sm 0 (M x j)) (s x - v j)) (hex : ∃ i, i < m ∧ P i) {x : Nat} (hx : x < m) : ∃ y, (∀ i, i < m → P i → lb (M i x) (v i - y) ∧ lb (M x i) (y - v i)) ∧ ∀ k, k < m → V k → lb (sm 0 (M k x)) (s k - y) := by
  have hA := AN_is
  have fl := hM.2.2
  have f0 : fn 0 (0 : Int) := Or.inr (by omega)
  obtain ⟨i, hi, hPi, hl⟩ := up_min (fun k y => if k < m then lb (M k x) (v k - y) else lb (sm 0 (M (k - m) x)) (s (k - m) - y)) (fun k => if k < m then P k else V (k - m)) (fun k y z h g => by
    by_cases hk : k < m
    · rw [if_pos hk] at h ⊢
      exact lb_up h g
    · rw [if_neg hk] at h ⊢
      exact lb_up h g) (m + m) (by
    obtain ⟨i, hi, hPi⟩ := hex
    exact ⟨i, by omega, by rw [if_pos hi]; exact hPi⟩)
  obtain ⟨j, hj, hPj, hu⟩ := dn_min (fun i y => lb (M x i) (y - v i)) P (fun i y z h g => lb_dn h g) m hex
  have pair : ∃ y, (if i < m then lb (M i x) (v i - y) else lb (sm 0 (M (i - m) x)) (s (i - m) - y)) ∧ lb (M x j) (y - v j) := by
    by_cases him : i < m
    · rw [if_pos him] at hPi
      have h := lb_mono (hM.1 i j x him hj hx) (sm_le_AN (fl i x him hx) (fl x j hx hj) (by omega)) (hv i j him hj hPi hPj)
      obtain ⟨y, h1, h2⟩ := lb_split (fun n1 n2 t => by
        have := sm_bd n1 n2
        have b1 := (fl i x him hx).resolve_left n1
        have b2 := (fl x j hx hj).resolve_left n2
        rw [t] at this
        omega) h
      exact ⟨y, by rw [if_pos him]; exact h1, h2⟩
    · rw [if_neg him] at hPi
      have hk : i - m < m := by omega
      have bkx := fl (i - m) x hk hx
      have bxj := fl x j hx hj
      have bkj := fl (i - m) j hk hj
      have s1 := sm_fn bkx bxj
      have s2 := sm_fn f0 bkx
      have le1 : sm 0 (M (i - m) j) ≤ sm (sm 0 (M (i - m) x)) (M x j) := by
        rw [sm_assoc (B := 200000) (fn_mono f0 (by omega)) (fn_mono bkx hB) (fn_mono bxj hB) (by omega)]
        exact sm_mo (B := 400001) (fn_mono f0 (by omega)) (fn_mono bkj (by omega)) (by omega) (Int.le_refl _) (hM.1 _ j x hk hj hx) (by omega) (fn_le s1 (by omega))
      have h := lb_mono le1 (sm_le_AN (B := 200001) (fn_mono s2 (by omega)) (fn_mono bxj (by omega)) (by omega)) (hs (i - m) j hk hj hPi hPj)
      obtain ⟨y, h1, h2⟩ := lb_split (fun n1 n2 t => by
        have := sm_bd n1 n2
        have b1 := s2.resolve_left n1
        have b2 := bxj.resolve_left n2
        rw [t] at this
        omega) h
      exact ⟨y, by rw [if_neg him]; exact h1, h2⟩
  obtain ⟨y, h1, h2⟩ := pair
  refine ⟨y, fun k hk hPk => ⟨?_, hu k hk hPk y h2⟩, fun k hk hVk => ?_⟩
  · have := hl k (by omega) (by rw [if_pos hk]; exact hPk) y h1
    rw [if_pos hk] at this
    exact this
  · have hn : ¬ (m + k < m) := by omega
    have e : m + k - m = k := by omega
    have := hl (m + k) (by omega) (by rw [if_neg hn, e]; exact hVk) y h1
    rw [if_neg hn, e] at this
    exact this
theorem ext_allV {m : Nat} {B : Int} (hB : B ≤ 200000) {M : iM} (hM : zgd m B M) (V : Nat → Prop) (s : Nat → Rat) : ∀ d (P : Nat → Prop) (v : Nat → Rat), (∃ i, i < m ∧ P i) → (∀ i, i < m → ¬ P i → m ≤ i + d) → (∀ i j, i < m → j < m → P i → P j → lb (M i j) (v i - v j)) → (∀ x j, x < m → j < m → V x → P j → lb (sm 0 (M x j)) (s x - v j)) → ∃ u, sem m M u ∧ (∀ i, i < m → P i → u i = v i) ∧ ∀ x, x < m → V x → s x < u x := by
  intro d
  induction d with
  | zero =>
    intro P v hex hP hv hs
    have all : ∀ i, i < m → P i := fun i hi => Classical.byContradiction (fun t => by have := hP i hi t; omega)
    refine ⟨v, fun i j hi hj => hv i j hi hj (all i hi) (all j hj), fun _ _ _ => rfl, fun x hx hVx => ?_⟩
    have h := hs x x hx hx hVx (all x hx)
    rw [hM.2.1 x hx, sm_one] at h
    have := lb_neg (by decide) h
    grind
  | succ d ih =>
    intro P v hex hP hv hs
    by_cases hx : d + 1 ≤ m ∧ ¬ P (m - (d + 1))
    · have hxm : m - (d + 1) < m := by omega
      obtain ⟨y, hy, hz⟩ := ext1V hB hM P V hv hs hex hxm
      obtain ⟨u, hu, he, hw⟩ := ih (fun i => P i ∨ i = m - (d + 1)) (vup v (m - (d + 1)) y) (by
        obtain ⟨i, a, b⟩ := hex
        exact ⟨i, a, Or.inl b⟩) (fun i hi hn => by
        have h1 := hP i hi (fun t => hn (Or.inl t))
        have h2 : i ≠ m - (d + 1) := fun t => hn (Or.inr t)
        omega) (fun i j hi hj hPi hPj => by
        have lz : lb (M (m - (d + 1)) (m - (d + 1))) (y - y) := by
          rw [hM.2.1 _ hxm, lb_one]
          grind
        unfold vup
        by_cases hix : i = m - (d + 1)
        · by_cases hjx : j = m - (d + 1)
          · rw [if_pos hix, if_pos hjx, hix, hjx]; exact lz
          · rw [if_pos hix, if_neg hjx, hix]
            exact (hy j hj (hPj.resolve_right hjx)).2
        · by_cases hjx : j = m - (d + 1)
          · rw [if_neg hix, if_pos hjx, hjx]
            exact (hy i hi (hPi.resolve_right hix)).1
          · rw [if_neg hix, if_neg hjx]
            exact hv i j hi hj (hPi.resolve_right hix) (hPj.resolve_right hjx)) (fun k j hk hj hVk hPj => by
        unfold vup
        by_cases hjx : j = m - (d + 1)
        · rw [if_pos hjx, hjx]
          exact hz k hk hVk
        · rw [if_neg hjx]
          exact hs k j hk hj hVk (hPj.resolve_right hjx))
      refine ⟨u, hu, fun i hi hPi => ?_, hw⟩
      rw [he i hi (Or.inl hPi)]
      unfold vup
      have hne : ¬ (i = m - (d + 1)) := fun t => hx.2 (by rw [← t]; exact hPi)
      rw [if_neg hne]
    · exact ih P v hex (fun i hi hn => by
        have := hP i hi hn
        rcases Nat.lt_or_ge m (i + d) with g | g
        · omega
        · by_cases e : m = i + d
          · omega
          · have hi2 : i = m - (d + 1) := by omega
            exact absurd ⟨by omega, hi2 ▸ hn⟩ hx) hv hs
/-- times alike as far as tests of clocks up to g can tell -/
def eqM (g : Nat → Int) (m : Nat) (v u : Nat → Rat) : Prop := ∀ x, x < m → v x - v 0 = u x - u 0 ∨ (((g x : Int) : Rat) < v x - v 0 ∧ ((g x : Int) : Rat) < u x - u 0)
/-- LET GO adds only times that are alike to some that were there -/
theorem lg_from {m : Nat} {B : Int} (hB : B ≤ 200000) (h0m : 0 < m) {M : iM} (hM : zgd m B M) (h0 : ∀ j, j < m → M 0 j ≤ 1) {g : Nat → Int} (hg : ∀ i, i < m → 0 ≤ g i) (hg0 : g 0 = 0) {v : Nat → Rat} (hv : sem m (lgM g M) v) : ∃ u, sem m M u ∧ eqM g m v u := by
  have hA := AN_is
  have gR : ∀ i, i < m → (0 : Rat) ≤ ((g i : Int) : Rat) := fun i hi => Rat.intCast_le_intCast.mpr (hg i hi)
  have g0R : ((g 0 : Int) : Rat) = 0 := by rw [hg0]; rfl
  have pos : ∀ j, j < m → v 0 - v j ≤ 0 := fun j hj => by
    have h := hv 0 j h0m hj
    have le1 : lgM g M 0 j ≤ 1 := by
      unfold lgM
      have := h0 j hj
      have := hg j hj
      split
      · exact h0 j hj
      · rw [if_neg (by omega)]
        split <;> omega
    exact (lb_one _).mp (lb_mono le1 (by decide) h)
  have hm2 : ∀ j, cR (-2 * g j) = -((g j : Int) : Rat) := fun j => by
    unfold cR
    rw [← Rat.intCast_neg]
    congr 1
    omega
  -- what LET GO says between x and j
  have kind : ∀ x j, x < m → j < m → x ≠ j → (0 < x ∧ ((g x : Int) : Rat) < cR (M x j)) ∨ (v x - v j < -((g j : Int) : Rat)) ∨ lb (M x j) (v x - v j) := fun x j hx hj hxj => by
    have h := hv x j hx hj
    unfold lgM at h
    rw [if_neg hxj] at h
    by_cases c1 : 0 < x ∧ g x < M x j / 2
    · exact Or.inl ⟨c1.1, Rat.intCast_lt_intCast.mpr c1.2⟩
    · rw [if_neg c1] at h
      by_cases c2 : -(g j) ≤ M x j / 2
      · rw [if_pos c2] at h
        exact Or.inr (Or.inr h)
      · rw [if_neg c2] at h
        refine Or.inr (Or.inl ?_)
        rcases h with t | t | t
        · have := hg j hj
          omega
        · omega
        · have := t.2
          rw [hm2] at this
          exact this
  obtain ⟨u, hu, he, hw⟩ := ext_allV hB hM (fun x => ((g x : Int) : Rat) < v x - v 0) (fun x => ((g x : Int) : Rat) + v 0) m (fun x => v x - v 0 ≤ ((g x : Int) : Rat)) v ⟨0, h0m, by rw [g0R]; grind⟩ (fun i hi _ => by omega) (fun i j hi hj hPi hPj => by
    by_cases hij : i = j
    · rw [hij, hM.2.1 j hj, lb_one]
      grind
    · have pi := pos i hi
      have pj := pos j hj
      rcases kind i j hi hj hij with k | k | k
      · exact lb_of_lt (by grind)
      · exfalso; grind
      · exact k) (fun x j hx hj hVx hPj => by
    have px := pos x hx
    have pj := pos j hj
    have gx := gR x hx
    by_cases hxj : x = j
    · exfalso
      rw [hxj] at hVx
      grind
    · by_cases hMA : M x j = AN
      · rw [hMA, sm_A]; exact lb_AN _
      · have e0 : cR (sm 0 (M x j)) = cR (M x j) := by
          rw [cR_sm (by decide) hMA]
          have z : cR 0 = 0 := rfl
          rw [z]
          grind
        refine lb_of_lt ?_
        rw [e0]
        rcases kind x j hx hj hxj with k | k | k
        · have := k.2
          grind
        · exfalso; grind
        · have := lb_weak k hMA
          grind)
  refine ⟨u, hu, fun x hx => ?_⟩
  have e0 : u 0 = v 0 := he 0 h0m (by rw [g0R]; grind)
  by_cases hS : v x - v 0 ≤ ((g x : Int) : Rat)
  · left
    rw [he x hx hS, e0]
  · right
    have hV : ((g x : Int) : Rat) < v x - v 0 := by grind
    have := hw x hx hV
    rw [e0]
    exact ⟨hV, by grind⟩
