/-! what a bound says of a difference, over the rationals -/
def cR (a : Int) : Rat := ((a / 2 : Int) : Rat)
def lb (a : Int) (x : Rat) : Prop := a = AN ∨ (a % 2 = 1 ∧ x ≤ cR a) ∨ (a % 2 = 0 ∧ x < cR a)
theorem lb_AN (x : Rat) : lb AN x := Or.inl rfl
theorem lb_weak {a : Int} {x : Rat} (h : lb a x) (ha : a ≠ AN) : x ≤ cR a := by
  rcases h with h | h | h
  · exact absurd h ha
  · exact h.2
  · exact Rat.le_of_lt h.2
theorem lb_of_lt {a : Int} {x : Rat} (h : x < cR a) : lb a x := by
  have p : a % 2 = 1 ∨ a % 2 = 0 := by omega
  rcases p with p | p
  · exact Or.inr (Or.inl ⟨p, Rat.le_of_lt h⟩)
  · exact Or.inr (Or.inr ⟨p, h⟩)
theorem cR_le {a b : Int} (h : a / 2 ≤ b / 2) : cR a ≤ cR b := Rat.intCast_le_intCast.mpr h
theorem cR_lt {a b : Int} (h : a / 2 < b / 2) : cR a < cR b := Rat.intCast_lt_intCast.mpr h
theorem lb_mono {a b : Int} {x : Rat} (h : a ≤ b) (hb : b ≤ AN) (hx : lb a x) : lb b x := by
  by_cases hbA : b = AN
  · exact Or.inl hbA
  have haA : a ≠ AN := fun t => hbA (by omega)
  rcases Int.lt_or_eq_of_le (show a / 2 ≤ b / 2 by omega) with g | g
  · have := cR_lt g
    have := lb_weak hx haA
    exact lb_of_lt (by grind)
  · have e : cR a = cR b := by unfold cR; rw [g]
    rcases hx with t | t | t
    · exact absurd t haA
    · refine Or.inr (Or.inl ⟨by omega, ?_⟩)
      rw [← e]
      exact t.2
    · refine lb_of_lt ?_
      rw [← e]
      exact t.2
theorem cR_sm {a b : Int} (ha : a ≠ AN) (hb : b ≠ AN) : cR (sm a b) = cR a + cR b := by
  unfold cR
  rw [← Rat.intCast_add, sm_fin ha hb]
  congr 1
  split <;> omega
theorem sm_par {a b : Int} (ha : a ≠ AN) (hb : b ≠ AN) : sm a b % 2 = 1 ↔ a % 2 = 1 ∧ b % 2 = 1 := by
  rw [sm_fin ha hb]
  split <;> omega
theorem lb_sum {a b : Int} {x y : Rat} (hx : lb a x) (hy : lb b y) : lb (sm a b) (x + y) := by
  by_cases ha : a = AN
  · rw [ha, A_sm]; exact lb_AN _
  by_cases hb : b = AN
  · rw [hb, sm_A]; exact lb_AN _
  have e := cR_sm ha hb
  have p := sm_par ha hb
  have wx := lb_weak hx ha
  have wy := lb_weak hy hb
  rcases hx with t | t | t
  · exact absurd t ha
  · rcases hy with u | u | u
    · exact absurd u hb
    · refine Or.inr (Or.inl ⟨p.mpr ⟨t.1, u.1⟩, ?_⟩)
      rw [e]
      grind
    · refine lb_of_lt ?_
      have := u.2
      rw [e]
      grind
  · refine lb_of_lt ?_
    have := t.2
    rw [e]
    grind
theorem lb_one (x : Rat) : lb 1 x ↔ x ≤ 0 := by
  have e : cR 1 = 0 := rfl
  constructor
  · intro h
    have := lb_weak h (by decide)
    rw [e] at this
    exact this
  · intro h
    refine Or.inr (Or.inl ⟨by decide, ?_⟩)
    rw [e]
    exact h
theorem lb_neg {a : Int} (h : a < 1) {x : Rat} (hx : lb a x) : x < 0 := by
  have hA := AN_is
  have hn : a ≠ AN := by omega
  rcases Int.lt_or_eq_of_le (show a / 2 ≤ 0 by omega) with g | g
  · have w := lb_weak hx hn
    have c : cR a < 0 := Rat.intCast_lt_intCast.mpr g
    grind
  · have p : a % 2 = 0 := by omega
    rcases hx with t | t | t
    · exact absurd t hn
    · omega
    · have c : cR a = 0 := by unfold cR; rw [g]; rfl
      have := t.2
      rw [c] at this
      exact this
/-- a difference split in two -/
theorem lb_split {a b : Int} (hab : a ≠ AN → b ≠ AN → sm a b ≠ AN) {p q : Rat} (h : lb (sm a b) (p - q)) : ∃ y, lb a (p - y) ∧ lb b (y - q) := by
  by_cases ha : a = AN
  · refine ⟨q + cR b - 1, by rw [ha]; exact lb_AN _, lb_of_lt (by grind)⟩
  by_cases hb : b = AN
  · refine ⟨p - cR a + 1, lb_of_lt (by grind), by rw [hb]; exact lb_AN _⟩
  have hs := hab ha hb
  have e := cR_sm ha hb
  have pr := sm_par ha hb
  rcases h with t | t | t
  · exact absurd t hs
  · have hp := pr.mp t.1
    refine ⟨p - cR a, Or.inr (Or.inl ⟨hp.1, by grind⟩), Or.inr (Or.inl ⟨hp.2, ?_⟩)⟩
    have := t.2
    rw [e] at this
    grind
  · have := t.2
    rw [e] at this
    refine ⟨((p - cR a) + (q + cR b)) / 2, lb_of_lt (by grind), lb_of_lt (by grind)⟩
theorem lb_up {a : Int} {p y z : Rat} (h : lb a (p - y)) (hyz : y ≤ z) : lb a (p - z) := by
  rcases h with t | t | t
  · exact Or.inl t
  · exact Or.inr (Or.inl ⟨t.1, by have := t.2; grind⟩)
  · exact Or.inr (Or.inr ⟨t.1, by have := t.2; grind⟩)
theorem lb_dn {a : Int} {q y z : Rat} (h : lb a (y - q)) (hyz : z ≤ y) : lb a (z - q) := by
  rcases h with t | t | t
  · exact Or.inl t
  · exact Or.inr (Or.inl ⟨t.1, by have := t.2; grind⟩)
  · exact Or.inr (Or.inr ⟨t.1, by have := t.2; grind⟩)
/-- of finitely many up-sets one lies in all -/
theorem up_min (L : Nat → Rat → Prop) (P : Nat → Prop) (hL : ∀ i y z, L i y → y ≤ z → L i z) : ∀ n, (∃ i, i < n ∧ P i) → ∃ i, i < n ∧ P i ∧ ∀ j, j < n → P j → ∀ y, L i y → L j y := by
  intro n
  induction n with
  | zero => intro ⟨i, h, _⟩; omega
  | succ n ih =>
    intro hex
    by_cases hn : ∃ i, i < n ∧ P i
    · obtain ⟨i, hi, hPi, hall⟩ := ih hn
      by_cases hPn : P n
      · by_cases hc : ∀ y, L i y → L n y
        · refine ⟨i, by omega, hPi, fun j hj hPj y hy => ?_⟩
          by_cases hjn : j = n
          · rw [hjn]; exact hc y hy
          · exact hall j (by omega) hPj y hy
        · have hc2 : ∃ y, L i y ∧ ¬ L n y := Classical.byContradiction (fun t => hc (fun y hy => Classical.byContradiction (fun u => t ⟨y, hy, u⟩)))
          obtain ⟨y, hy1, hy2⟩ := hc2
          have hin : ∀ z, L n z → L i z := fun z hz => by
            rcases (Rat.le_total : y ≤ z ∨ z ≤ y) with g | g
            · exact hL i y z hy1 g
            · exact absurd (hL n z y hz g) hy2
          refine ⟨n, by omega, hPn, fun j hj hPj z hz => ?_⟩
          by_cases hjn : j = n
          · rw [hjn]; exact hz
          · exact hall j (by omega) hPj z (hin z hz)
      · refine ⟨i, by omega, hPi, fun j hj hPj y hy => ?_⟩
        by_cases hjn : j = n
        · rw [hjn] at hPj; exact absurd hPj hPn
        · exact hall j (by omega) hPj y hy
    · obtain ⟨i, hi, hPi⟩ := hex
      have e : i = n := by
        rcases Nat.lt_or_ge i n with h | h
        · exact absurd ⟨i, h, hPi⟩ hn
        · omega
      refine ⟨i, hi, hPi, fun j hj hPj y hy => ?_⟩
      have : j = n := by
        rcases Nat.lt_or_ge j n with h | h
        · exact absurd ⟨j, h, hPj⟩ hn
        · omega
      rw [this, ← e]
      exact hy
theorem dn_min (U : Nat → Rat → Prop) (P : Nat → Prop) (hU : ∀ i y z, U i y → z ≤ y → U i z) (n : Nat) (h : ∃ i, i < n ∧ P i) : ∃ i, i < n ∧ P i ∧ ∀ j, j < n → P j → ∀ y, U i y → U j y := by
  obtain ⟨i, a, b, c⟩ := up_min (fun i y => U i (-y)) P (fun i y z h g => hU i (-y) (-z) h (by grind)) n h
  refine ⟨i, a, b, fun j hj hPj y hy => ?_⟩
  have := c j hj hPj (-y)
  have e : -(-y) = y := by grind
  rw [e] at this
  exact this hy
/-- the times of a zone -/
def sem (m : Nat) (M : iM) (v : Nat → Rat) : Prop := ∀ i j, i < m → j < m → lb (M i j) (v i - v j)
/-- one more clock's time can be found -/
theorem ext1 {m : Nat} {B : Int} (hB : 2 * B + 1 < AN) {M : iM} (hM : zgd m B M) (P : Nat → Prop) {v : Nat → Rat} (hv : ∀ i j, i < m → j < m → P i → P j → lb (M i j) (v i - v j)) {x : Nat} (hx : x < m) : ∃ y, ∀ i, i < m → P i → lb (M i x) (v i - y) ∧ lb (M x i) (y - v i) := by
  by_cases hex : ∃ i, i < m ∧ P i
  · obtain ⟨i, hi, hPi, hl⟩ := up_min (fun i y => lb (M i x) (v i - y)) P (fun i y z h g => lb_up h g) m hex
    obtain ⟨j, hj, hPj, hu⟩ := dn_min (fun i y => lb (M x i) (y - v i)) P (fun i y z h g => lb_dn h g) m hex
    have fl := hM.2.2
    have h := lb_mono (hM.1 i j x hi hj hx) (sm_le_AN (fl i x hi hx) (fl x j hx hj) (by omega)) (hv i j hi hj hPi hPj)
    obtain ⟨y, h1, h2⟩ := lb_split (fun n1 n2 t => by
      have := sm_bd n1 n2
      have b1 := (fl i x hi hx).resolve_left n1
      have b2 := (fl x j hx hj).resolve_left n2
      rw [t] at this
      omega) h
    exact ⟨y, fun k hk hPk => ⟨hl k hk hPk y h1, hu k hk hPk y h2⟩⟩
  · exact ⟨0, fun i hi hPi => absurd ⟨i, hi, hPi⟩ hex⟩
def vup (v : Nat → Rat) (x : Nat) (y : Rat) : Nat → Rat := fun i => if i = x then y else v i
/-- times of some clocks go on to times of all -/
theorem ext_all {m : Nat} {B : Int} (hB : 2 * B + 1 < AN) {M : iM} (hM : zgd m B M) : ∀ d (P : Nat → Prop) (v : Nat → Rat), (∀ i, i < m → ¬ P i → m ≤ i + d) → (∀ i j, i < m → j < m → P i → P j → lb (M i j) (v i - v j)) → ∃ u, sem m M u ∧ ∀ i, i < m → P i → u i = v i := by
  intro d
  induction d with
  | zero =>
    intro P v hP hv
    have all : ∀ i, i < m → P i := fun i hi => Classical.byContradiction (fun t => by have := hP i hi t; omega)
    exact ⟨v, fun i j hi hj => hv i j hi hj (all i hi) (all j hj), fun _ _ _ => rfl⟩
  | succ d ih =>
    intro P v hP hv
    by_cases hx : d + 1 ≤ m ∧ ¬ P (m - (d + 1))
    · have hxm : m - (d + 1) < m := by omega
      obtain ⟨y, hy⟩ := ext1 hB hM P hv hxm
      obtain ⟨u, hu, he⟩ := ih (fun i => P i ∨ i = m - (d + 1)) (vup v (m - (d + 1)) y) (fun i hi hn => by
        have h1 := hP i hi (fun t => hn (Or.inl t))
        have h2 : i ≠ m - (d + 1) := fun t => hn (Or.inr t)
        omega) (fun i j hi hj hPi hPj => by
        have lz : lb (M (m - (d + 1)) (m - (d + 1))) (y - y) := by
          rw [hM.2.1 _ hxm, lb_one]
          grind
        unfold vup
        by_cases hix : i = m - (d + 1)
        · by_cases hjx : j = m - (d + 1)
          · rw [if_pos hix, if_pos hjx, hix, hjx]; exact lz
          · rw [if_pos hix, if_neg hjx, hix]
            exact (hy j hj (hPj.resolve_right hjx)).2
        · by_cases hjx : j = m - (d + 1)
          · rw [if_neg hix, if_pos hjx, hjx]
            exact (hy i hi (hPi.resolve_right hix)).1
          · rw [if_neg hix, if_neg hjx]
            exact hv i j hi hj (hPi.resolve_right hix) (hPj.resolve_right hjx))
      refine ⟨u, hu, fun i hi hPi => ?_⟩
      rw [he i hi (Or.inl hPi)]
      unfold vup
      have hne : ¬ (i = m - (d + 1)) := fun t => hx.2 (by rw [← t]; exact hPi)
      rw [if_neg hne]
    · exact ih P v (fun i hi hn => by
        have := hP i hi hn
        rcases Nat.lt_or_ge m (i + d) with g | g
        · omega
        · by_cases e : m = i + d
          · omega
          · have hi2 : i = m - (d + 1) := by omega
            exact absurd ⟨by omega, hi2 ▸ hn⟩ hx) hv
