/-! a state's zone and its exact zone, together -/
def agr (m : Nat) (M N : iM) : Prop := ∀ i j, i < m → j < m → M i j = N i j
theorem agr.symm {m : Nat} {M N : iM} (h : agr m M N) : agr m N M := fun i j hi hj => (h i j hi hj).symm
theorem zgd_cg {m : Nat} {B : Int} {M N : iM} (h : agr m M N) (hM : zgd m B M) : zgd m B N := by
  refine ⟨fun i j k hi hj hk => ?_, fun i hi => ?_, fun i j hi hj => ?_⟩
  · rw [← h i j hi hj, ← h i k hi hk, ← h k j hk hj]; exact hM.1 i j k hi hj hk
  · rw [← h i i hi hi]; exact hM.2.1 i hi
  · rw [← h i j hi hj]; exact hM.2.2 i j hi hj
theorem sem_cg {m : Nat} {M N : iM} (h : agr m M N) {v : Nat → Rat} : sem m M v ↔ sem m N v := by
  constructor
  · intro g i j hi hj; rw [← h i j hi hj]; exact g i j hi hj
  · intro g i j hi hj; rw [h i j hi hj]; exact g i j hi hj
theorem bInv_cg {m : Nat} {K L : Rat} {M N : iM} (h : agr m M N) (hb : bInv m K L M) : bInv m K L N := by
  refine ⟨fun v hv => ?_, fun v hv i j hi hj hL X => ?_⟩
  · obtain ⟨u, a, b⟩ := hb.1 v ((sem_cg h).mpr hv)
    exact ⟨u, (sem_cg h).mp a, b⟩
  · obtain ⟨u, a, b⟩ := hb.2 v ((sem_cg h).mpr hv) i j hi hj hL X
    exact ⟨u, (sem_cg h).mp a, b⟩
theorem sInv_cg {m : Nat} {K L : Rat} {M N : iM} (h : agr m M N) (hb : sInv m K L M) : sInv m K L N := by
  intro v hv i j hi hj hL X
  obtain ⟨u, a, b⟩ := hb v ((sem_cg h).mpr hv) i j hi hj hL X
  exact ⟨u, (sem_cg h).mp a, b⟩
theorem bInv_mono {m : Nat} {K L L' : Rat} {M : iM} (h : bInv m K L M) (hL : L ≤ L') : bInv m K L' M := by
  refine ⟨fun v hv => ?_, fun v hv i j hi hj hX X => h.2 v hv i j hi hj (by grind) X⟩
  obtain ⟨u, a, b, c⟩ := h.1 v hv
  exact ⟨u, a, b, fun i j hi hj => by have := c i j hi hj; grind⟩
theorem sInv_mono {m : Nat} {K L L' : Rat} {M : iM} (h : sInv m K L M) (hL : L ≤ L') : sInv m K L' M := fun v hv i j hi hj hX X => h v hv i j hi hj (by grind) X
theorem zgd_mono {m : Nat} {B C : Int} {M : iM} (h : zgd m B M) (hB : B ≤ C) : zgd m C M := ⟨h.1, h.2.1, fun i j hi hj => fn_mono (h.2.2 i j hi hj) hB⟩
theorem zgd_sub {m n : Nat} {B : Int} {M : iM} (h : zgd m B M) (hn : n ≤ m) : zgd n B M := ⟨fun i j k hi hj hk => h.1 i j k (by omega) (by omega) (by omega), fun i hi => h.2.1 i (by omega), fun i j hi hj => h.2.2 i j (by omega) (by omega)⟩
/-- a mark whose number is within c -/
def mk1 (c : Int) (w : Int) : Prop := -c ≤ w / 2 ∧ w / 2 ≤ c
theorem mk1_fn {c w : Int} (h : mk1 c w) : fn (2 * c + 1) w := by
  unfold mk1 at h
  exact Or.inr (by omega)
theorem mk1_cR {c w : Int} (h : mk1 c w) : cR w ≤ (c : Rat) ∧ -(c : Rat) ≤ cR w := by
  refine ⟨Rat.intCast_le_intCast.mpr h.2, ?_⟩
  rw [← Rat.intCast_neg]
  exact Rat.intCast_le_intCast.mpr h.1
def K1 : Rat := ((100 : Int) : Rat)
/-- a good exact zone -/
def eI (m : Nat) (l : Int) (e : iM) : Prop := zgd m (2 * l + 3) e ∧ bInv m K1 (l : Rat) e ∧ ∀ j, j < m → e 0 j ≤ 1
theorem eI_cg {m : Nat} {l : Int} {M N : iM} (h0m : 0 < m) (h : agr m M N) (hM : eI m l M) : eI m l N := ⟨zgd_cg h hM.1, bInv_cg h hM.2.1, fun j hj => by rw [← h 0 j h0m hj]; exact hM.2.2 j hj⟩
theorem eI_mono {m : Nat} {l k : Int} {e : iM} (h : eI m l e) (hk : l ≤ k) : eI m k e := ⟨zgd_mono h.1 (by omega), bInv_mono h.2.1 (Rat.intCast_le_intCast.mpr hk), h.2.2⟩
theorem eI_sub_z {m : Nat} {l : Int} {e : iM} (h : eI m l e) : zgd m (2 * l + 3) e := h.1
section Pairs
variable {m : Nat} {l : Int} {e z : iM} {p q : Nat} {w : Int}
theorem eI_cut (h0m : 0 < m) (hl : 0 ≤ l) (hl2 : l ≤ 40000) (hw1 : 100 ≤ l) (h : eI m l e) (hp : p < m) (hq : q < m) (hw : mk1 100 w) (hc : 1 ≤ sm w (e q p)) : eI m l (sq e p q w) := by
  have hA := AN_is
  have fw1 : fn (2 * l + 3) w := fn_mono (mk1_fn hw) (by omega)
  have hz := sq_zgd (by omega) (by omega) h.1 hp hq fw1 hc
  have hb := bInv_cut h.2.1 hp hq (mk1_cR hw).1 (mk1_cR hw).2 (by unfold mk1 at hw; omega) (fun v => sem_sq (by omega) (by omega) h.1 hp hq fw1 (v := v))
  refine ⟨⟨hz.1, hz.2.1, fun i j hi hj => bInv_fn (B := 3 * (2 * l + 3) + 2) (by omega) hz hl hb hi hj⟩, hb, fun j hj => ?_⟩
  have := h.2.2 j hj
  unfold sq
  omega
theorem eI_set (h0m : 0 < m) (hl : 0 ≤ l) (hl2 : l ≤ 40000) (h : eI m l e) {ρ : Nat → Nat} (hρ : rsok m ρ) : eI m l (rs ρ e) := by
  have hA := AN_is
  refine ⟨rs_zgd h.1 hρ, bInv_set (B := 2 * l + 3) (by omega) h0m h.1 hρ h.2.1, fun j hj => ?_⟩
  unfold rs
  rw [hρ.1]
  exact h.2.2 _ (hρ.lt hj)
theorem l101 (l : Int) : ((l : Rat)) + K1 + 1 = ((l + 101 : Int) : Rat) := by
  unfold K1
  rw [Rat.intCast_add]
  have a : ((100 : Int) : Rat) = 100 := rfl
  have b : ((101 : Int) : Rat) = 101 := rfl
  rw [a, b]
  grind
theorem K1_nn : (0 : Rat) ≤ K1 := Rat.intCast_le_intCast.mpr (by decide)
theorem eI_pass (h0m : 0 < m) (hl : 0 ≤ l) (hl2 : l ≤ 40000) (h : eI m l e) : eI m (l + 101) (pm e) := by
  have hA := AN_is
  have hb := bInv_pass K1_nn (show (0 : Rat) ≤ (l : Rat) from Rat.intCast_le_intCast.mpr hl) (B := 2 * l + 3) (by omega) h0m h.1 h.2.2 h.2.1
  rw [l101] at hb
  refine ⟨zgd_mono (pm_zgd (by omega) h.1) (by omega), hb, fun j hj => ?_⟩
  unfold pm
  rw [if_neg (fun t => t.2 rfl)]
  exact h.2.2 j hj
/-! zone and exact zone where great times are LET GO -/
def sim (g : Nat → Int) (z e : iM) : Prop := ∀ v, sem 4 z v → ∃ u, sem 5 e u ∧ eqM g 4 v u
def zI (l : Int) (g : Nat → Int) (z e : iM) : Prop := zgd 4 (2 * l + 3) z ∧ sInv 4 K1 (l : Rat) z ∧ (∀ j, j < 4 → z 0 j ≤ 1) ∧ (∀ i j, i < 4 → j < 4 → e i j ≤ z i j) ∧ sim g z e
theorem eqM_trans {g : Nat → Int} {m : Nat} {v u t : Nat → Rat} (h : eqM g m v u) (k : eqM g m u t) : eqM g m v t := by
  intro x hx
  have a := h x hx
  have b := k x hx
  rcases a with a | a
  · rcases b with b | b
    · left; grind
    · right; grind
  · rcases b with b | b
    · right; grind
    · right; grind
theorem eqM_lb {g : Nat → Int} {v u : Nat → Rat} (h : eqM g 4 v u) (hp : p < 4) (hq : q < 4) (hpq : p = 0 ∨ q = 0) (hw : mk1 (g (p + q)) w) (hA : w ≠ AN) (hg : 0 ≤ g (p + q)) (hl : lb w (v p - v q)) (hv : ∀ j, j < 4 → v 0 - v j ≤ 0) : lb w (u p - u q) := by
  have c := mk1_cR hw
  have gR : (0 : Rat) ≤ ((g (p + q) : Int) : Rat) := Rat.intCast_le_intCast.mpr hg
  rcases hpq with e | e
  · have hx := h q hq
    rw [e] at hl ⊢
    rw [e, Nat.zero_add] at c gR
    rcases hx with k | k
    · have t : u 0 - u q = v 0 - v q := by grind
      rw [t]; exact hl
    · exact lb_of_lt (by grind)
  · have hx := h p hp
    rw [e] at hl ⊢
    rw [e, Nat.add_zero] at c gR
    rcases hx with k | k
    · rw [← k]; exact hl
    · exfalso
      have := lb_weak hl hA
      grind
theorem zI_cut {g : Nat → Int} (hl : 100 ≤ l) (hl2 : l ≤ 40000) (he : eI 5 l e) (hz : zI l g z e) (hp : p < 4) (hq : q < 4) (hpq : p = 0 ∨ q = 0) (hg : 0 ≤ g (p + q)) (hg2 : g (p + q) ≤ 100) (hw : mk1 (g (p + q)) w) (hc : 1 ≤ sm w (z q p)) : 1 ≤ sm w (e q p) ∧ zI l g (sq z p q w) (sq e p q w) := by
  have hA := AN_is
  have hw1 : mk1 100 w := ⟨by unfold mk1 at hw; omega, by unfold mk1 at hw; omega⟩
  have hwA : w ≠ AN := by unfold mk1 at hw; omega
  have fw1 : fn (2 * l + 3) w := fn_mono (mk1_fn hw1) (by omega)
  obtain ⟨z1, z2, z3, z4, z5⟩ := hz
  have sz := sq_zgd (by omega) (by omega) z1 hp hq fw1 hc
  have pos : ∀ {v : Nat → Rat}, sem 4 z v → ∀ j, j < 4 → v 0 - v j ≤ 0 := fun hv j hj => (lb_one _).mp (lb_mono (z3 j hj) (by decide) (hv 0 j (by omega) hj))
  have ss : ∀ v, sem 4 (sq z p q w) v ↔ sem 4 z v ∧ lb w (v p - v q) := fun v => sem_sq (by omega) (by omega) z1 hp hq fw1
  have hce : 1 ≤ sm w (e q p) := by
    rcases Int.lt_or_le (sm w (e q p)) 1 with t | t
    · exfalso
      obtain ⟨v, hv⟩ := sem_ex (B := 3 * (2 * l + 3) + 2) (by omega) sz
      obtain ⟨a, b⟩ := (ss v).mp hv
      obtain ⟨u, hu, hm⟩ := z5 v a
      have h1 := eqM_lb hm hp hq hpq hw hwA hg b (pos a)
      have h2 := lb_sum h1 (hu q p (by omega) (by omega))
      have := lb_neg t h2
      grind
    · exact t
  have he' := eI_cut (by omega) (by omega) hl2 hl he (show p < 5 by omega) (show q < 5 by omega) hw1 hce
  have hs := sInv_cut z2 hp hq (mk1_cR hw1).1 (mk1_cR hw1).2 hwA ss
  have mono : ∀ i j, i < 4 → j < 4 → sq e p q w i j ≤ sq z p q w i j := fun i j hi hj => by
    have up : ∀ {x : Int} {C : Int}, fn C x → C ≤ 400003 → fn 400003 x := fun h g => fn_mono h g
    have f := he.1.2.2
    have fz := z1.2.2
    have t1 : sm (e i p) w ≤ sm (z i p) w := sm_mo (up (f i p (by omega) (by omega)) (by omega)) (up fw1 (by omega)) (by omega) (z4 i p hi hp) (Int.le_refl _) (fn_le (fz i p hi hp) (by omega)) (fn_le fw1 (by omega))
    have s1 := sm_fn (f i p (by omega) (by omega)) fw1
    have s2 := sm_fn (fz i p hi hp) fw1
    have t2 : sqT e p q w i j ≤ sqT z p q w i j := sm_mo (up s1 (by omega)) (up (f q j (by omega) (by omega)) (by omega)) (by omega) t1 (z4 q j hq hj) (fn_le s2 (by omega)) (fn_le (fz q j hq hj) (by omega))
    have := z4 i j hi hj
    unfold sq
    omega
  refine ⟨hce, ⟨sz.1, sz.2.1, fun i j hi hj => ?_⟩, hs, fun j hj => ?_, mono, fun v hv => ?_⟩
  · by_cases hzA : sq z p q w i j = AN
    · exact Or.inl hzA
    by_cases hij : i = j
    · rw [hij, sz.2.1 j hj]
      exact Or.inr (by omega)
    have hi2 := sInv_hi (B := 3 * (2 * l + 3) + 2) (by omega) sz hs hi hj hij hzA
    have lo := he'.1.2.2 i j (by omega) (by omega)
    have mo := mono i j hi hj
    rcases lo with t | t
    · have := fn_le (sz.2.2 i j hi hj) (by omega)
      omega
    · exact Or.inr (by omega)
  · have := z3 j hj
    unfold sq
    omega
  · obtain ⟨a, b⟩ := (ss v).mp hv
    obtain ⟨u, hu, hm⟩ := z5 v a
    exact ⟨u, (sem_sq (B := 2 * l + 3) (by omega) (by omega) he.1 (by omega) (by omega) fw1).mpr ⟨hu, eqM_lb hm hp hq hpq hw hwA hg b (pos a)⟩, hm⟩
theorem zI_set {g : Nat → Int} (hl : 0 ≤ l) (hl2 : l ≤ 40000) (hz : zI l g z e) {ρ : Nat → Nat} (h5 : rsok 5 ρ) : zI l g (rs ρ z) (rs ρ e) := by
  have hA := AN_is
  have hρ : rsok 4 ρ := ⟨h5.1, fun i hi => h5.2 i (by omega)⟩
  obtain ⟨z1, z2, z3, z4, z5⟩ := hz
  refine ⟨rs_zgd z1 hρ, sInv_set (B := 2 * l + 3) (by omega) (by omega) z1 hρ z2, fun j hj => ?_, fun i j hi hj => z4 _ _ (hρ.lt hi) (hρ.lt hj), fun v hv => ?_⟩
  · unfold rs
    rw [hρ.1]
    exact z3 _ (hρ.lt hj)
  · obtain ⟨t, ht, hte⟩ := rs_from (B := 2 * l + 3) (by omega) (by omega) z1 hρ hv
    obtain ⟨u, hu, hm⟩ := z5 t ht
    refine ⟨fun i => u (ρ i), rs_to h5 hu, fun x hx => ?_⟩
    rw [hte x hx, hte 0 (by omega)]
    show t (ρ x) - t (ρ 0) = u (ρ x) - u (ρ 0) ∨ _ < t (ρ x) - t (ρ 0) ∧ _ < u (ρ x) - u (ρ 0)
    rw [hρ.1]
    rcases hρ.2 x hx with k | k
    · rw [k]; exact hm x hx
    · rw [k]; left; grind
theorem zI_pass {g : Nat → Int} (hl : 0 ≤ l) (hl2 : l ≤ 40000) (hd : e 0 0 = 1) (hz : zI l g z e) : zI (l + 101) g (pm z) (pm e) := by
  have hA := AN_is
  obtain ⟨z1, z2, z3, z4, z5⟩ := hz
  have hs := sInv_pass K1_nn (show (0 : Rat) ≤ (l : Rat) from Rat.intCast_le_intCast.mpr hl) (B := 2 * l + 3) (by omega) (by omega) z1 z3 z2
  rw [l101] at hs
  refine ⟨zgd_mono (pm_zgd (by omega) z1) (by omega), hs, fun j hj => ?_, fun i j hi hj => ?_, fun v hv => ?_⟩
  · unfold pm
    rw [if_neg (fun t => t.2 rfl)]
    exact z3 j hj
  · unfold pm
    split
    · exact Int.le_refl _
    · exact z4 i j hi hj
  · obtain ⟨t, ht, hs⟩ := pm_from (B := 2 * l + 3) (by omega) (by omega) z1 hv
    obtain ⟨u, hu, hm⟩ := z5 _ hs
    refine ⟨vup u 0 (u 0 - t), pm_to hd hu ht, fun x hx => ?_⟩
    have k := hm x hx
    unfold vup at k ⊢
    rw [if_pos rfl] at k ⊢
    by_cases hx0 : x = 0
    · rw [if_pos hx0, hx0]; left; grind
    · rw [if_neg hx0] at k ⊢
      rcases k with k | k
      · left; grind
      · right; grind
theorem mulC4 (C : Rat) : mulC C 4 = C + C + C + C := by
  show (((0 + C) + C) + C) + C = C + C + C + C
  grind
end Pairs
