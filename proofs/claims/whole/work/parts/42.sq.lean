/-! one bound tightened in a closed zone, and closed: what comes is the zone squeezed by that bound -/
def cld (m : Nat) (M : iM) : Prop := ∀ i j k, i < m → j < m → k < m → M i j ≤ sm (M i k) (M k j)
/-- a good zone: closed, not EMPTY, its bounds ANY or within B -/
def zgd (m : Nat) (B : Int) (M : iM) : Prop := cld m M ∧ (∀ i, i < m → M i i = 1) ∧ ∀ i j, i < m → j < m → fn B (M i j)
def sqT (M : iM) (p q : Nat) (w : Int) : iM := fun i j => sm (sm (M i p) w) (M q j)
def sq (M : iM) (p q : Nat) (w : Int) : iM := fun i j => min (M i j) (sqT M p q w i j)
theorem sm_mo {B a b c d : Int} (ha : fn B a) (hb : fn B b) (hB : 2 * B ≤ AN) (h1 : a ≤ c) (h2 : b ≤ d) (hc : c ≤ AN) (hd : d ≤ AN) : sm a b ≤ sm c d := by
  refine sm_mono h1 h2 hc hd (fun n1 n2 => ?_)
  have a1 := ha.resolve_left n1
  have b1 := hb.resolve_left n2
  omega
theorem sm_le_AN {B a b : Int} (ha : fn B a) (hb : fn B b) (hB : 2 * B ≤ AN) : sm a b ≤ AN := by
  by_cases h1 : a = AN
  · rw [h1, A_sm]; exact Int.le_refl _
  by_cases h2 : b = AN
  · rw [h2, sm_A]; exact Int.le_refl _
  have := sm_bd h1 h2
  have a1 := ha.resolve_left h1
  have b1 := hb.resolve_left h2
  omega
section Sq
variable {m : Nat} {B : Int} {M : iM} {p q : Nat} {w : Int}
theorem sqT_fn (hM : zgd m B M) (hp : p < m) (hq : q < m) (hw : fn B w) {i j : Nat} (hi : i < m) (hj : j < m) : fn (3 * B + 2) (sqT M p q w i j) := by
  have h := sm_fn (sm_fn (hM.2.2 i p hi hp) hw) (hM.2.2 q j hq hj)
  exact fn_mono h (by omega)
theorem sq_fn (hB : 0 ≤ B) (hM : zgd m B M) (hp : p < m) (hq : q < m) (hw : fn B w) {i j : Nat} (hi : i < m) (hj : j < m) : fn (3 * B + 2) (sq M p q w i j) := by
  have h1 := fn_mono (hM.2.2 i j hi hj) (show B ≤ 3 * B + 2 by omega)
  have h2 := sqT_fn hM hp hq hw hi hj
  unfold sq
  rcases Int.le_total (M i j) (sqT M p q w i j) with h | h
  · rw [Int.min_eq_left h]; exact h1
  · rw [Int.min_eq_right h]; exact h2
theorem sq_cld (h0 : 0 ≤ B) (hB : B ≤ 100000) (hM : zgd m B M) (hp : p < m) (hq : q < m) (hw : fn B w) (hc : 1 ≤ sm w (M q p)) : cld m (sq M p q w) := by
  have hA := AN_is
  intro i j k hi hj hk
  have fM := hM.2.2
  have bip := fM i p hi hp
  have bkp := fM k p hk hp
  have bqk := fM q k hq hk
  have bqj := fM q j hq hj
  have bik := fM i k hi hk
  have bkj := fM k j hk hj
  have up : ∀ {x : Int} {C : Int}, fn C x → C ≤ 400003 → fn 400003 x := fun h g => fn_mono h g
  have u := sm_fn bip hw
  have v := sm_fn bkp hw
  have tkj := sqT_fn hM hp hq hw hk hj
  have tik := sqT_fn hM hp hq hw hi hk
  have tij := sqT_fn hM hp hq hw hi hj
  have lA : ∀ {x C : Int}, fn C x → C ≤ 400003 → x ≤ AN := fun h g => fn_le h (by omega)
  have key : sqT M p q w i j ≤ sm (M i k) (sqT M p q w k j) := by
    unfold sqT
    rw [← sm_assoc (up bik (by omega)) (up v (by omega)) (up bqj (by omega)) (by omega), ← sm_assoc (up bik (by omega)) (up bkp (by omega)) (up hw (by omega)) (by omega)]
    have s1 := sm_fn bik bkp
    have s2 := sm_fn s1 hw
    refine sm_mo (up u (by omega)) (up bqj (by omega)) (by omega) ?_ (Int.le_refl _) (lA s2 (by omega)) (lA bqj (by omega))
    exact sm_mo (up bip (by omega)) (up hw (by omega)) (by omega) (hM.1 i p k hi hp hk) (Int.le_refl _) (lA s1 (by omega)) (lA hw (by omega))
  have key2 : sqT M p q w i j ≤ sm (sqT M p q w i k) (M k j) := by
    unfold sqT
    rw [sm_assoc (up u (by omega)) (up bqk (by omega)) (up bkj (by omega)) (by omega)]
    have s1 := sm_fn bqk bkj
    exact sm_mo (up u (by omega)) (up bqj (by omega)) (by omega) (Int.le_refl _) (hM.1 q j k hq hj hk) (lA u (by omega)) (lA s1 (by omega))
  have key3 : sqT M p q w i j ≤ sm (sqT M p q w i k) (sqT M p q w k j) := by
    have s1 := sm_fn bqk bkp
    have s2 := sm_fn s1 hw
    have s3 := sm_fn s2 bqj
    have e : sm (sqT M p q w i k) (sqT M p q w k j) = sm (sm (M i p) w) (sm (sm (sm (M q k) (M k p)) w) (M q j)) := by
      unfold sqT
      rw [sm_assoc (up u (by omega)) (up bqk (by omega)) (up (show fn _ (sm (sm (M k p) w) (M q j)) from tkj) (by omega)) (by omega)]
      rw [← sm_assoc (up bqk (by omega)) (up v (by omega)) (up bqj (by omega)) (by omega), ← sm_assoc (up bqk (by omega)) (up bkp (by omega)) (up hw (by omega)) (by omega)]
    rw [e]
    have a1 : 1 ≤ sm (sm (M q k) (M k p)) w := by
      have t : sm (M q p) w ≤ sm (sm (M q k) (M k p)) w := sm_mo (up (fM q p hq hp) (by omega)) (up hw (by omega)) (by omega) (hM.1 q p k hq hp hk) (Int.le_refl _) (lA s1 (by omega)) (lA hw (by omega))
      rw [sm_comm (M q p) w] at t
      omega
    have a2 : M q j ≤ sm (sm (sm (M q k) (M k p)) w) (M q j) := by
      have t := sm_mo (B := 400003) (a := 1) (b := M q j) (Or.inr (by omega)) (up bqj (by omega)) (by omega) a1 (Int.le_refl _) (lA s2 (by omega)) (lA bqj (by omega))
      rw [one_sm] at t
      exact t
    exact sm_mo (up u (by omega)) (up bqj (by omega)) (by omega) (Int.le_refl _) a2 (lA u (by omega)) (lA s3 (by omega))
  have k1 := hM.1 i j k hi hj hk
  unfold sq
  rcases Int.le_total (M i k) (sqT M p q w i k) with g | g <;> rcases Int.le_total (M k j) (sqT M p q w k j) with f | f
  · rw [Int.min_eq_left g, Int.min_eq_left f]; omega
  · rw [Int.min_eq_left g, Int.min_eq_right f]; omega
  · rw [Int.min_eq_right g, Int.min_eq_left f]; omega
  · rw [Int.min_eq_right g, Int.min_eq_right f]; omega
theorem sq_diag (h0 : 0 ≤ B) (hB : B ≤ 100000) (hM : zgd m B M) (hp : p < m) (hq : q < m) (hw : fn B w) (hc : 1 ≤ sm w (M q p)) {i : Nat} (hi : i < m) : sq M p q w i i = 1 := by
  have hA := AN_is
  have fM := hM.2.2
  have bip := fM i p hi hp
  have bqi := fM q i hq hi
  have up : ∀ {x : Int} {C : Int}, fn C x → C ≤ 400003 → fn 400003 x := fun h g => fn_mono h g
  have lA : ∀ {x C : Int}, fn C x → C ≤ 400003 → x ≤ AN := fun h g => fn_le h (by omega)
  unfold sq
  rw [hM.2.1 i hi]
  have t : 1 ≤ sqT M p q w i i := by
    unfold sqT
    have e : sm (sm (M i p) w) (M q i) = sm w (sm (M q i) (M i p)) := by
      rw [sm_comm (M i p) w, sm_assoc (up hw (by omega)) (up bip (by omega)) (up bqi (by omega)) (by omega), sm_comm (M i p) (M q i)]
    rw [e]
    have s1 := sm_fn bqi bip
    have := sm_mo (up hw (by omega)) (up (fM q p hq hp) (by omega)) (by omega) (Int.le_refl w) (hM.1 q p i hq hp hi) (lA hw (by omega)) (lA s1 (by omega))
    omega
  omega
theorem sq_zgd (h0 : 0 ≤ B) (hB : B ≤ 100000) (hM : zgd m B M) (hp : p < m) (hq : q < m) (hw : fn B w) (hc : 1 ≤ sm w (M q p)) : zgd m (3 * B + 2) (sq M p q w) := ⟨sq_cld h0 hB hM hp hq hw hc, fun i hi => sq_diag h0 hB hM hp hq hw hc hi, fun i j hi hj => sq_fn h0 hM hp hq hw hi hj⟩
/-- the matrix with the one bound put in -/
def up1 (M : iM) (p q : Nat) (w : Int) : iM := fun i j => if i = p ∧ j = q then w else M i j
theorem close_N (hm : m ≤ 5) (h0 : 0 ≤ B) (hB : B ≤ 100000) (hM : zgd m B M) (hp : p < m) (hq : q < m) (hpq : p ≠ q) (hw : fn B w) (hwA : w < M p q) (hc : 1 ≤ sm w (M q p)) {Z : Nat → Int32} (hZ : ∀ i j, i < m → j < m → zi Z i j = up1 M p q w i j) : ∀ i j, i < m → j < m → zi (cl m Z) i j = sq M p q w i j := by
  have hA := AN_is
  have fM := hM.2.2
  have up : ∀ {x : Int} {C : Int}, fn C x → C ≤ 400003 → fn 400003 x := fun h g => fn_mono h g
  have lA : ∀ {x C : Int}, fn C x → C ≤ 400003 → x ≤ AN := fun h g => fn_le h (by omega)
  have u1A : ∀ i j, i < m → j < m → up1 M p q w i j ≤ AN := fun i j hi hj => by
    unfold up1
    split
    · exact lA hw (by omega)
    · exact lA (fM i j hi hj) (by omega)
  have sqle : ∀ i j, i < m → j < m → sq M p q w i j ≤ up1 M p q w i j := fun i j hi hj => by
    unfold up1
    by_cases h : i = p ∧ j = q
    · rw [if_pos h, h.1, h.2]
      unfold sq sqT
      rw [hM.2.1 p hp, hM.2.1 q hq, one_sm, sm_one]
      omega
    · rw [if_neg h]
      unfold sq
      omega
  have h := it_inv (cl2 m) (fun k W => (∀ i j, i < m → j < m → sq M p q w i j ≤ zi W i j ∧ zi W i j ≤ up1 M p q w i j) ∧ (p < k → ∀ i, i < m → zi W i q ≤ sm (M i p) w) ∧ (q < k → ∀ j, j < m → zi W p j ≤ sm w (M q j)) ∧ (p < k → q < k → ∀ i j, i < m → j < m → zi W i j ≤ sqT M p q w i j)) m (fun k W hk ⟨ha, hcc, hd, he⟩ => by
    have rW : rg m 300002 (zi W) := fun i j hi hj => by
      have g := ha i j hi hj
      have f := sq_fn h0 hM hp hq hw hi hj
      have uA := u1A i j hi hj
      refine ⟨?_, by omega⟩
      rcases f with f | f
      · rw [f] at g; omega
      · omega
    have dk : zi W k k = 1 := by
      have g := ha k k hk hk
      rw [sq_diag h0 hB hM hp hq hw hc hk] at g
      have e : up1 M p q w k k = 1 := by
        unfold up1
        rw [if_neg (fun t => hpq (t.1.symm.trans t.2))]
        exact hM.2.1 k hk
      omega
    have st : ∀ i j, i < m → j < m → zi (cl2 m k W) i j = min (zi W i j) (sm (zi W i k) (zi W k j)) := fun i j hi hj => cl2_zi hm hk (by omega) (by omega) rW dk hi hj
    have wl : ∀ i j, i < m → j < m → zi W i j ≤ AN := fun i j hi hj => Int.le_trans (ha i j hi hj).2 (u1A i j hi hj)
    have stepc : k = p → ∀ i, i < m → zi (cl2 m k W) i q ≤ sm (M i p) w := fun hkp i hi => by
      rw [st i q hi hq]
      by_cases g : M i p = AN
      · have := wl i q hi hq
        rw [g, A_sm]
        omega
      · have e1 : zi W i k ≤ M i p := by
          have := (ha i p hi hp).2
          rw [hkp]
          unfold up1 at this
          rw [if_neg (fun t => hpq t.2)] at this
          exact this
        have e2 : zi W k q ≤ w := by
          have := (ha p q hp hq).2
          rw [hkp]
          unfold up1 at this
          rw [if_pos ⟨rfl, rfl⟩] at this
          exact this
        by_cases gw : w = AN
        · have := lA (fM p q hp hq) (by omega)
          omega
        have b1 := (fM i p hi hp).resolve_left g
        have b2 := hw.resolve_left gw
        have := sm_mono e1 e2 (lA (fM i p hi hp) (by omega)) (lA hw (by omega)) (fun _ _ => by omega)
        omega
    have stepd : k = q → ∀ j, j < m → zi (cl2 m k W) p j ≤ sm w (M q j) := fun hkq j hj => by
      rw [st p j hp hj]
      by_cases g : M q j = AN
      · have := wl p j hp hj
        rw [g, sm_A]
        omega
      · have e1 : zi W k j ≤ M q j := by
          have := (ha q j hq hj).2
          rw [hkq]
          unfold up1 at this
          rw [if_neg (fun t => hpq t.1.symm)] at this
          exact this
        have e2 : zi W p k ≤ w := by
          have := (ha p q hp hq).2
          rw [hkq]
          unfold up1 at this
          rw [if_pos ⟨rfl, rfl⟩] at this
          exact this
        by_cases gw : w = AN
        · have := lA (fM p q hp hq) (by omega)
          omega
        have b1 := (fM q j hq hj).resolve_left g
        have b2 := hw.resolve_left gw
        have := sm_mono e2 e1 (lA hw (by omega)) (lA (fM q j hq hj) (by omega)) (fun _ _ => by omega)
        omega
    refine ⟨fun i j hi hj => ?_, fun hpk i hi => ?_, fun hqk j hj => ?_, fun hpk hqk i j hi hj => ?_⟩
    · rw [st i j hi hj]
      have g := ha i j hi hj
      have c1 := sq_cld h0 hB hM hp hq hw hc i j k hi hj hk
      have c2 := sm_mo (up (sq_fn h0 hM hp hq hw hi hk) (by omega)) (up (sq_fn h0 hM hp hq hw hk hj) (by omega)) (by omega) (ha i k hi hk).1 (ha k j hk hj).1 (wl i k hi hk) (wl k j hk hj)
      omega
    · by_cases hkp : k = p
      · exact stepc hkp i hi
      · have := hcc (by omega) i hi
        rw [st i q hi hq]
        omega
    · by_cases hkq : k = q
      · exact stepd hkq j hj
      · have := hd (by omega) j hj
        rw [st p j hp hj]
        omega
    · by_cases hkp : k = p
      · rw [st i j hi hj]
        have d2 := hd (by omega) j hj
        have eT : sqT M p q w i j = sm (M i p) (sm w (M q j)) := sm_assoc (up (fM i p hi hp) (by omega)) (up hw (by omega)) (up (fM q j hq hj) (by omega)) (by omega)
        have fs := sm_fn hw (fM q j hq hj)
        by_cases g1 : M i p = AN
        · have := wl i j hi hj
          rw [eT, g1, A_sm]
          omega
        by_cases g2 : sm w (M q j) = AN
        · have := wl i j hi hj
          rw [eT, g2, sm_A]
          omega
        have e1 : zi W i k ≤ M i p := by
          have := (ha i p hi hp).2
          rw [hkp]
          unfold up1 at this
          rw [if_neg (fun t => hpq t.2)] at this
          exact this
        have b1 := (fM i p hi hp).resolve_left g1
        have b2 := fs.resolve_left g2
        have := sm_mono e1 (show zi W k j ≤ sm w (M q j) by rw [hkp]; exact d2) (lA (fM i p hi hp) (by omega)) (lA fs (by omega)) (fun _ _ => by rw [hkp] at *; omega)
        rw [eT]
        omega
      · by_cases hkq : k = q
        · rw [st i j hi hj]
          have c2 := hcc (by omega) i hi
          have fs := sm_fn (fM i p hi hp) hw
          unfold sqT
          by_cases g1 : M q j = AN
          · have := wl i j hi hj
            rw [g1, sm_A]
            omega
          by_cases g2 : sm (M i p) w = AN
          · have := wl i j hi hj
            rw [g2, A_sm]
            omega
          have e1 : zi W k j ≤ M q j := by
            have := (ha q j hq hj).2
            rw [hkq]
            unfold up1 at this
            rw [if_neg (fun t => hpq t.1.symm)] at this
            exact this
          have b1 := (fM q j hq hj).resolve_left g1
          have b2 := fs.resolve_left g2
          have := sm_mono (show zi W i k ≤ sm (M i p) w by rw [hkq]; exact c2) e1 (lA fs (by omega)) (lA (fM q j hq hj) (by omega)) (fun _ _ => by rw [hkq] at *; omega)
          omega
        · have := he (by omega) (by omega) i j hi hj
          rw [st i j hi hj]
          omega) m 0 Z (by omega) ⟨fun i j hi hj => by rw [hZ i j hi hj]; exact ⟨sqle i j hi hj, Int.le_refl _⟩, fun t => by omega, fun t => by omega, fun t => by omega⟩
  intro i j hi hj
  have g := h.1 i j hi hj
  have g2 := h.2.2.2 hp hq i j hi hj
  show zi (it (cl2 m) 0 m Z) i j = _
  have g3 : up1 M p q w i j ≤ M i j := by
    unfold up1
    split
    · rename_i t; rw [t.1, t.2]; omega
    · exact Int.le_refl _
  unfold sq at g ⊢
  omega
theorem close_E (hm : m ≤ 5) (h0 : 0 ≤ B) (hB : B ≤ 100000) (hM : zgd m B M) (hp : p < m) (hq : q < m) (hpq : p ≠ q) (hw : fn B w) (hwA : w < M p q) (hc : sm w (M q p) < 1) {Z : Nat → Int32} (hZ : ∀ i j, i < m → j < m → zi Z i j = up1 M p q w i j) : ∃ i, i < m ∧ zi (cl m Z) i i < 1 := by
  have hA := AN_is
  have fM := hM.2.2
  have lA : ∀ {x C : Int}, fn C x → C ≤ 400003 → x ≤ AN := fun h g => fn_le h (by omega)
  have u1A : ∀ i j, i < m → j < m → up1 M p q w i j ≤ AN := fun i j hi hj => by
    unfold up1
    split
    · exact lA hw (by omega)
    · exact lA (fM i j hi hj) (by omega)
  have main : ∀ d k (W : Nat → Int32), k + d = m → (∀ i j, i < m → j < m → 1 - 2 ^ k * (B + 1) ≤ zi W i j ∧ zi W i j ≤ up1 M p q w i j) → (p < k → zi W q q < 1) → ∃ i, i < m ∧ zi (it (cl2 m) k d W) i i < 1 := by
    intro d
    induction d with
    | zero =>
      intro k W hk _ h
      exact ⟨q, hq, h (by omega)⟩
    | succ d ih =>
      intro k W hk hr h
      have hkm : k < m := by omega
      by_cases hd : zi W k k < 1
      · refine ⟨k, hkm, ?_⟩
        have := it_le m (d + 1) k W (5 * k + k)
        unfold zi at hd ⊢
        omega
      · have dk : zi W k k = 1 := by
          have g := (hr k k hkm hkm).2
          have e : up1 M p q w k k = 1 := by
            unfold up1
            rw [if_neg (fun t => hpq (t.1.symm.trans t.2))]
            exact hM.2.1 k hkm
          omega
        have k4 : k = 0 ∨ k = 1 ∨ k = 2 ∨ k = 3 ∨ k = 4 := by omega
        have p2 : (2 : Int) ^ k ≤ 16 := by rcases k4 with h | h | h | h | h <;> rw [h] <;> decide
        have p1 : (1 : Int) ≤ 2 ^ k := by rcases k4 with h | h | h | h | h <;> rw [h] <;> decide
        have pb : (2 : Int) ^ k * (B + 1) ≤ 16 * (B + 1) := Int.mul_le_mul_of_nonneg_right p2 (by omega)
        have pc : 1 * (B + 1) ≤ (2 : Int) ^ k * (B + 1) := Int.mul_le_mul_of_nonneg_right p1 (by omega)
        have ps : (2 : Int) ^ (k + 1) * (B + 1) = 2 * (2 ^ k * (B + 1)) := by rw [Int.pow_succ, Int.mul_comm (2 ^ k) 2, Int.mul_assoc]
        have rW : rg m (2 ^ k * (B + 1)) (zi W) := fun i j hi hj => ⟨by have := (hr i j hi hj).1; omega, Int.le_trans (hr i j hi hj).2 (u1A i j hi hj)⟩
        have st : ∀ i j, i < m → j < m → zi (cl2 m k W) i j = min (zi W i j) (sm (zi W i k) (zi W k j)) := fun i j hi hj => cl2_zi hm hkm (by omega) (by omega) rW dk hi hj
        refine ih (k + 1) (cl2 m k W) (by omega) (fun i j hi hj => ?_) (fun hpk => ?_)
        · rw [st i j hi hj, ps]
          have r0 := hr i j hi hj
          have r1 := hr i k hi hkm
          have r2 := hr k j hkm hj
          have a1 := u1A i k hi hkm
          have f : 1 - 2 * (2 ^ k * (B + 1)) ≤ sm (zi W i k) (zi W k j) := by
            by_cases h1 : zi W i k = AN
            · rw [h1, A_sm]; omega
            by_cases h2 : zi W k j = AN
            · rw [h2, sm_A]; omega
            have := sm_bd h1 h2
            omega
          omega
        · rw [st q q hq hq]
          by_cases hkp : k = p
          · by_cases g : M q p = AN
            · rw [g, sm_A] at hc
              omega
            · have e1 : zi W q k ≤ M q p := by
                have := (hr q p hq hp).2
                rw [hkp]
                unfold up1 at this
                rw [if_neg (fun t => hpq t.2)] at this
                exact this
              have e2 : zi W k q ≤ w := by
                have := (hr p q hp hq).2
                rw [hkp]
                unfold up1 at this
                rw [if_pos ⟨rfl, rfl⟩] at this
                exact this
              by_cases gw : w = AN
              · have := lA (fM p q hp hq) (by omega)
                omega
              have b1 := (fM q p hq hp).resolve_left g
              have b2 := hw.resolve_left gw
              have := sm_mono e1 e2 (lA (fM q p hq hp) (by omega)) (lA hw (by omega)) (fun _ _ => by omega)
              rw [sm_comm w (M q p)] at hc
              omega
          · have := h (by omega)
            omega
  refine main m 0 Z (by omega) (fun i j hi hj => ?_) (fun t => by omega)
  rw [hZ i j hi hj]
  refine ⟨?_, Int.le_refl _⟩
  have e : (2 : Int) ^ 0 * (B + 1) = B + 1 := by omega
  rw [e]
  unfold up1
  split
  · rcases hw with h | h <;> omega
  · rcases fM i j hi hj with h | h <;> omega
end Sq
