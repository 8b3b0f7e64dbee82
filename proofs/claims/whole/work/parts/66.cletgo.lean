/-! THE CLASS's LET GO is the reference's -/
theorem cagr_of {n : Nat} {f Z : Nat → Int32} (h : agr n (ci n f) (zi Z)) : cagr n f Z := fun i j hi hj => Int32.toInt.inj (h i j hi hj)
theorem ll_int {g : Nat → Int32} (hg : ∀ i, i < 4 → 0 ≤ (g i).toInt ∧ (g i).toInt ≤ 200) {i j : Nat} (hi : i < 4) (hj : j < 4) {M : iM} (hd : ∀ i, i < 4 → M i i = 1) {x : Int32} (hx : x.toInt = M i j) : (ll (J i) x (g i) (g j)).toInt = lgM (fun k => (g k).toInt) M i j := by
  have gi := hg i hi
  have gj := hg j hj
  have hA : (1000000 : Int32).toInt = AN := by decide
  have two : (2 : Int32).toInt = 2 := by decide
  have en : (-(g j)).toInt = -(g j).toInt := by
    rw [Int32.toInt_neg]
    exact bm_id (by omega) (by omega)
  have em : ((2 : Int32) * -(g j)).toInt = -2 * (g j).toInt := by
    rw [Int32.toInt_mul, two, en]
    rw [bm_id (by omega) (by omega)]
    omega
  have c1 : (x >>> ((1 : Int32) &&& 31) ≤ g i) ↔ M i j / 2 ≤ (g i).toInt := by rw [i32_le, shr1, hx]
  have c2 : (-(g j) ≤ x >>> ((1 : Int32) &&& 31)) ↔ -(g j).toInt ≤ M i j / 2 := by rw [i32_le, shr1, en, hx]
  have ei : (J i = 0) ↔ i = 0 := by rw [J0]; exact J_eq (by omega) (by omega)
  unfold ll lgM
  dsimp only
  by_cases hij : i = j
  · have m1 : M i j = 1 := by rw [hij]; exact hd j hj
    have k2 : -(g j) ≤ x >>> ((1 : Int32) &&& 31) := c2.mpr (by rw [m1]; omega)
    have k1 : x >>> ((1 : Int32) &&& 31) ≤ g i := c1.mpr (by rw [m1]; omega)
    rw [if_pos hij, if_pos k1, if_pos k2]
    split <;> exact hx
  · rw [if_neg hij]
    by_cases h0 : i = 0
    · rw [if_pos (ei.mpr h0), if_neg (show ¬ (0 < i ∧ (g i).toInt < M i j / 2) by omega)]
      by_cases k2 : -(g j).toInt ≤ M i j / 2
      · rw [if_pos (c2.mpr k2), if_pos k2]; exact hx
      · rw [if_neg (fun t => k2 (c2.mp t)), if_neg k2]; exact em
    · rw [if_neg (fun t => h0 (ei.mp t))]
      by_cases k1 : M i j / 2 ≤ (g i).toInt
      · rw [if_pos (c1.mpr k1), if_neg (show ¬ (0 < i ∧ (g i).toInt < M i j / 2) by omega)]
        by_cases k2 : -(g j).toInt ≤ M i j / 2
        · rw [if_pos (c2.mpr k2), if_pos k2]; exact hx
        · rw [if_neg (fun t => k2 (c2.mp t)), if_neg k2]; exact em
      · rw [if_neg (fun t => k1 (c1.mp t)), if_pos (show 0 < i ∧ (g i).toInt < M i j / 2 by omega)]
        exact hA
theorem lnz_ci {g : Nat → Int32} (hg : ∀ i, i < 4 → 0 ≤ (g i).toInt ∧ (g i).toInt ≤ 200) {f : Nat → Int32} (hd : ∀ i, i < 4 → ci 4 f i i = 1) : (∀ a c, a < 4 → c < 4 → ci 4 (lnz 4 g (f, 0)).1 a c = lgM (fun k => (g k).toInt) (ci 4 f) a c) ∧ ((lnz 4 g (f, 0)).2 = 0 → ∀ a c, a < 4 → c < 4 → lgM (fun k => (g k).toInt) (ci 4 f) a c = ci 4 f a c) := by
  have row : ∀ p, p < 4 → ∀ S : lS, ((∀ a c, a < 4 → c < 4 → ci 4 S.1 a c = if a < p then lgM (fun k => (g k).toInt) (ci 4 f) a c else ci 4 f a c) ∧ (S.2 = 0 → ∀ a c, a < p → c < 4 → lgM (fun k => (g k).toInt) (ci 4 f) a c = ci 4 f a c)) → ((∀ a c, a < 4 → c < 4 → ci 4 (ln2 4 g p S).1 a c = if a < p + 1 then lgM (fun k => (g k).toInt) (ci 4 f) a c else ci 4 f a c) ∧ ((ln2 4 g p S).2 = 0 → ∀ a c, a < p + 1 → c < 4 → lgM (fun k => (g k).toInt) (ci 4 f) a c = ci 4 f a c)) := by
    intro p hp S hS
    have hq := it_inv (ln1 4 g p) (fun q T => (∀ a c, a < 4 → c < 4 → ci 4 T.1 a c = if a < p ∨ (a = p ∧ c < q) then lgM (fun k => (g k).toInt) (ci 4 f) a c else ci 4 f a c) ∧ (T.2 = 0 → ∀ a c, (a < p ∨ (a = p ∧ c < q)) → c < 4 → lgM (fun k => (g k).toInt) (ci 4 f) a c = ci 4 f a c)) 4 (fun q T hq hT => by
      have e0 : (T.1 (p * 4 + q)).toInt = ci 4 f p q := by
        have := hT.1 p q hp hq
        rw [if_neg (by omega)] at this
        exact this
      have e1 := ll_int hg hp hq hd e0
      refine ⟨fun a c ha hc => ?_, fun h0 a c hac hc => ?_⟩
      · show ci 4 (fu T.1 (p * 4 + q) _) a c = _
        rw [ci_fu hc hq]
        by_cases k : a = p ∧ c = q
        · rw [if_pos k, e1, if_pos (show a < p ∨ (a = p ∧ c < q + 1) by omega), k.1, k.2]
        · rw [if_neg k, hT.1 a c ha hc]
          by_cases k2 : a < p ∨ (a = p ∧ c < q)
          · rw [if_pos k2, if_pos (by omega)]
          · rw [if_neg k2, if_neg (by omega)]
      · have h0' : (if T.2 = 0 then (if ll (J p) (T.1 (p * 4 + q)) (g p) (g q) = T.1 (p * 4 + q) then (0 : Int32) else 1) else 1) = 0 := h0
        by_cases ht : T.2 = 0
        · rw [if_pos ht] at h0'
          by_cases he : ll (J p) (T.1 (p * 4 + q)) (g p) (g q) = T.1 (p * 4 + q)
          · by_cases k : a = p ∧ c = q
            · rw [k.1, k.2, ← e1, he]; exact e0
            · exact hT.2 ht a c (by omega) hc
          · rw [if_neg he] at h0'
            exact absurd h0' (by decide)
        · rw [if_neg ht] at h0'
          exact absurd h0' (by decide)) 4 0 S (by omega) ⟨fun a c ha hc => by
      rw [hS.1 a c ha hc]
      by_cases k : a < p
      · rw [if_pos k, if_pos (by omega)]
      · rw [if_neg k, if_neg (by omega)], fun h0 a c hac hc => hS.2 h0 a c (by omega) hc⟩
    refine ⟨fun a c ha hc => ?_, fun h0 a c hac hc => hq.2 h0 a c (by omega) hc⟩
    show ci 4 (it (ln1 4 g p) 0 4 S).1 a c = _
    rw [hq.1 a c ha hc]
    by_cases k : a < p + 1
    · rw [if_pos k, if_pos (by omega)]
    · rw [if_neg k, if_neg (by omega)]
  have hh := it_inv (ln2 4 g) (fun p S => (∀ a c, a < 4 → c < 4 → ci 4 S.1 a c = if a < p then lgM (fun k => (g k).toInt) (ci 4 f) a c else ci 4 f a c) ∧ (S.2 = 0 → ∀ a c, a < p → c < 4 → lgM (fun k => (g k).toInt) (ci 4 f) a c = ci 4 f a c)) 4 (fun p S hp hS => row p hp S hS) 4 0 (f, 0) (by omega) ⟨fun a c _ _ => by rw [if_neg (by omega)], fun _ a c h _ => by omega⟩
  refine ⟨fun a c ha hc => ?_, fun h0 a c ha hc => hh.2 h0 a c ha hc⟩
  have e := hh.1 a c ha hc
  rw [if_pos ha] at e
  exact e
/-- the class's LET GO: loosened, and closed if that changed a bound -/
def clg (g : Nat → Int32) (f : Nat → Int32) : zQ := if (lnz 4 g (f, 0)).2 = 0 then ((lnz 4 g (f, 0)).1, 0) else ccl 4 ((lnz 4 g (f, 0)).1, 0)
theorem clg_is {l : Int} {e : iM} {gg : Nat → Int32} (hl : 13000 ≤ l) (hl2 : l ≤ 40000) (hg : ∀ i, i < 4 → 0 ≤ (gg i).toInt ∧ (gg i).toInt ≤ 100) (hg0 : (gg 0).toInt = 0) (he : eI 5 l e) {Z f : Nat → Int32} (hz : zI l (fun k => (gg k).toInt) (zi Z) e) (h : cagr 4 f Z) : (clg gg f).2 = 0 ∧ cagr 4 (clg gg f).1 (cl 4 (lt gg Z)) := by
  obtain ⟨z1, z2, z3⟩ := zI_let hl hl2 hg hg0 he hz
  have hg2 : ∀ i, i < 4 → 0 ≤ (gg i).toInt ∧ (gg i).toInt ≤ 200 := fun i hi => by have := hg i hi; omega
  have ag := cagr_ci h
  have hd : ∀ i, i < 4 → ci 4 f i i = 1 := fun i hi => by rw [ag i i hi hi]; exact hz.1.2.1 i hi
  have lc := lnz_ci hg2 hd
  have lcg : ∀ a c, a < 4 → c < 4 → lgM (fun k => (gg k).toInt) (ci 4 f) a c = lgM (fun k => (gg k).toInt) (zi Z) a c := fun a c ha hc => by
    unfold lgM
    rw [ag a c ha hc]
  have cl1 : cagr 4 (lnz 4 gg (f, 0)).1 (lt gg Z) := cagr_of (fun a c ha hc => by
    rw [lc.1 a c ha hc, lcg a c ha hc, lt_zi hg2 hz.2.2.1 ha hc])
  unfold clg
  by_cases k : (lnz 4 gg (f, 0)).2 = 0
  · rw [if_pos k]
    refine ⟨rfl, cagr_of (fun a c ha hc => ?_)⟩
    have same : ∀ a c, a < 4 → c < 4 → lgM (fun k => (gg k).toInt) (zi Z) a c = zi Z a c := fun a c ha hc => by
      rw [← lcg a c ha hc, lc.2 k a c ha hc]
      exact ag a c ha hc
    show ci 4 (lnz 4 gg (f, 0)).1 a c = _
    rw [lc.1 a c ha hc, lcg a c ha hc, same a c ha hc]
    exact (z3 same a c ha hc).symm
  · rw [if_neg k]
    have cc := ccl_is (n := 4) (by omega) (by omega) cl1
    rw [z2] at cc
    exact ⟨cc.1, cc.2 rfl⟩
