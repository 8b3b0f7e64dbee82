/-! zones as matrices of integers -/
theorem bm_id {x : Int} (h1 : -2147483648 ≤ x) (h2 : x < 2147483648) : x.bmod (2 ^ 32) = x := by
  rw [Int.bmod_def]
  have e : ((2 ^ 32 : Nat) : Int) = 4294967296 := by decide
  rw [e]
  split <;> omega
theorem shr1 (a : Int32) : (a >>> ((1 : Int32) &&& 31)).toInt = a.toInt / 2 := by
  have e : ((1 : Int32) &&& 31) = 1 := by decide
  rw [e]
  show (BitVec.sshiftRight' a.toBitVec ((1 : Int32).toBitVec.smod 32)).toInt = _
  have e2 : ((1 : Int32).toBitVec.smod 32) = 1#32 := by decide
  rw [e2, BitVec.toInt_sshiftRight']
  show a.toInt >>> 1 = a.toInt / 2
  rw [Int.shiftRight_eq_div_pow]
  rfl
theorem and1 (a : Int32) : (a &&& (1 : Int32) = 0) ↔ a.toInt % 2 = 0 := by
  have h : (a &&& (1 : Int32)).toBitVec.toNat = a.toBitVec.toNat % 2 := by
    show (a.toBitVec &&& 1#32).toNat = _
    rw [BitVec.toNat_and]
    show a.toBitVec.toNat &&& 1 = _
    exact Nat.and_one_is_mod _
  have hi : a.toInt = a.toBitVec.toInt := rfl
  have hc := BitVec.toInt_eq_toNat_cond a.toBitVec
  have hp : a.toBitVec.toInt % 2 = ((a.toBitVec.toNat % 2 : Nat) : Int) := by
    rw [hc]
    split <;> omega
  rw [hi, hp]
  constructor
  · intro g
    rw [g] at h
    have : (0 : Int32).toBitVec.toNat = 0 := by decide
    omega
  · intro g
    apply Int32.toBitVec_inj.mp
    apply BitVec.eq_of_toNat_eq
    rw [h]
    have : (0 : Int32).toBitVec.toNat = 0 := by decide
    omega
/-- ANY -/
def AN : Int := 1000000
theorem AN_is : AN = 1000000 := rfl
/-- the SUM -/
def sm (a b : Int) : Int := if a = AN ∨ b = AN then AN else a + b - (if a % 2 = 1 ∨ b % 2 = 1 then 1 else 0)
theorem i32_eq {a b : Int32} : a = b ↔ a.toInt = b.toInt := ⟨fun h => by rw [h], fun h => Int32.toInt.inj h⟩
theorem sum_is {a b : Int32} (ha : -1073741824 ≤ a.toInt) (hb : -1073741824 ≤ b.toInt) (ha2 : a.toInt ≤ AN) (hb2 : b.toInt ≤ AN) : (Mo_sum_f a b).toInt = sm a.toInt b.toInt := by
  have hA : (1000000 : Int32).toInt = 1000000 := by decide
  rw [AN_is] at ha2 hb2
  unfold Mo_sum_f sm
  by_cases h1 : a = 1000000
  · have e : a.toInt = AN := by rw [h1]; exact hA
    rw [if_pos h1, if_pos (Or.inl e)]
    exact hA
  · have n1 : ¬ (a.toInt = AN) := fun t => h1 (i32_eq.mpr (t.trans hA.symm))
    rw [if_neg h1]
    by_cases h2 : b = 1000000
    · have e : b.toInt = AN := by rw [h2]; exact hA
      rw [if_pos h2, if_pos (Or.inr e)]
      exact hA
    · have n2 : ¬ (b.toInt = AN) := fun t => h2 (i32_eq.mpr (t.trans hA.symm))
      rw [if_neg h2, if_neg (show ¬ (a.toInt = AN ∨ b.toInt = AN) from fun t => t.elim n1 n2)]
      have sab : (a >>> ((1 : Int32) &&& 31) + b >>> ((1 : Int32) &&& 31)).toInt = a.toInt / 2 + b.toInt / 2 := by
        rw [Int32.toInt_add, shr1, shr1]
        exact bm_id (by omega) (by omega)
      have two : (2 : Int32).toInt = 2 := by decide
      have one : (1 : Int32).toInt = 1 := by decide
      have dbl : ((2 : Int32) * (a >>> ((1 : Int32) &&& 31) + b >>> ((1 : Int32) &&& 31))).toInt = 2 * (a.toInt / 2 + b.toInt / 2) := by
        rw [Int32.toInt_mul, sab, two]
        exact bm_id (by omega) (by omega)
      have pa := and1 a
      have pb := and1 b
      by_cases h3 : a &&& (1 : Int32) = 0
      · rw [if_pos h3]
        unfold Mo_boundOf_f
        rw [if_neg (by decide), dbl]
        have := pa.mp h3
        by_cases h4 : b.toInt % 2 = 1
        · rw [if_pos (Or.inr h4)]
          omega
        · rw [if_neg (fun t => t.elim (fun t => by omega) h4)]
          omega
      · have a1 : a.toInt % 2 = 1 := by
          have : ¬ (a.toInt % 2 = 0) := fun t => h3 (pa.mpr t)
          omega
        rw [if_neg h3, if_pos (Or.inl a1)]
        by_cases h4 : b &&& (1 : Int32) = 0
        · rw [if_pos h4]
          unfold Mo_boundOf_f
          rw [if_neg (by decide), dbl]
          have := pb.mp h4
          omega
        · have b1 : b.toInt % 2 = 1 := by
            have : ¬ (b.toInt % 2 = 0) := fun t => h4 (pb.mpr t)
            omega
          rw [if_neg h4]
          unfold Mo_boundOf_f
          rw [if_pos rfl, Int32.toInt_add, dbl, one]
          rw [bm_id (by omega) (by omega)]
          omega
theorem sm_fin {a b : Int} (ha : a ≠ AN) (hb : b ≠ AN) : sm a b = a + b - (if a % 2 = 1 ∨ b % 2 = 1 then 1 else 0) := by
  unfold sm
  rw [if_neg (show ¬ (a = AN ∨ b = AN) from fun t => t.elim ha hb)]
theorem sm_A (a : Int) : sm a AN = AN := by unfold sm; rw [if_pos (Or.inr rfl)]
theorem A_sm (a : Int) : sm AN a = AN := by unfold sm; rw [if_pos (Or.inl rfl)]
theorem sm_comm (a b : Int) : sm a b = sm b a := by
  by_cases h1 : a = AN
  · rw [h1, A_sm, sm_A]
  by_cases h2 : b = AN
  · rw [h2, A_sm, sm_A]
  rw [sm_fin h1 h2, sm_fin h2 h1]
  split <;> split <;> omega
theorem sm_one (a : Int) : sm a 1 = a := by
  by_cases h : a = AN
  · rw [h, A_sm]
  · rw [sm_fin h (by decide), if_pos (Or.inr (by decide))]
    omega
theorem one_sm (a : Int) : sm 1 a = a := by rw [sm_comm, sm_one]
/-- a bound that is ANY, or not beyond B -/
def fn (B a : Int) : Prop := a = AN ∨ (-B ≤ a ∧ a ≤ B)
theorem fn_le {B a : Int} (h : fn B a) (hB : B ≤ AN) : a ≤ AN := by
  rcases h with h | h
  · exact Int.le_of_eq h
  · omega
theorem fn_mono {B C a : Int} (h : fn B a) (hB : B ≤ C) : fn C a := by
  rcases h with h | h
  · exact Or.inl h
  · exact Or.inr (by omega)
theorem sm_bd {a b : Int} (ha : a ≠ AN) (hb : b ≠ AN) : a + b - 1 ≤ sm a b ∧ sm a b ≤ a + b := by
  rw [sm_fin ha hb]
  split <;> omega
theorem sm_fn {B C a b : Int} (ha : fn B a) (hb : fn C b) : fn (B + C + 1) (sm a b) := by
  by_cases h1 : a = AN
  · rw [h1, A_sm]; exact Or.inl rfl
  · by_cases h2 : b = AN
    · rw [h2, sm_A]; exact Or.inl rfl
    · have := sm_bd h1 h2
      have a1 := ha.resolve_left h1
      have b1 := hb.resolve_left h2
      exact Or.inr (by omega)
theorem sm_mono {a b c d : Int} (h1 : a ≤ c) (h2 : b ≤ d) (hc : c ≤ AN) (hd : d ≤ AN) (hs : a ≠ AN → b ≠ AN → a + b ≤ AN) : sm a b ≤ sm c d := by
  by_cases e1 : c = AN
  · rw [e1, A_sm]
    by_cases f1 : a = AN
    · rw [f1, A_sm]; exact Int.le_refl _
    · by_cases f2 : b = AN
      · rw [f2, sm_A]; exact Int.le_refl _
      · have := sm_bd f1 f2
        have := hs f1 f2
        omega
  · by_cases e2 : d = AN
    · rw [e2, sm_A]
      by_cases f1 : a = AN
      · rw [f1, A_sm]; exact Int.le_refl _
      · by_cases f2 : b = AN
        · rw [f2, sm_A]; exact Int.le_refl _
        · have := sm_bd f1 f2
          have := hs f1 f2
          omega
    · have f1 : a ≠ AN := fun t => by omega
      have f2 : b ≠ AN := fun t => by omega
      rw [sm_fin f1 f2, sm_fin e1 e2]
      split <;> split <;> omega
theorem sm_assoc {B a b c : Int} (ha : fn B a) (hb : fn B b) (hc : fn B c) (hB : 2 * B + 1 < AN) : sm (sm a b) c = sm a (sm b c) := by
  rw [AN_is] at hB
  by_cases h1 : a = AN
  · rw [h1, A_sm, A_sm, A_sm]
  by_cases h2 : b = AN
  · rw [h2, sm_A, A_sm, sm_A]
  by_cases h3 : c = AN
  · rw [h3, sm_A, sm_A, sm_A]
  have a1 := ha.resolve_left h1
  have b1 := hb.resolve_left h2
  have c1 := hc.resolve_left h3
  have e1 := sm_bd h1 h2
  have e2 := sm_bd h2 h3
  have n1 : sm a b ≠ AN := fun t => by rw [AN_is] at t; omega
  have n2 : sm b c ≠ AN := fun t => by rw [AN_is] at t; omega
  rw [sm_fin n1 h3, sm_fin h1 n2, sm_fin h1 h2, sm_fin h2 h3]
  by_cases p1 : a % 2 = 1 <;> by_cases p2 : b % 2 = 1 <;> by_cases p3 : c % 2 = 1 <;> simp only [p1, p2, p3, true_or, or_true, or_false, false_or, if_true, if_false] <;> (repeat' split) <;> omega
