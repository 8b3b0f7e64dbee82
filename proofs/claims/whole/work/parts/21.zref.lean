/-! THE REFERENCE'S ZONE: z (slot 15) as a flat function -/
def fu (Z : Nat → Int32) (k : Nat) (v : Int32) : Nat → Int32 := fun a => if a = k then v else Z a
def st (σ : mS) (k : Nat) (Z : Nat → Int32) : mS := fun a b => if a = k then Z b else σ a b
theorem st_eq (σ : mS) (k : Nat) (Z : Nat → Int32) (b : Nat) : st σ k Z k b = Z b := by simp [st]
theorem st_ne {σ : mS} {k a : Nat} {Z : Nat → Int32} (b : Nat) (h : a ≠ k) : st σ k Z a b = σ a b := by simp [st, h]
theorem st_id (σ : mS) (k : Nat) : st σ k (σ k) = σ := by
  funext a b
  unfold st
  by_cases h : a = k
  · rw [if_pos h, h]
  · rw [if_neg h]
theorem su_st (σ : mS) (k : Nat) (Z : Nat → Int32) (i : Nat) (v : Int32) : su (st σ k Z) k i v = st σ k (fu Z i v) := by
  funext a b
  unfold su st fu
  by_cases h : a = k
  · by_cases hb : b = i
    · simp [h, hb]
    · simp [h, hb]
  · simp [h]
theorem su_st_ne {σ : mS} {k c : Nat} {Z : Nat → Int32} (i : Nat) (v : Int32) (h : c ≠ k) : su (st σ k Z) c i v = st (su σ c i v) k Z := by
  funext a b
  unfold su st
  by_cases ha : a = k
  · simp [ha, Ne.symm h]
  · simp [ha]
theorem su_n {σ : mS} {k i a b : Nat} {v : Int32} (h : a ≠ k) : su σ k i v a b = σ a b := by simp [su, h]
theorem su_e (σ : mS) (k i : Nat) (v : Int32) : su σ k i v k i = v := by simp [su]
/-- one step of closing -/
def cs (k i j : Nat) (Z : Nat → Int32) : Nat → Int32 := fu Z (5 * i + j) (if Z (5 * i + j) ≤ Mo_sum_f (Z (5 * i + k)) (Z (5 * k + j)) then Z (5 * i + j) else Mo_sum_f (Z (5 * i + k)) (Z (5 * k + j)))
def cl3 (m k i : Nat) (Z : Nat → Int32) : Nat → Int32 := it (cs k i) 0 m Z
def cl2 (m k : Nat) (Z : Nat → Int32) : Nat → Int32 := it (cl3 m k) 0 m Z
/-- closing -/
def cl (m : Nat) (Z : Nat → Int32) : Nat → Int32 := it (cl2 m) 0 m Z
def em1 (Z : Nat → Int32) (i : Nat) (e : Int32) : Int32 := if e = 0 then (if 1 ≤ Z (6 * i) then 0 else 1) else 1
def em (m : Nat) (Z : Nat → Int32) (e : Int32) : Int32 := it (em1 Z) 0 m e
section ZRef
variable {α : Type} {σ : mS} {τ : mL} {m : Nat} {R : Int32 × mS × mL}
theorem close_22 (hm : m ≤ 5) (h16 : σ 16 0 = J m) {k i : Nat} (hk : k < 5) (hi : i < 5) {Z : Nat → Int32} (e : Ev (fun n => Mo_close_f n 12 (J k) (J (i + 1)) 0 0 (st σ 15 (cl3 m k i Z)) τ) R) : Ev (fun n => Mo_close_f n 22 (J k) (J i) (J 0) 0 (st σ 15 Z) τ) R := by
  refine Ev.up (f := fun n j Z => Mo_close_f n 22 (J k) (J i) (J j) 0 (st σ 15 Z) τ) m (cs k i) (fun _ _ => True) (fun _ _ _ _ => trivial) (fun j Z hj _ ee => ?_) m 0 Z (by omega) trivial ?_
  · refine Ev.succ (fun n => Mo_close_e22 n _ _ _ _ _ _) ?_
    unfold Mo_close_t22
    have a1 : xin (J (5 * i + k)) 25 = true := xin_J (by omega) (by omega)
    have a2 : xin (J (5 * k + j)) 25 = true := xin_J (by omega) (by omega)
    have a3 : xin (J (5 * i + j)) 25 = true := xin_J (by omega) (by omega)
    have a4 : ¬ (J m ≤ J j) := by rw [J_le (by omega) (by omega)]; omega
    have b1 : Int32.toNatClampNeg (J (5 * i + k)) = 5 * i + k := J_nat (by omega)
    have b2 : Int32.toNatClampNeg (J (5 * k + j)) = 5 * k + j := J_nat (by omega)
    have b3 : Int32.toNatClampNeg (J (5 * i + j)) = 5 * i + j := J_nat (by omega)
    have c1 : J j + 1 = J (j + 1) := J_add j 1
    simp only [J5, J_mul, J_add, a1, a2, a3, b1, b2, b3, c1, st_eq, if_true, su_st, bnd]
    refine Ev.neg (by rw [st_ne 0 (by decide), h16]; exact a4) ?_
    by_cases hc : Z (5 * i + j) ≤ Mo_sum_f (Z (5 * i + k)) (Z (5 * k + j))
    · refine Ev.pos hc ?_
      unfold cs at ee
      rw [if_pos hc] at ee
      exact ee
    · refine Ev.neg hc ?_
      unfold cs at ee
      rw [if_neg hc] at ee
      exact ee
  · refine Ev.succ (fun n => Mo_close_e22 n _ _ _ _ _ _) ?_
    unfold Mo_close_t22
    refine Ev.pos (by rw [st_ne 0 (by decide), h16]; exact (J_le (by omega) (by omega)).mpr (by omega)) ?_
    rw [show J i + 1 = J (i + 1) from J_add i 1]
    exact e
theorem close_12 (hm : m ≤ 5) (h16 : σ 16 0 = J m) {k : Nat} (hk : k < 5) {Z : Nat → Int32} (e : Ev (fun n => Mo_close_f n 2 (J (k + 1)) 0 0 0 (st σ 15 (cl2 m k Z)) τ) R) : Ev (fun n => Mo_close_f n 12 (J k) (J 0) 0 0 (st σ 15 Z) τ) R := by
  refine Ev.up (f := fun n i Z => Mo_close_f n 12 (J k) (J i) 0 0 (st σ 15 Z) τ) m (cl3 m k) (fun _ _ => True) (fun _ _ _ _ => trivial) (fun i Z hi _ ee => ?_) m 0 Z (by omega) trivial ?_
  · refine Ev.succ (fun n => Mo_close_e12 n _ _ _ _ _ _) ?_
    unfold Mo_close_t12
    refine Ev.neg (by rw [st_ne 0 (by decide), h16, J_le (by omega) (by omega)]; omega) ?_
    exact close_22 hm h16 hk (by omega) ee
  · refine Ev.succ (fun n => Mo_close_e12 n _ _ _ _ _ _) ?_
    unfold Mo_close_t12
    refine Ev.pos (by rw [st_ne 0 (by decide), h16, J_le (by omega) (by omega)]; omega) ?_
    rw [show J k + 1 = J (k + 1) from J_add k 1]
    exact e
theorem close_2 (hm : m ≤ 5) (h16 : σ 16 0 = J m) {Z : Nat → Int32} (e : Ev (fun n => Mo_close_f n 115 (J 0) 0 0 0 (st σ 15 (cl m Z)) τ) R) : Ev (fun n => Mo_close_f n 2 (J 0) 0 0 0 (st σ 15 Z) τ) R := by
  refine Ev.up (f := fun n k Z => Mo_close_f n 2 (J k) 0 0 0 (st σ 15 Z) τ) m (cl2 m) (fun _ _ => True) (fun _ _ _ _ => trivial) (fun k Z hk _ ee => ?_) m 0 Z (by omega) trivial ?_
  · refine Ev.succ (fun n => Mo_close_e2 n _ _ _ _ _ _) ?_
    unfold Mo_close_t2
    refine Ev.neg (by rw [st_ne 0 (by decide), h16, J_le (by omega) (by omega)]; omega) ?_
    exact close_12 hm h16 (by omega) ee
  · refine Ev.succ (fun n => Mo_close_e2 n _ _ _ _ _ _) ?_
    unfold Mo_close_t2
    refine Ev.pos (by rw [st_ne 0 (by decide), h16, J_le (by omega) (by omega)]; omega) ?_
    exact e
theorem close_115 (hm : m ≤ 5) (h16 : σ 16 0 = J m) {e0 : Int32} (e : Ev (fun n => Mo_close_f n 115 (J m) 0 0 0 (su σ 17 0 (em m (σ 15) e0)) τ) R) : Ev (fun n => Mo_close_f n 115 (J 0) 0 0 0 (su σ 17 0 e0) τ) R := by
  refine Ev.up (f := fun n i e0 => Mo_close_f n 115 (J i) 0 0 0 (su σ 17 0 e0) τ) m (em1 (σ 15)) (fun _ _ => True) (fun _ _ _ _ => trivial) (fun i e0 hi _ ee => ?_) m 0 e0 (by omega) trivial e
  refine Ev.succ (fun n => Mo_close_e115 n _ _ _ _ _ _) ?_
  unfold Mo_close_t115
  have a1 : xin (J (6 * i)) 25 = true := xin_J (by omega) (by omega)
  have b1 : Int32.toNatClampNeg (J (6 * i)) = 6 * i := J_nat (by omega)
  have c1 : J i + 1 = J (i + 1) := J_add i 1
  have d1 : ∀ v w, su (su σ 17 0 v) 17 0 w = su σ 17 0 w := by
    intro v w
    funext a b
    unfold su
    by_cases h : a = 17 ∧ b = 0
    · simp [h]
    · simp [h]
  simp only [J6, J_mul, a1, b1, c1, if_true, bnd, d1]
  refine Ev.neg (by rw [su_n (by decide), h16, J_le (by omega) (by omega)]; omega) ?_
  rw [su_e]
  unfold em1 at ee
  by_cases hc : e0 = 0
  · refine Ev.pos hc ?_
    rw [if_pos hc] at ee
    by_cases hz : 1 ≤ σ 15 (6 * i)
    · refine Ev.pos (by rw [su_n (by decide)]; exact hz) ?_
      rw [if_pos hz] at ee
      exact ee
    · refine Ev.neg (by rw [su_n (by decide)]; exact hz) ?_
      rw [if_neg hz] at ee
      exact ee
  · refine Ev.neg hc ?_
    rw [if_neg hc] at ee
    exact ee
theorem su_same (σ : mS) (k i : Nat) : su σ k i (σ k i) = σ := by
  funext a b
  unfold su
  by_cases h : a = k ∧ b = i
  · rw [if_pos h, h.1, h.2]
  · rw [if_neg h]
/-- CLOSED, as the reference does it -/
def zcl (σ : mS) (m : Nat) : mS := su (st σ 15 (cl m (σ 15))) 17 0 (em m (cl m (σ 15)) (σ 17 0))
theorem close_ev (hm : m ≤ 5) (h16 : σ 16 0 = J m) {x1 x2 x3 x4 : Int32} : Ev (fun n => Mo_close_f n 0 x1 x2 x3 x4 σ τ) (0, zcl σ m, τ) := by
  refine Ev.succ (fun n => Mo_close_e0 n _ _ _ _ _ _) ?_
  unfold Mo_close_t0
  have k := close_2 (σ := σ) (τ := τ) (R := (0, zcl σ m, τ)) (Z := σ 15) hm h16
  rw [st_id] at k
  refine k ?_
  have k2 := close_115 (σ := st σ 15 (cl m (σ 15))) (τ := τ) (R := (0, zcl σ m, τ)) (e0 := σ 17 0) hm (by rw [st_ne 0 (by decide)]; exact h16)
  have e1 : su (st σ 15 (cl m (σ 15))) 17 0 (σ 17 0) = st σ 15 (cl m (σ 15)) := by
    have := su_same (st σ 15 (cl m (σ 15))) 17 0
    rwa [st_ne 0 (by decide)] at this
  rw [e1] at k2
  refine k2 ?_
  refine Ev.succ (fun n => Mo_close_e115 n _ _ _ _ _ _) ?_
  unfold Mo_close_t115
  have e2 : (fun b => st σ 15 (cl m (σ 15)) 15 b) = cl m (σ 15) := by funext b; exact st_eq σ 15 _ b
  refine Ev.pos (by rw [su_n (by decide), st_ne 0 (by decide), h16, J_le (by omega) (by omega)]; omega) ?_
  rw [show st σ 15 (cl m (σ 15)) 15 = cl m (σ 15) from e2]
  exact Ev.ret
end ZRef
