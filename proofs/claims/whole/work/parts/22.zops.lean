/-! THE REFERENCE'S ZONE, more of it -/
theorem it_fu (b : Nat) (g : Nat → Int32) (S : Nat → Int32) : ∀ d, it (fun k s => fu s (b + k) (g k)) 0 d S = fun a => if b ≤ a ∧ a < b + d then g (a - b) else S a := by
  intro d
  induction d with
  | zero =>
    funext a
    rw [if_neg (by omega)]
    rfl
  | succ d ih =>
    rw [it_succ, ih]
    funext a
    unfold fu
    by_cases h : a = b + (0 + d)
    · rw [if_pos h, if_pos (by omega)]
      congr 1
      omega
    · rw [if_neg h]
      by_cases h2 : b ≤ a ∧ a < b + d
      · exact (if_pos h2).trans (if_pos (by omega)).symm
      · exact (if_neg h2).trans (if_neg (by omega)).symm
theorem it_fu0 (g : Nat → Int32) (S : Nat → Int32) (d : Nat) : it (fun k s => fu s k (g k)) 0 d S = fun a => if a < d then g a else S a := by
  have e := it_fu 0 g S d
  simp only [Nat.zero_add, Nat.zero_le, true_and, Nat.sub_zero] at e
  exact e
theorem su_17 (σ : mS) (k i : Nat) (v w : Int32) : su (su σ k i v) k i w = su σ k i w := by
  funext a b
  unfold su
  by_cases h : a = k ∧ b = i
  · simp [h]
  · simp [h]
section ZOps
variable {σ : mS} {τ : mL} {m : Nat} {R : Int32 × mS × mL}
/-- TIGHTENED -/
def ztg (σ : mS) (m i j : Nat) (b : Int32) : mS := if σ 17 0 = 0 then (if σ 15 (5 * i + j) ≤ b then σ else zcl (su σ 15 (5 * i + j) b) m) else σ
theorem tightenBy_ev (hm : m ≤ 5) (h16 : σ 16 0 = J m) {i j : Nat} (hi : i < 5) (hj : j < 5) {b : Int32} : Ev (fun n => Mo_tightenBy_f n (J i) (J j) b σ τ) (0, ztg σ m i j b, τ) := by
  unfold Mo_tightenBy_f ztg
  have a1 : xin (J (5 * i + j)) 25 = true := xin_J (by omega) (by omega)
  have b1 : Int32.toNatClampNeg (J (5 * i + j)) = 5 * i + j := J_nat (by omega)
  simp only [J5, J_mul, J_add, a1, b1, if_true, bnd]
  by_cases h : σ 17 0 = 0
  · rw [if_pos h]
    refine Ev.pos h ?_
    by_cases h2 : σ 15 (5 * i + j) ≤ b
    · rw [if_pos h2]
      exact Ev.pos h2 Ev.ret
    · rw [if_neg h2]
      refine Ev.neg h2 ?_
      exact Ev.ob (close_ev hm (by rw [su_n (by decide)]; exact h16)) Ev.ret
  · rw [if_neg h]
    exact Ev.neg h Ev.ret
/-- PASSED -/
def pz (m : Nat) (Z : Nat → Int32) : Nat → Int32 := it (fun i Z => fu Z (5 * i) 1000000) 1 (m - 1) Z
def zps (σ : mS) (m : Nat) : mS := if σ 17 0 = 0 then st σ 15 (pz m (σ 15)) else σ
theorem passOn_ev (hm : m ≤ 5) (hm1 : 1 ≤ m) (h16 : σ 16 0 = J m) {x1 : Int32} : Ev (fun n => Mo_passOn_f n 0 x1 σ τ) (0, zps σ m, τ) := by
  refine Ev.succ (fun n => Mo_passOn_e0 n _ _ _) ?_
  unfold Mo_passOn_t0 zps
  by_cases h : σ 17 0 = 0
  · rw [if_pos h]
    have k := Ev.up (f := fun n i Z => Mo_passOn_f n 2 (J i) (st σ 15 Z) τ) (R := (0, st σ 15 (pz m (σ 15)), τ)) m (fun i Z => fu Z (5 * i) 1000000) (fun _ _ => True) (fun _ _ _ _ => trivial) (fun i Z hi _ ee => by
      refine Ev.succ (fun n => Mo_passOn_e2 n _ _ _) ?_
      unfold Mo_passOn_t2
      have a1 : xin (J (5 * i)) 25 = true := xin_J (by omega) (by omega)
      have b1 : Int32.toNatClampNeg (J (5 * i)) = 5 * i := J_nat (by omega)
      have c1 : J i + 1 = J (i + 1) := J_add i 1
      simp only [J5, J_mul, a1, b1, c1, if_true, bnd, su_st]
      refine Ev.neg (by rw [st_ne 0 (by decide), h16, J_le (by omega) (by omega)]; omega) ?_
      exact Ev.pos (by rw [st_ne 0 (by decide)]; exact h) ee) (m - 1) 1 (σ 15) (by omega) trivial
    rw [st_id] at k
    refine k ?_
    refine Ev.succ (fun n => Mo_passOn_e2 n _ _ _) ?_
    unfold Mo_passOn_t2
    exact Ev.pos (by rw [st_ne 0 (by decide), h16, J_le (by omega) (by omega)]; omega) Ev.ret
  · rw [if_neg h]
    refine Ev.succ (fun n => Mo_passOn_e2 n _ _ _) ?_
    unfold Mo_passOn_t2
    by_cases hl : σ 16 0 ≤ 1
    · exact Ev.pos hl Ev.ret
    · exact Ev.neg hl (Ev.neg h Ev.ret)
/-- SET -/
abbrev bt (c : Int32) (j : Nat) : Prop := (c >>> ((J j - (1 : Int32)) &&& 31)) &&& (1 : Int32) = (1 : Int32)
def sv (c : Int32) (j : Nat) (x : Int32) : Int32 := if 0 < j ∧ j < 4 ∧ bt c j then 1 else x
def sn1 (W : Nat → Int32) (c : Int32) (i j : Nat) (Z : Nat → Int32) : Nat → Int32 := fu (fu Z (5 * i + j) (sv c j (W j))) (5 * j + i) (sv c j (W (5 * j)))
def sn2 (W : Nat → Int32) (m : Nat) (c : Int32) (i : Nat) (Z : Nat → Int32) : Nat → Int32 := if bt c i then it (sn1 W c i) 0 m Z else Z
def sn (W : Nat → Int32) (m : Nat) (c : Int32) (Z : Nat → Int32) : Nat → Int32 := it (sn2 W m c) 1 3 Z
def was (σ : mS) : Nat → Int32 := fun a => if a < 25 then σ 15 a else σ 18 a
def zsn (σ : mS) (m : Nat) (c : Int32) : mS := if σ 17 0 = 0 then st (st σ 18 (was σ)) 15 (sn (was σ) m c (σ 15)) else st σ 18 (was σ)
theorem setNull_42 (hm : m ≤ 5) (h16 : σ 16 0 = J m) {c : Int32} {i : Nat} (hi1 : 1 ≤ i) (hi : i < 4) {Z : Nat → Int32} (e : Ev (fun n => Mo_setNull_f n 28 c (J (i + 1)) 0 0 (st σ 15 (sn2 (σ 18) m c i Z)) τ) R) : Ev (fun n => Mo_setNull_f n 42 c (J i) (J 0) 0 (st σ 15 Z) τ) R := by
  have c0 : J i + 1 = J (i + 1) := J_add i 1
  unfold sn2 at e
  by_cases hb : bt c i
  · rw [if_pos hb] at e
    refine Ev.up (f := fun n j Z => Mo_setNull_f n 42 c (J i) (J j) 0 (st σ 15 Z) τ) m (sn1 (σ 18) c i) (fun _ _ => True) (fun _ _ _ _ => trivial) (fun j Z hj _ ee => ?_) m 0 Z (by omega) trivial ?_
    · refine Ev.succ (fun n => Mo_setNull_e42 n _ _ _ _ _ _) ?_
      unfold Mo_setNull_t42
      have a1 : xin (J j) 25 = true := xin_J (by omega) (by omega)
      have a2 : xin (J (5 * i + j)) 25 = true := xin_J (by omega) (by omega)
      have a3 : xin (J (5 * j + i)) 25 = true := xin_J (by omega) (by omega)
      have a4 : xin (J (5 * j)) 25 = true := xin_J (by omega) (by omega)
      have b1 : Int32.toNatClampNeg (J j) = j := J_nat (by omega)
      have b2 : Int32.toNatClampNeg (J (5 * i + j)) = 5 * i + j := J_nat (by omega)
      have b3 : Int32.toNatClampNeg (J (5 * j + i)) = 5 * j + i := J_nat (by omega)
      have b4 : Int32.toNatClampNeg (J (5 * j)) = 5 * j := J_nat (by omega)
      have c1 : J j + 1 = J (j + 1) := J_add j 1
      have d1 : ∀ (Y : Nat → Int32) (b : Nat), st σ 15 Y 18 b = σ 18 b := fun Y b => st_ne b (by decide)
      simp only [J5, J_mul, J_add, a1, a2, a3, a4, b1, b2, b3, b4, c1, if_true, bnd, su_st, d1]
      refine Ev.neg (by rw [st_ne 0 (by decide), h16, J_le (by omega) (by omega)]; omega) ?_
      refine Ev.pos hb ?_
      unfold sn1 sv at ee
      by_cases h0 : j = 0
      · refine Ev.pos (by rw [J0, J_le (by omega) (by omega)]; omega) ?_
        rw [if_neg (by omega), if_neg (by omega)] at ee
        exact ee
      · refine Ev.neg (by rw [J0, J_le (by omega) (by omega)]; omega) ?_
        by_cases h4 : 4 ≤ j
        · refine Ev.pos (by rw [J4, J_le (by omega) (by omega)]; omega) ?_
          rw [if_neg (by omega), if_neg (by omega)] at ee
          exact ee
        · refine Ev.neg (by rw [J4, J_le (by omega) (by omega)]; omega) ?_
          by_cases hj2 : bt c j
          · refine Ev.pos hj2 ?_
            rw [if_pos ⟨by omega, by omega, hj2⟩, if_pos ⟨by omega, by omega, hj2⟩] at ee
            exact ee
          · refine Ev.neg hj2 ?_
            rw [if_neg (fun q => hj2 q.2.2), if_neg (fun q => hj2 q.2.2)] at ee
            exact ee
    · refine Ev.succ (fun n => Mo_setNull_e42 n _ _ _ _ _ _) ?_
      unfold Mo_setNull_t42
      refine Ev.pos (by rw [st_ne 0 (by decide), h16, J_le (by omega) (by omega)]; omega) ?_
      rw [c0]
      exact e
  · rw [if_neg hb] at e
    refine Ev.succ (fun n => Mo_setNull_e42 n _ _ _ _ _ _) ?_
    unfold Mo_setNull_t42
    rw [c0]
    by_cases hl : st σ 15 Z 16 0 ≤ J 0
    · exact Ev.pos hl e
    · exact Ev.neg hl (Ev.neg hb e)
theorem setNull_ev (hm : m ≤ 5) (h16 : σ 16 0 = J m) {c x2 x3 x4 : Int32} : Ev (fun n => Mo_setNull_f n 0 c x2 x3 x4 σ τ) (0, zsn σ m c, τ) := by
  refine Ev.succ (fun n => Mo_setNull_e0 n _ _ _ _ _ _) ?_
  unfold Mo_setNull_t0
  have k := Ev.up (f := fun n i W => Mo_setNull_f n 2 c (J i) 0 0 (st σ 18 W) τ) (R := (0, zsn σ m c, τ)) 25 (fun i W => fu W i (σ 15 i)) (fun _ _ => True) (fun _ _ _ _ => trivial) (fun i W hi _ ee => by
      refine Ev.succ (fun n => Mo_setNull_e2 n _ _ _ _ _ _) ?_
      unfold Mo_setNull_t2
      have a1 : xin (J i) 25 = true := xin_J (by omega) (by omega)
      have b1 : Int32.toNatClampNeg (J i) = i := J_nat (by omega)
      have c1 : J i + 1 = J (i + 1) := J_add i 1
      simp only [a1, b1, c1, if_true, bnd, su_st]
      refine Ev.neg (by rw [J25, J_le (by omega) (by omega)]; omega) ?_
      rw [st_ne i (by decide)]
      exact ee) 25 0 (σ 18) (by omega) trivial
  rw [st_id] at k
  refine k ?_
  rw [it_fu0]
  show Ev (fun n => Mo_setNull_f n 2 c (J 25) 0 0 (st σ 18 (was σ)) τ) (0, zsn σ m c, τ)
  refine Ev.succ (fun n => Mo_setNull_e2 n _ _ _ _ _ _) ?_
  unfold Mo_setNull_t2
  refine Ev.pos (by rw [J25, J_le (by omega) (by omega)]; omega) ?_
  have h18 : st σ 18 (was σ) 18 = was σ := by funext b; exact st_eq σ 18 (was σ) b
  have h15 : st σ 18 (was σ) 15 = σ 15 := by funext b; exact st_ne b (by decide)
  unfold zsn
  by_cases h : σ 17 0 = 0
  · rw [if_pos h]
    have k2 := Ev.up (f := fun n i Z => Mo_setNull_f n 28 c (J i) 0 0 (st (st σ 18 (was σ)) 15 Z) τ) (R := (0, st (st σ 18 (was σ)) 15 (sn (was σ) m c (σ 15)), τ)) 4 (sn2 (was σ) m c) (fun i _ => 1 ≤ i) (fun i _ _ _ => by omega) (fun i Z hi h1 ee => by
      refine Ev.succ (fun n => Mo_setNull_e28 n _ _ _ _ _ _) ?_
      unfold Mo_setNull_t28
      refine Ev.neg (by rw [J4, J_le (by omega) (by omega)]; omega) ?_
      refine Ev.pos (by rw [st_ne 0 (by decide), st_ne 0 (by decide)]; exact h) ?_
      refine setNull_42 hm (by rw [st_ne 0 (by decide)]; exact h16) h1 hi ?_
      rw [h18]
      exact ee) 3 1 (σ 15) (by omega) (by omega)
    have e1 : st (st σ 18 (was σ)) 15 (σ 15) = st σ 18 (was σ) := by
      have := st_id (st σ 18 (was σ)) 15
      rwa [h15] at this
    rw [e1] at k2
    refine k2 ?_
    refine Ev.succ (fun n => Mo_setNull_e28 n _ _ _ _ _ _) ?_
    unfold Mo_setNull_t28
    exact Ev.pos (by rw [J4, J_le (by omega) (by omega)]; omega) Ev.ret
  · rw [if_neg h]
    refine Ev.succ (fun n => Mo_setNull_e28 n _ _ _ _ _ _) ?_
    unfold Mo_setNull_t28
    refine Ev.neg (by rw [J4, J1, J_le (by omega) (by omega)]; omega) ?_
    exact Ev.neg (by rw [st_ne 0 (by decide)]; exact h) Ev.ret
end ZOps
