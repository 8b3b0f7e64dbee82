/-! THE REFERENCE: let, showZone, allNull, allTimes, isSeen, add, keepExact -/
def lb1 (g : Nat → Int32) (i j : Nat) (b : Int32) : Int32 := if 0 < i ∧ ¬ (b >>> ((1 : Int32) &&& 31) ≤ g i) then 1000000 else (if -(g j) ≤ b >>> ((1 : Int32) &&& 31) then b else ((-2 : Int32)) * g j)
def lv (g : Nat → Int32) (i j : Nat) (b : Int32) : Int32 := if i = 0 ∧ ¬ (lb1 g i j b ≤ 1) then 1 else lb1 g i j b
def lt1 (g : Nat → Int32) (i j : Nat) (Z : Nat → Int32) : Nat → Int32 := if i = j then Z else fu Z (5 * i + j) (lv g i j (Z (5 * i + j)))
def lt (g : Nat → Int32) (Z : Nat → Int32) : Nat → Int32 := it (fun i Z => it (lt1 g i) 0 4 Z) 0 4 Z
/-- LET GO -/
def qlt (g : Nat → Int32) (q : zQ) : zQ := if q.2 = 0 then qcl 4 (lt g q.1, q.2) else q
def szq (S : Nat → Int32) (k : Nat) (Z : Nat → Int32) : Nat → Int32 := fun i => if i < 25 then S (25 * k + i) else Z i
section TM
variable {σ : mS} {τ : mL} {m : Nat} {R : Int32 × mS × mL} {q : zQ}
theorem let_16 {i : Nat} (hi : i < 4) {Z : Nat → Int32} {e0 : Int32} (e : Ev (fun n => Mo_let_f n 2 (J (i + 1)) 0 0 0 (ez σ (it (lt1 (σ 19) i) 0 4 Z, e0)) τ) R) : Ev (fun n => Mo_let_f n 16 (J i) (J 0) 0 0 (ez σ (Z, e0)) τ) R := by
  refine Ev.up (f := fun n j Z => Mo_let_f n 16 (J i) (J j) 0 0 (ez σ (Z, e0)) τ) 4 (lt1 (σ 19) i) (fun _ _ => True) (fun _ _ _ _ => trivial) (fun j Z hj _ ee => ?_) 4 0 Z (by omega) trivial ?_
  · refine Ev.succ (fun n => Mo_let_e16 n _ _ _ _ _ _) ?_
    unfold Mo_let_t16
    have a1 : xin (J (5 * i + j)) 25 = true := xin_J (by omega) (by omega)
    have a2 : xin (J j) 4 = true := xin_J (by omega) (by omega)
    have a3 : xin (J i) 4 = true := xin_J (by omega) (by omega)
    have b1 : Int32.toNatClampNeg (J (5 * i + j)) = 5 * i + j := J_nat (by omega)
    have b2 : Int32.toNatClampNeg (J j) = j := J_nat (by omega)
    have b3 : Int32.toNatClampNeg (J i) = i := J_nat (by omega)
    have c1 : J j + 1 = J (j + 1) := J_add j 1
    have d1 : ∀ (Y : Nat → Int32) (b : Nat), ez σ (Y, e0) 19 b = σ 19 b := fun Y b => ez_ne σ _ b (by decide) (by decide)
    simp only [J5, J_mul, J_add, a1, a2, a3, b1, b2, b3, c1, if_true, bnd, ez_15, ez_u15, d1]
    refine Ev.neg (by rw [J4, J_le (by omega) (by omega)]; omega) ?_
    unfold lt1 at ee
    by_cases hij : i = j
    · rw [if_pos hij] at ee
      exact Ev.pos (by rw [hij]) ee
    · rw [if_neg hij] at ee
      refine Ev.neg (by rw [J_eq (by omega) (by omega)]; exact hij) ?_
      by_cases h0 : i = 0
      · have z1 : J i ≤ 0 := by rw [J0, J_le (by omega) (by omega)]; omega
        have z2 : J i = 0 := by rw [h0]; rfl
        have z3 : ¬ (0 < i) := by omega
        refine Ev.pos z1 ?_
        by_cases hd : -(σ 19 j) ≤ Z (5 * i + j) >>> ((1 : Int32) &&& 31)
        · refine Ev.pos hd (Ev.pos z2 ?_)
          have e1 : lb1 (σ 19) i j (Z (5 * i + j)) = Z (5 * i + j) := by unfold lb1; rw [if_neg (fun t => z3 t.1), if_pos hd]
          by_cases hb : Z (5 * i + j) ≤ 1
          · have e2 : lv (σ 19) i j (Z (5 * i + j)) = Z (5 * i + j) := by unfold lv; rw [e1, if_neg (fun t => t.2 hb)]
            rw [e2] at ee
            exact Ev.pos hb ee
          · have e2 : lv (σ 19) i j (Z (5 * i + j)) = 1 := by unfold lv; rw [e1, if_pos ⟨h0, hb⟩]
            rw [e2] at ee
            exact Ev.neg hb ee
        · refine Ev.neg hd (Ev.pos z2 ?_)
          have e1 : lb1 (σ 19) i j (Z (5 * i + j)) = ((-2 : Int32)) * σ 19 j := by unfold lb1; rw [if_neg (fun t => z3 t.1), if_neg hd]
          by_cases hb : ((-2 : Int32)) * σ 19 j ≤ 1
          · have e2 : lv (σ 19) i j (Z (5 * i + j)) = ((-2 : Int32)) * σ 19 j := by unfold lv; rw [e1, if_neg (fun t => t.2 hb)]
            rw [e2] at ee
            exact Ev.pos hb ee
          · have e2 : lv (σ 19) i j (Z (5 * i + j)) = 1 := by unfold lv; rw [e1, if_pos ⟨h0, hb⟩]
            rw [e2] at ee
            exact Ev.neg hb ee
      · have z1 : ¬ (J i ≤ 0) := by rw [J0, J_le (by omega) (by omega)]; omega
        have z2 : ¬ (J i = 0) := by rw [J0, J_eq (by omega) (by omega)]; exact h0
        refine Ev.neg z1 ?_
        have e3 : lv (σ 19) i j (Z (5 * i + j)) = lb1 (σ 19) i j (Z (5 * i + j)) := by unfold lv; rw [if_neg (fun t => h0 t.1)]
        rw [e3] at ee
        unfold lb1 at ee
        by_cases hc : Z (5 * i + j) >>> ((1 : Int32) &&& 31) ≤ σ 19 i
        · refine Ev.pos hc ?_
          rw [if_neg (fun t => t.2 hc)] at ee
          by_cases hd : -(σ 19 j) ≤ Z (5 * i + j) >>> ((1 : Int32) &&& 31)
          · rw [if_pos hd] at ee
            exact Ev.pos hd (Ev.neg z2 ee)
          · rw [if_neg hd] at ee
            exact Ev.neg hd (Ev.neg z2 ee)
        · refine Ev.neg hc ?_
          rw [if_pos ⟨by omega, hc⟩] at ee
          exact Ev.neg z2 ee
  · refine Ev.succ (fun n => Mo_let_e16 n _ _ _ _ _ _) ?_
    unfold Mo_let_t16
    refine Ev.pos (by rw [J4, J_le (by omega) (by omega)]; omega) ?_
    rw [show J i + 1 = J (i + 1) from J_add i 1]
    exact e
theorem let_q (h16 : σ 16 0 = J 4) {x1 x2 x3 x4 : Int32} : Ev (fun n => Mo_let_f n 0 x1 x2 x3 x4 (ez σ q) τ) (0, ez σ (qlt (σ 19) q), τ) := by
  refine Ev.succ (fun n => Mo_let_e0 n _ _ _ _ _ _) ?_
  unfold Mo_let_t0 qlt
  by_cases h : q.2 = 0
  · rw [if_pos h]
    refine Ev.up (f := fun n i Z => Mo_let_f n 2 (J i) 0 0 0 (ez σ (Z, q.2)) τ) 4 (fun i Z => it (lt1 (σ 19) i) 0 4 Z) (fun _ _ => True) (fun _ _ _ _ => trivial) (fun i Z hi _ ee => ?_) 4 0 q.1 (by omega) trivial ?_
    · refine Ev.succ (fun n => Mo_let_e2 n _ _ _ _ _ _) ?_
      unfold Mo_let_t2
      refine Ev.neg (by rw [J4, J_le (by omega) (by omega)]; omega) ?_
      refine Ev.pos (by rw [ez_17]; exact h) ?_
      exact let_16 hi ee
    · refine Ev.succ (fun n => Mo_let_e2 n _ _ _ _ _ _) ?_
      unfold Mo_let_t2
      refine Ev.pos (by rw [J4, J_le (by omega) (by omega)]; omega) ?_
      refine Ev.pos (by rw [ez_17]; exact h) ?_
      exact Ev.ob (close_q (by omega) h16) Ev.ret
  · rw [if_neg h]
    refine Ev.succ (fun n => Mo_let_e2 n _ _ _ _ _ _) ?_
    unfold Mo_let_t2
    refine Ev.neg (by decide) ?_
    exact Ev.neg (by rw [ez_17]; exact h) (Ev.neg (by rw [ez_17]; exact h) Ev.ret)
theorem showZone_q {k : Nat} (hk : k < 200) {x2 : Int32} : Ev (fun n => Mo_showZone_f n 0 (J k) x2 (ez σ q) τ) (0, ez (su σ 16 0 4) (szq (σ 25) k q.1, 0), τ) := by
  refine Ev.succ (fun n => Mo_showZone_e0 n _ _ _ _) ?_
  unfold Mo_showZone_t0
  simp only [bnd]
  rw [ez_su _ _ _ _ (by decide) (by decide), ez_u17]
  have key := Ev.up (f := fun n i Z => Mo_showZone_f n 12 (J k) (J i) (ez (su σ 16 0 4) (Z, 0)) τ) (R := (0, ez (su σ 16 0 4) (szq (σ 25) k q.1, 0), τ)) 25 (fun i Z => fu Z i (σ 25 (25 * k + i))) (fun _ _ => True) (fun _ _ _ _ => trivial) (fun i Z hi _ ee => by
    refine Ev.succ (fun n => Mo_showZone_e12 n _ _ _ _) ?_
    unfold Mo_showZone_t12
    have a1 : xin (J (25 * k + i)) 5000 = true := xin_J (by omega) (by omega)
    have a2 : xin (J i) 25 = true := xin_J (by omega) (by omega)
    have b1 : Int32.toNatClampNeg (J (25 * k + i)) = 25 * k + i := J_nat (by omega)
    have b2 : Int32.toNatClampNeg (J i) = i := J_nat (by omega)
    have c1 : J i + 1 = J (i + 1) := J_add i 1
    simp only [J25, J_mul, J_add, a1, a2, b1, b2, c1, if_true, bnd, ez_u15]
    refine Ev.neg (by rw [J_le (by omega) (by omega)]; omega) ?_
    rw [ez_ne _ _ _ (by decide) (by decide), su_n (by decide)]
    exact ee) 25 0 q.1 (by omega) trivial
  refine key ?_
  rw [it_fu0]
  refine Ev.succ (fun n => Mo_showZone_e12 n _ _ _ _) ?_
  unfold Mo_showZone_t12
  exact Ev.pos (by rw [J25, J_le (by omega) (by omega)]; omega) Ev.ret
theorem allNull_q {x1 x2 : Int32} : Ev (fun n => Mo_allNull_f n 0 x1 x2 (ez σ q) τ) (0, ez (su σ 16 0 x1) (fun i => if i < 25 then 1 else q.1 i, 0), τ) := by
  refine Ev.succ (fun n => Mo_allNull_e0 n _ _ _ _) ?_
  unfold Mo_allNull_t0
  simp only [bnd]
  rw [ez_su _ _ _ _ (by decide) (by decide), ez_u17]
  have key := Ev.up (f := fun n i Z => Mo_allNull_f n 12 x1 (J i) (ez (su σ 16 0 x1) (Z, 0)) τ) (R := (0, ez (su σ 16 0 x1) (fun i => if i < 25 then 1 else q.1 i, 0), τ)) 25 (fun i Z => fu Z i 1) (fun _ _ => True) (fun _ _ _ _ => trivial) (fun i Z hi _ ee => by
    refine Ev.succ (fun n => Mo_allNull_e12 n _ _ _ _) ?_
    unfold Mo_allNull_t12
    have a2 : xin (J i) 25 = true := xin_J (by omega) (by omega)
    have b2 : Int32.toNatClampNeg (J i) = i := J_nat (by omega)
    have c1 : J i + 1 = J (i + 1) := J_add i 1
    simp only [J25, a2, b2, c1, if_true, bnd, ez_u15]
    exact Ev.neg (by rw [J_le (by omega) (by omega)]; omega) ee) 25 0 q.1 (by omega) trivial
  refine key ?_
  rw [it_fu0]
  refine Ev.succ (fun n => Mo_allNull_e12 n _ _ _ _) ?_
  unfold Mo_allNull_t12
  exact Ev.pos (by rw [J25, J_le (by omega) (by omega)]; omega) Ev.ret
/-- all times, as the reference lays them -/
def at1 (i j : Nat) : Int32 := if i = j ∨ i = 0 then 1 else 1000000
def atz (Z : Nat → Int32) : Nat → Int32 := it (fun i Z => it (fun j Z => fu Z (5 * i + j) (at1 i j)) 0 5 Z) 0 5 Z
theorem allTimes_q {x1 x2 x3 : Int32} : Ev (fun n => Mo_allTimes_f n 0 x1 x2 x3 (ez σ q) τ) (0, ez (su σ 16 0 x1) (atz q.1, 0), τ) := by
  refine Ev.succ (fun n => Mo_allTimes_e0 n _ _ _ _ _) ?_
  unfold Mo_allTimes_t0
  simp only [bnd]
  rw [ez_su _ _ _ _ (by decide) (by decide), ez_u17]
  refine Ev.up (f := fun n i Z => Mo_allTimes_f n 12 x1 (J i) 0 (ez (su σ 16 0 x1) (Z, 0)) τ) 5 (fun i Z => it (fun j Z => fu Z (5 * i + j) (at1 i j)) 0 5 Z) (fun _ _ => True) (fun _ _ _ _ => trivial) (fun i Z hi _ ee => ?_) 5 0 q.1 (by omega) trivial ?_
  · refine Ev.succ (fun n => Mo_allTimes_e12 n _ _ _ _ _) ?_
    unfold Mo_allTimes_t12
    refine Ev.neg (by rw [J5, J_le (by omega) (by omega)]; omega) ?_
    refine Ev.up (f := fun n j Z => Mo_allTimes_f n 19 x1 (J i) (J j) (ez (su σ 16 0 x1) (Z, 0)) τ) 5 (fun j Z => fu Z (5 * i + j) (at1 i j)) (fun _ _ => True) (fun _ _ _ _ => trivial) (fun j Z hj _ e2 => ?_) 5 0 Z (by omega) trivial ?_
    · refine Ev.succ (fun n => Mo_allTimes_e19 n _ _ _ _ _) ?_
      unfold Mo_allTimes_t19
      have a1 : xin (J (5 * i + j)) 25 = true := xin_J (by omega) (by omega)
      have b1 : Int32.toNatClampNeg (J (5 * i + j)) = 5 * i + j := J_nat (by omega)
      have c1 : J j + 1 = J (j + 1) := J_add j 1
      simp only [J5, J_mul, J_add, a1, b1, c1, if_true, bnd, ez_u15]
      refine Ev.neg (by rw [J_le (by omega) (by omega)]; omega) ?_
      unfold at1 at e2
      by_cases h : i = j
      · rw [if_pos (Or.inl h)] at e2
        exact Ev.pos (by rw [h]) e2
      · refine Ev.neg (by rw [J_eq (by omega) (by omega)]; exact h) ?_
        by_cases h0 : i = 0
        · rw [if_pos (Or.inr h0)] at e2
          exact Ev.pos (by rw [h0]; rfl) e2
        · rw [if_neg (by omega)] at e2
          exact Ev.neg (by rw [J0, J_eq (by omega) (by omega)]; exact h0) e2
    · refine Ev.succ (fun n => Mo_allTimes_e19 n _ _ _ _ _) ?_
      unfold Mo_allTimes_t19
      refine Ev.pos (by rw [J5, J_le (by omega) (by omega)]; omega) ?_
      rw [show J i + 1 = J (i + 1) from J_add i 1]
      exact ee
  · refine Ev.succ (fun n => Mo_allTimes_e12 n _ _ _ _ _) ?_
    unfold Mo_allTimes_t12
    exact Ev.pos (by rw [J5, J_le (by omega) (by omega)]; omega) Ev.ret
/-- keepExact -/
def kx (σ : mS) (Z : Nat → Int32) (k : Nat) : mS := su (st σ 26 (fun b => if 25 * k ≤ b ∧ b < 25 * k + 25 then Z (b - 25 * k) else σ 26 b)) 32 k (σ 39 0)
theorem keepExact_q {k : Nat} (hk : k < 200) {x2 : Int32} : Ev (fun n => Mo_keepExact_f n 0 (J k) x2 (ez σ q) τ) (0, ez (kx σ q.1 k) q, τ) := by
  refine Ev.succ (fun n => Mo_keepExact_e0 n _ _ _ _) ?_
  unfold Mo_keepExact_t0
  have key := Ev.up (f := fun n i E => Mo_keepExact_f n 2 (J k) (J i) (ez (st σ 26 E) q) τ) (R := (0, ez (kx σ q.1 k) q, τ)) 25 (fun i E => fu E (25 * k + i) (q.1 i)) (fun _ _ => True) (fun _ _ _ _ => trivial) (fun i E hi _ ee => by
    refine Ev.succ (fun n => Mo_keepExact_e2 n _ _ _ _) ?_
    unfold Mo_keepExact_t2
    have a1 : xin (J (25 * k + i)) 5000 = true := xin_J (by omega) (by omega)
    have a2 : xin (J i) 25 = true := xin_J (by omega) (by omega)
    have b1 : Int32.toNatClampNeg (J (25 * k + i)) = 25 * k + i := J_nat (by omega)
    have b2 : Int32.toNatClampNeg (J i) = i := J_nat (by omega)
    have c1 : J i + 1 = J (i + 1) := J_add i 1
    simp only [J25, J_mul, J_add, a1, a2, b1, b2, c1, if_true, bnd, ez_15]
    refine Ev.neg (by rw [J_le (by omega) (by omega)]; omega) ?_
    rw [ez_su _ _ _ _ (by decide) (by decide), su_st]
    exact ee) 25 0 (σ 26) (by omega) trivial
  rw [st_id] at key
  refine key ?_
  rw [it_fu]
  refine Ev.succ (fun n => Mo_keepExact_e2 n _ _ _ _) ?_
  unfold Mo_keepExact_t2
  have a1 : xin (J k) 200 = true := xin_J (by omega) (by omega)
  have b1 : Int32.toNatClampNeg (J k) = k := J_nat (by omega)
  simp only [a1, b1, if_true, bnd]
  refine Ev.pos (by rw [J25, J_le (by omega) (by omega)]; omega) ?_
  rw [ez_su _ _ _ _ (by decide) (by decide), ez_ne _ _ _ (by decide) (by decide), st_ne 0 (by decide)]
  exact Ev.ret
end TM
