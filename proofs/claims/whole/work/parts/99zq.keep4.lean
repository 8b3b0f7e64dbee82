/-! keep: the reference -/
section KP4
variable {D : kD} {κ : kS} {σ : mS} {τ : mL} {z : Nat}
theorem keep_208z {s : mS} {d : Nat} (hd : d < 8) (e : s 47 d = 0) {w x3 x4 x6 : Int32} : Ev (fun n => Mo_keep_f n 208 (J d) w x3 x4 0 x6 s τ) (0, s, τ) := by
  refine Ev.succ (fun n => Mo_keep_e208 n _ _ _ _ _ _ _ _) ?_
  unfold Mo_keep_t208
  rw [show Int32.toNatClampNeg (J d) = d from J_nat (by omega), e]
  exact Ev.pos (xin_J hd (by decide)) (Ev.pos (by decide) Ev.ret)
theorem keep_208p {s : mS} {d k : Nat} (hd : d < 8) (hk : k ≤ 60) (e : s 47 d = J k) {x3 x4 : Int32} : Ev (fun n => Mo_keep_f n 208 (J d) 3 x3 x4 (J 0) 0 s τ) (0, s, it (rwT d (fun i => Int32.toInt64 (s 24 (3 * i)))) 0 k τ) := by
  have nd : Int32.toNatClampNeg (J d) = d := J_nat (by omega)
  refine Ev.up (f := fun n i T => Mo_keep_f n 208 (J d) 3 x3 x4 (J i) 0 s T) k (rwT d (fun i => Int32.toInt64 (s 24 (3 * i)))) (fun _ _ => True) (fun _ _ _ _ => trivial) (fun i T hi _ ee => ?_) k 0 τ (by omega) trivial ?_
  · refine Ev.succ (fun n => Mo_keep_e208 n _ _ _ _ _ _ _ _) ?_
    unfold Mo_keep_t208
    have ix : (60 : Int32) * J d + J i = J (60 * d + i) := by rw [show (60 : Int32) = J 60 from rfl, J_mul, J_add]
    have i3 : (3 : Int32) * J i = J (3 * i) := by rw [show (3 : Int32) = J 3 from rfl, J_mul]
    rw [ix, i3, nd, e, show Int32.toNatClampNeg (J (60 * d + i)) = 60 * d + i from J_nat (by omega), show Int32.toNatClampNeg (J (3 * i)) = 3 * i from J_nat (by omega), show J i + 1 = J (i + 1) from J_add i 1]
    exact Ev.pos (xin_J hd (by decide)) (Ev.neg (by rw [J_le (by omega) (by omega)]; omega) (Ev.pos rfl (Ev.pos (xin_J (by omega) (by decide)) (Ev.pos (xin_J (by omega) (by decide)) (Ev.bn ee)))))
  · refine Ev.succ (fun n => Mo_keep_e208 n _ _ _ _ _ _ _ _) ?_
    unfold Mo_keep_t208
    rw [nd, e]
    exact Ev.pos (xin_J hd (by decide)) (Ev.pos (by rw [J_le (by omega) (by omega)]; omega) Ev.ret)
theorem keep_208b {s : mS} {d j : Nat} (hd : d < 8) (hj : j < 200) (e : s 47 d = J 16) {x3 : Int32} : Ev (fun n => Mo_keep_f n 208 (J d) 4 x3 (J j) (J 0) 0 s τ) (0, s, it (rwT d (fun i => Int32.toInt64 (s 25 (25 * j + 5 * (i / 4) + i % 4)))) 0 16 τ) := by
  have nd : Int32.toNatClampNeg (J d) = d := J_nat (by omega)
  refine Ev.up (f := fun n i T => Mo_keep_f n 208 (J d) 4 x3 (J j) (J i) 0 s T) 16 (rwT d (fun i => Int32.toInt64 (s 25 (25 * j + 5 * (i / 4) + i % 4)))) (fun _ _ => True) (fun _ _ _ _ => trivial) (fun i T hi _ ee => ?_) 16 0 τ (by omega) trivial ?_
  · refine Ev.succ (fun n => Mo_keep_e208 n _ _ _ _ _ _ _ _) ?_
    unfold Mo_keep_t208
    have ix : (60 : Int32) * J d + J i = J (60 * d + i) := by rw [show (60 : Int32) = J 60 from rfl, J_mul, J_add]
    have dd := d16 i hi
    have i3 : (25 : Int32) * J j + 5 * (J i / 4) + (J i - J i / 4 * 4) = J (25 * j + 5 * (i / 4) + i % 4) := by
      rw [dd.2, dd.1, show (25 : Int32) = J 25 from rfl, show (5 : Int32) = J 5 from rfl, J_mul, J_mul, J_add, J_add]
    rw [ix, i3, nd, e, show Int32.toNatClampNeg (J (60 * d + i)) = 60 * d + i from J_nat (by omega), show Int32.toNatClampNeg (J (25 * j + 5 * (i / 4) + i % 4)) = 25 * j + 5 * (i / 4) + i % 4 from J_nat (by omega), show J i + 1 = J (i + 1) from J_add i 1]
    exact Ev.pos (xin_J hd (by decide)) (Ev.neg (by rw [J_le (by omega) (by omega)]; omega) (Ev.neg (by decide) (Ev.pos (xin_J (by omega) (by decide)) (Ev.pos (xin_J (by omega) (by decide)) (Ev.bn ee)))))
  · refine Ev.succ (fun n => Mo_keep_e208 n _ _ _ _ _ _ _ _) ?_
    unfold Mo_keep_t208
    rw [nd, e]
    exact Ev.pos (xin_J hd (by decide)) (Ev.pos (by rw [J_le (by omega) (by omega)]; omega) Ev.ret)
theorem moSh1 {d : Nat} (hd : d < 8) : ¬ (Mo_isShelf_f (J d) = 0) := by
  rw [moSh, if_pos (by rw [J_int (by omega)]; omega)]
  decide
theorem keepR0 {d : Nat} (hd : d < 8) {x3 x4 : Int32} : Ev (fun n => Mo_keep_f n 0 (J d) 0 x3 x4 0 0 σ τ) (0, su (su (su σ 0 0 0) 46 d 0) 47 d 0, τ) := by
  have nd : Int32.toNatClampNeg (J d) = d := J_nat (by omega)
  have xd : xin (J d) 8 = true := xin_J hd (by decide)
  have c1 : ¬ ((3 : Int32) ≤ 0) := by decide
  have c2 : ¬ ((0 : Int32) = 1) := by decide
  have c3 : ¬ ((0 : Int32) = 2) := by decide
  refine Ev.succ (fun n => Mo_keep_e0 n _ _ _ _ _ _ _ _) ?_
  unfold Mo_keep_t0
  simp only [bnd, nd, xd, if_true, c1, c2, c3, if_false, moSh1 hd]
  refine Ev.ob (a := ((1 : Int32), su σ 0 0 0, τ)) ⟨0, fun n _ => ?_⟩ (Ev.neg i10 (keep_208z hd (su_e _ _ _ _)))
  unfold Mo_canKeep_f
  exact if_pos rfl
theorem keepRn {d : Nat} (hd : d < 8) {w x3 x4 : Int32} (ck : ∀ n, Mo_canKeep_f n w x3 x4 (su σ 0 0 0) τ = some (0, su σ 0 0 0, τ)) : Ev (fun n => Mo_keep_f n 0 (J d) w x3 x4 0 0 σ τ) (-1, su σ 0 0 0, τ) := by
  refine Ev.succ (fun n => Mo_keep_e0 n _ _ _ _ _ _ _ _) ?_
  unfold Mo_keep_t0
  exact Ev.bn (Ev.neg (moSh1 hd) (Ev.ob ⟨0, fun n _ => ck n⟩ (Ev.pos rfl Ev.ret)))
/-- the word of a kept way, its weight -/
def wWt (w t : Int32) : Int32 := if w = 0 then 10 + t else if w ≤ 0 then 2 * ((10 + t) + 100) else (10 + t) + 100
def wWd (w : Int32) : Int32 := if 0 ≤ w then w else -w
theorem keepR1 (hW : WY σ) {d m w : Nat} (hd : d < 8) (hm : m < N (σ 1 0)) (hw : w < N (σ 3 m)) : Ev (fun n => Mo_keep_f n 0 (J d) 1 (J m) (J w) 0 0 σ τ) (0, su (su (su (su (su σ 0 0 0) 46 d 1) 47 d 0) 48 d (wWt (σ 9 (12 * m + w)) (σ 11 (12 * m + w)))) 49 d (wWd (σ 9 (12 * m + w))), τ) := by
  have nd : Int32.toNatClampNeg (J d) = d := J_nat (by omega)
  have xd : xin (J d) 8 = true := xin_J hd (by decide)
  have hm3 : m < 3 := by have := hW.1.2; omega
  have hw12 : w < 12 := by have := (hW.2.1 m hm3).2.2; omega
  have ix : (12 : Int32) * J m + J w = J (12 * m + w) := by rw [show (12 : Int32) = J 12 from rfl, J_mul, J_add]
  have nx : Int32.toNatClampNeg (J (12 * m + w)) = 12 * m + w := J_nat (by omega)
  have xx : xin (J (12 * m + w)) 36 = true := xin_J (by omega) (by decide)
  have c1 : ¬ ((3 : Int32) ≤ 1) := by decide
  have z0 : (0 : Int32).toInt = 0 := by decide
  have ck : ∀ n, Mo_canKeep_f n 1 (J m) (J w) (su σ 0 0 0) τ = some (1, su σ 0 0 0, τ) := fun n => by
    unfold Mo_canKeep_f
    rw [if_neg (by decide), if_pos rfl, isWay_in (hW.eq (yq_0 σ)) (by rw [su_n (by decide)]; exact hm) (by rw [su_n (by decide)]; exact hw)]
    rfl
  have s9 : ∀ (a : Int32), su (su (su σ 0 0 0) 46 d a) 47 d 0 9 (12 * m + w) = σ 9 (12 * m + w) := fun a => by rw [su_n (by decide), su_n (by decide), su_n (by decide)]
  have s9' : ∀ (a v : Int32), su (su (su (su σ 0 0 0) 46 d a) 47 d 0) 48 d v 9 (12 * m + w) = σ 9 (12 * m + w) := fun a v => by rw [su_n (by decide), s9]
  have s11 : ∀ (a : Int32), su (su (su σ 0 0 0) 46 d a) 47 d 0 11 (12 * m + w) = σ 11 (12 * m + w) := fun a => by rw [su_n (by decide), su_n (by decide), su_n (by decide)]
  refine Ev.succ (fun n => Mo_keep_e0 n _ _ _ _ _ _ _ _) ?_
  unfold Mo_keep_t0
  simp only [bnd, nd, xd, if_true, c1, if_false, moSh1 hd, ix, nx, xx]
  refine Ev.ob ⟨0, fun n _ => ck n⟩ (Ev.neg i10 ?_)
  simp only [s9, s9', s11]
  have e47 : ∀ (s : mS) (v u : Int32), su (su (su s 47 d 0) 48 d v) 49 d u 47 d = 0 := fun s v u => by rw [su_n (by decide), su_n (by decide), su_e]
  unfold wWt wWd
  by_cases g : σ 9 (12 * m + w) = 0
  · have g2 : (0 : Int32) ≤ σ 9 (12 * m + w) := by rw [g]; decide
    simp only [if_pos g, if_pos g2]
    rw [show (10 : Int32) + σ 11 (12 * m + w) + 0 = 10 + σ 11 (12 * m + w) from Int32.add_zero _]
    exact keep_208z hd (e47 _ _ _)
  · by_cases g2 : 0 ≤ σ 9 (12 * m + w)
    · have g3 : ¬ (σ 9 (12 * m + w) ≤ 0) := by
        intro t
        apply g
        rw [i32_le] at g2 t
        exact i32_eq.mpr (by omega)
      simp only [if_neg g, if_pos g2, if_neg g3]
      exact keep_208z hd (e47 _ _ _)
    · have g3 : σ 9 (12 * m + w) ≤ 0 := by
        rw [i32_le] at g2 ⊢
        omega
      simp only [if_neg g, if_neg g2, if_pos g3]
      exact keep_208z hd (e47 _ _ _)
theorem keepR2 (hW : WY σ) {d m p : Nat} (hd : d < 8) (hm : m < N (σ 1 0)) (hp : p < N (σ 2 m)) : Ev (fun n => Mo_keep_f n 0 (J d) 2 (J m) (J p) 0 0 σ τ) (0, su (su (su (su σ 0 0 0) 46 d 2) 47 d 0) 48 d (3 + σ 4 (6 * m + p)), τ) := by
  have nd : Int32.toNatClampNeg (J d) = d := J_nat (by omega)
  have xd : xin (J d) 8 = true := xin_J hd (by decide)
  have hm3 : m < 3 := by have := hW.1.2; omega
  have hp6 : p < 6 := by have := (hW.2.1 m hm3).1.2; omega
  have ix : (6 : Int32) * J m + J p = J (6 * m + p) := by rw [show (6 : Int32) = J 6 from rfl, J_mul, J_add]
  have nx : Int32.toNatClampNeg (J (6 * m + p)) = 6 * m + p := J_nat (by omega)
  have xx : xin (J (6 * m + p)) 18 = true := xin_J (by omega) (by decide)
  have c1 : ¬ ((3 : Int32) ≤ 2) := by decide
  have c2 : ¬ ((2 : Int32) = 1) := by decide
  have ck : ∀ n, Mo_canKeep_f n 2 (J m) (J p) (su σ 0 0 0) τ = some (1, su σ 0 0 0, τ) := fun n => by
    unfold Mo_canKeep_f
    rw [if_neg (by decide), if_neg (by decide), if_pos rfl, isPlace_in (hW.eq (yq_0 σ)) (by rw [su_n (by decide)]; exact hm) (by rw [su_n (by decide)]; exact hp)]
    rfl
  have s4 : ∀ (a : Int32), su (su (su σ 0 0 0) 46 d a) 47 d 0 4 (6 * m + p) = σ 4 (6 * m + p) := fun a => by rw [su_n (by decide), su_n (by decide), su_n (by decide)]
  refine Ev.succ (fun n => Mo_keep_e0 n _ _ _ _ _ _ _ _) ?_
  unfold Mo_keep_t0
  simp only [bnd, nd, xd, if_true, c1, c2, if_false, moSh1 hd, ix, nx, xx]
  refine Ev.ob ⟨0, fun n _ => ck n⟩ (Ev.neg i10 ?_)
  simp only [s4]
  exact keep_208z hd (by rw [su_n (by decide), su_e])
theorem keepR3 {d k : Nat} (hd : d < 8) (s2 : sml (σ 22 0) 200) (hk : k = min 60 (N (σ 22 0))) (hw : σ 21 0 = 1) {x3 x4 : Int32} : Ev (fun n => Mo_keep_f n 0 (J d) 3 x3 x4 0 0 σ τ) (0, su (su (su σ 0 0 0) 46 d 3) 47 d (J k), it (rwT d (fun i => Int32.toInt64 (σ 24 (3 * i)))) 0 k τ) := by
  have nd : Int32.toNatClampNeg (J d) = d := J_nat (by omega)
  have xd : xin (J d) 8 = true := xin_J hd (by decide)
  have c0 : (3 : Int32) ≤ 3 := by decide
  have c1 : ¬ ((3 : Int32) = 4) := by decide
  have c2 : ¬ ((3 : Int32) = 1) := by decide
  have c3 : ¬ ((3 : Int32) = 2) := by decide
  have ck : ∀ n, Mo_canKeep_f n 3 x3 x4 (su σ 0 0 0) τ = some (1, su σ 0 0 0, τ) := fun n => by
    unfold Mo_canKeep_f
    rw [if_neg (by decide), if_neg (by decide), if_neg (by decide), if_pos rfl, su_n (by decide), hw]
    rfl
  have s22 : ∀ (a : Int32), su (su σ 0 0 0) 46 d a 22 0 = J (N (σ 22 0)) := fun a => by rw [su_n (by decide), su_n (by decide)]; exact s2.1
  have fin : ∀ (R : Int32), R = J k → Ev (fun n => Mo_keep_f n 208 (J d) 3 x3 x4 0 0 (su (su (su σ 0 0 0) 46 d 3) 47 d R) τ) (0, su (su (su σ 0 0 0) 46 d 3) 47 d (J k), it (rwT d (fun i => Int32.toInt64 (σ 24 (3 * i)))) 0 k τ) := fun R e => by
    subst e
    have r := keep_208p (τ := τ) (s := su (su (su σ 0 0 0) 46 d 3) 47 d (J k)) hd (by omega) (su_e _ _ _ _) (x3 := x3) (x4 := x4)
    have e24 : (fun i => Int32.toInt64 (su (su (su σ 0 0 0) 46 d 3) 47 d (J k) 24 (3 * i))) = fun i => Int32.toInt64 (σ 24 (3 * i)) := by
      funext i
      rw [su_n (by decide), su_n (by decide), su_n (by decide)]
    rw [e24] at r
    exact r
  refine Ev.succ (fun n => Mo_keep_e0 n _ _ _ _ _ _ _ _) ?_
  unfold Mo_keep_t0
  simp only [bnd, nd, xd, if_true, c0, c1, c2, c3, if_false, moSh1 hd]
  refine Ev.ob ⟨0, fun n _ => ck n⟩ (Ev.neg i10 ?_)
  simp only [s22]
  have l60 : ((60 : Int32) ≤ J (N (σ 22 0))) ↔ 60 ≤ N (σ 22 0) := by rw [show (60 : Int32) = J 60 from rfl, J_le (by omega) (by have := s2.2; omega)]
  by_cases g : 60 ≤ N (σ 22 0)
  · exact Ev.pos (l60.mpr g) (fin _ (by rw [hk, show (60 : Int32) = J 60 from rfl]; congr 1; omega))
  · exact Ev.neg (fun t => g (l60.mp t)) (fin _ (by rw [hk]; congr 1; omega))
theorem keepR4 {d j : Nat} (hd : d < 8) (s2 : sml (σ 22 0) 200) (hj : j < N (σ 22 0)) {x3 : Int32} : Ev (fun n => Mo_keep_f n 0 (J d) 4 x3 (J j) 0 0 σ τ) (0, su (su (su σ 0 0 0) 46 d 4) 47 d (J 16), it (rwT d (fun i => Int32.toInt64 (σ 25 (25 * j + 5 * (i / 4) + i % 4)))) 0 16 τ) := by
  have nd : Int32.toNatClampNeg (J d) = d := J_nat (by omega)
  have xd : xin (J d) 8 = true := xin_J hd (by decide)
  have c0 : (3 : Int32) ≤ 4 := by decide
  have c2 : ¬ ((4 : Int32) = 1) := by decide
  have c3 : ¬ ((4 : Int32) = 2) := by decide
  have ck : ∀ n, Mo_canKeep_f n 4 x3 (J j) (su σ 0 0 0) τ = some (1, su σ 0 0 0, τ) := fun n => by
    unfold Mo_canKeep_f
    rw [if_neg (by decide), if_neg (by decide), if_neg (by decide), if_neg (by decide), if_pos rfl, isState_in (by rw [su_n (by decide)]; exact s2) (by rw [su_n (by decide)]; exact hj)]
    rfl
  refine Ev.succ (fun n => Mo_keep_e0 n _ _ _ _ _ _ _ _) ?_
  unfold Mo_keep_t0
  simp only [bnd, nd, xd, if_true, c0, c2, c3, if_false, moSh1 hd]
  refine Ev.ob ⟨0, fun n _ => ck n⟩ (Ev.neg i10 ?_)
  have r := keep_208b (τ := τ) (s := su (su (su σ 0 0 0) 46 d 4) 47 d (J 16)) hd (by have := s2.2; omega) (su_e _ _ _ _) (x3 := x3) (j := j)
  have e24 : (fun i => Int32.toInt64 (su (su (su σ 0 0 0) 46 d 4) 47 d (J 16) 25 (25 * j + 5 * (i / 4) + i % 4))) = fun i => Int32.toInt64 (σ 25 (25 * j + 5 * (i / 4) + i % 4)) := by
    funext i
    rw [su_n (by decide), su_n (by decide), su_n (by decide)]
  rw [e24] at r
  exact r
end KP4
