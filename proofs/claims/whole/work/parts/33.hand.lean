/-! THE REFERENCE: THE HAND -/
theorem isIn_is (x : Int32) (a b : Int64) : Mo_isIn_f (Int32.toInt64 x) a b = if a.toInt ≤ x.toInt ∧ x.toInt ≤ b.toInt then 1 else 0 := by
  have ex : (Int32.toInt64 x).toInt = x.toInt := Int32.toInt_toInt64 x
  unfold Mo_isIn_f lg_cmp
  by_cases h1 : x.toInt < a.toInt
  · have e1 : ¬ (Int32.toInt64 x > a) := by
      intro t
      have := Int64.lt_iff_toInt_lt.mp t
      rw [ex] at this
      omega
    have e2 : ¬ (Int32.toInt64 x = a) := by
      intro t
      rw [← t, ex] at h1
      omega
    rw [if_neg e1, if_neg e2, if_pos (by decide), if_neg (by omega)]
  · have e1 : ¬ ((if Int32.toInt64 x > a then (1 : Int32) else if Int32.toInt64 x = a then 0 else -1) < 0) := by
      by_cases g : Int32.toInt64 x > a
      · rw [if_pos g]; decide
      · rw [if_neg g]
        have g2 : Int32.toInt64 x = a := by
          have t : ¬ (a.toInt < (Int32.toInt64 x).toInt) := fun t => g (Int64.lt_iff_toInt_lt.mpr t)
          rw [ex] at t
          apply Int64.toInt.inj
          rw [ex]
          omega
        rw [if_pos g2]; decide
    rw [if_neg e1]
    by_cases h2 : b.toInt < x.toInt
    · have g : Int32.toInt64 x > b := Int64.lt_iff_toInt_lt.mpr (by rw [ex]; exact h2)
      rw [if_pos g, if_pos (by decide), if_neg (by omega)]
    · have g : ¬ (Int32.toInt64 x > b) := fun t => by
        have := Int64.lt_iff_toInt_lt.mp t
        rw [ex] at this
        omega
      rw [if_neg g, if_neg (by split <;> decide), if_pos (by omega)]
theorem em1_zb (Z : Nat → Int32) (i : Nat) (e : Int32) : em1 Z i e = 0 ∨ em1 Z i e = 1 := by
  unfold em1
  split
  · split
    · exact Or.inl rfl
    · exact Or.inr rfl
  · exact Or.inr rfl
theorem em_zb (m : Nat) (Z : Nat → Int32) {e : Int32} (h : e = 0 ∨ e = 1) : em m Z e = 0 ∨ em m Z e = 1 := by
  unfold em
  exact it_inv (em1 Z) (fun _ e => e = 0 ∨ e = 1) m (fun k s _ _ => em1_zb Z k s) m 0 e (by omega) h
def qz (q : zQ) : Prop := q.2 = 0 ∨ q.2 = 1
theorem qcl_z {m : Nat} {q : zQ} (h : qz q) : qz (qcl m q) := em_zb m _ h
theorem qtg_z {m i j : Nat} {b : Int32} {q : zQ} (h : qz q) : qz (qtg m i j b q) := by
  unfold qtg
  split
  · split
    · exact h
    · exact qcl_z h
  · exact h
theorem qps_z {m : Nat} {q : zQ} (h : qz q) : qz (qps m q) := by
  unfold qps
  split
  · exact h
  · exact h
theorem qsn_z {m : Nat} {c : Int32} {q : zQ} (h : qz q) : qz (qsn m c q) := by
  unfold qsn
  split
  · exact h
  · exact h
theorem qlt_z {g : Nat → Int32} {q : zQ} (h : qz q) : qz (qlt g q) := by
  unfold qlt
  split
  · exact qcl_z h
  · exact h
theorem zb_of {x : Int32} (h : x = 0 ∨ x = 1) : zb x = true := by
  unfold zb
  rcases h with h | h <;> rw [h] <;> decide
/-- THE HAND's zone, as it is taken -/
def hq (σ : mS) : zQ := (fun i => if i < 25 then σ 43 i else σ 15 i, σ 44 0)
/-- the state after an operation on THE HAND that made q of it -/
def hO (σ : mS) (q : zQ) (σ' : mS) : Prop := sx [0, 15, 16, 17, 18, 19, 43, 44] σ' σ ∧ σ' 44 0 = q.2 ∧ ∀ i, i < 25 → σ' 43 i = q.1 i
def hA (q : zQ) : Int32 := if q.2 = 0 then 0 else 1
section Hand
variable {σ : mS} {τ : mL} {R : Int32 × mS × mL} {q : zQ}
theorem take_q (hz : σ 44 0 = 0 ∨ σ 44 0 = 1) {x1 : Int32} : Ev (fun n => Mo_take_f n 0 x1 σ τ) (0, ez (su σ 16 0 4) (hq σ), τ) := by
  refine Ev.succ (fun n => Mo_take_e0 n _ _ _) ?_
  unfold Mo_take_t0
  have e44 : su σ 16 0 4 44 0 = σ 44 0 := su_n (by decide)
  simp only [bnd, e44, zb_of hz, if_true]
  have e17 : su (su σ 16 0 4) 17 0 (σ 44 0) = ez (su σ 16 0 4) (σ 15, σ 44 0) := by
    unfold ez
    rw [show st (su σ 16 0 4) 15 (σ 15, σ 44 0).1 = su σ 16 0 4 from st_id (su σ 16 0 4) 15]
  rw [e17]
  have key := Ev.up (f := fun n i Z => Mo_take_f n 15 (J i) (ez (su σ 16 0 4) (Z, σ 44 0)) τ) (R := (0, ez (su σ 16 0 4) (hq σ), τ)) 25 (fun i Z => fu Z i (σ 43 i)) (fun _ _ => True) (fun _ _ _ _ => trivial) (fun i Z hi _ ee => by
    refine Ev.succ (fun n => Mo_take_e15 n _ _ _) ?_
    unfold Mo_take_t15
    have a2 : xin (J i) 25 = true := xin_J (by omega) (by omega)
    have b2 : Int32.toNatClampNeg (J i) = i := J_nat (by omega)
    have c1 : J i + 1 = J (i + 1) := J_add i 1
    simp only [J25, a2, b2, c1, if_true, bnd, ez_u15]
    refine Ev.neg (by rw [J_le (by omega) (by omega)]; omega) ?_
    rw [ez_ne _ _ _ (by decide) (by decide), su_n (by decide)]
    exact ee) 25 0 (σ 15) (by omega) trivial
  refine key ?_
  rw [it_fu0]
  refine Ev.succ (fun n => Mo_take_e15 n _ _ _) ?_
  unfold Mo_take_t15
  exact Ev.pos (by rw [J25, J_le (by omega) (by omega)]; omega) Ev.ret
def hL (σ : mS) (q : zQ) : mS := st (su σ 44 0 q.2) 43 (fun i => if i < 25 then q.1 i else σ 43 i)
theorem lay_q (hz : qz q) {x1 : Int32} : Ev (fun n => Mo_lay_f n 0 x1 (ez σ q) τ) (hA q, ez (hL σ q) q, τ) := by
  refine Ev.succ (fun n => Mo_lay_e0 n _ _ _) ?_
  unfold Mo_lay_t0
  simp only [bnd, ez_17, zb_of hz, if_true]
  rw [ez_su _ _ _ _ (by decide) (by decide)]
  have key := Ev.up (f := fun n i T => Mo_lay_f n 10 (J i) (ez (st (su σ 44 0 q.2) 43 T) q) τ) (R := (hA q, ez (hL σ q) q, τ)) 25 (fun i T => fu T i (q.1 i)) (fun _ _ => True) (fun _ _ _ _ => trivial) (fun i T hi _ ee => by
    refine Ev.succ (fun n => Mo_lay_e10 n _ _ _) ?_
    unfold Mo_lay_t10
    have a2 : xin (J i) 25 = true := xin_J (by omega) (by omega)
    have b2 : Int32.toNatClampNeg (J i) = i := J_nat (by omega)
    have c1 : J i + 1 = J (i + 1) := J_add i 1
    refine Ev.neg (by rw [J25, J_le (by omega) (by omega)]; omega) ?_
    simp only [a2, b2, c1, if_true, bnd, ez_15]
    rw [ez_su _ _ _ _ (by decide) (by decide), su_st]
    exact ee) 25 0 (σ 43) (by omega) trivial
  have e43 : st (su σ 44 0 q.2) 43 (σ 43) = su σ 44 0 q.2 := st_id (su σ 44 0 q.2) 43
  rw [e43] at key
  refine key ?_
  rw [it_fu0]
  refine Ev.succ (fun n => Mo_lay_e10 n _ _ _) ?_
  unfold Mo_lay_t10
  refine Ev.pos (by rw [J25, J_le (by omega) (by omega)]; omega) ?_
  rw [ez_17]
  by_cases h : q.2 = 0
  · have e : hA q = 0 := by unfold hA; rw [if_pos h]
    rw [e]
    exact Ev.pos h Ev.ret
  · have e : hA q = 1 := by unfold hA; rw [if_neg h]
    rw [e]
    exact Ev.neg h Ev.ret
theorem hO_of {ρ : mS} (s : sx [0, 16, 18, 19] ρ σ) : hO σ q (ez (hL ρ q) q) := by
  refine ⟨fun a b h => ?_, ?_, fun i hi => ?_⟩
  · have h15 : a ≠ 15 := fun e => h (by rw [e]; decide)
    have h17 : a ≠ 17 := fun e => h (by rw [e]; decide)
    have h43 : a ≠ 43 := fun e => h (by rw [e]; decide)
    have h44 : a ≠ 44 := fun e => h (by rw [e]; decide)
    rw [ez_ne _ _ _ h15 h17]
    unfold hL
    rw [st_ne _ h43, su_n h44]
    refine s a b (fun t => h ?_)
    simp at t ⊢
    omega
  · rw [ez_ne _ _ _ (by decide) (by decide)]
    unfold hL
    rw [st_ne _ (by decide), su_e]
  · rw [ez_ne _ _ _ (by decide) (by decide)]
    unfold hL
    rw [st_eq]
    exact if_pos hi
theorem hq_su (i : Nat) (v : Int32) {k : Nat} (h1 : k ≠ 15) (h2 : k ≠ 43) (h3 : k ≠ 44) : hq (su σ k i v) = hq σ := by
  unfold hq
  rw [su_n (Ne.symm h3)]
  congr 1
  funext j
  rw [su_n (Ne.symm h2), su_n (Ne.symm h1)]
theorem tighten_q (hz : σ 44 0 = 0 ∨ σ 44 0 = 1) {i j : Nat} (hi : i < 4) (hj : j < 4) (hij : i ≠ j) {c : Int32} (hc : -400 ≤ c.toInt ∧ c.toInt ≤ 400) {x : Int32} : ∃ σ', Ev (fun n => Mo_tighten_f n (J i) (J j) c x σ τ) (hA (qtg 4 i j (Mo_boundOf_f c x) (hq σ)), σ', τ) ∧ hO σ (qtg 4 i j (Mo_boundOf_f c x) (hq σ)) σ' := by
  refine ⟨_, ?_, hO_of (ρ := su (su σ 0 0 0) 16 0 4) ((sx.su _ _ _ (by decide)).trans (sx.su _ _ _ (by decide)))⟩
  unfold Mo_tighten_f
  simp only [bnd]
  rw [isIn_is, isIn_is, isIn_is, J_int (by omega), J_int (by omega)]
  refine Ev.neg (by rw [if_pos (by simp; omega)]; decide) ?_
  refine Ev.neg (by rw [if_pos (by simp; omega)]; decide) ?_
  refine Ev.neg (by rw [J_eq (by omega) (by omega)]; exact hij) ?_
  refine Ev.neg (by rw [if_pos (by simpa using hc)]; decide) ?_
  refine Ev.ob (take_q (σ := su σ 0 0 0) hz) ?_
  dsimp only
  rw [hq_su 0 0 (by decide) (by decide) (by decide)]
  refine Ev.ob (tightenBy_q (m := 4) (by omega) (su_e _ _ _ _) (by omega) (by omega)) ?_
  exact Ev.ob (lay_q (qtg_z (show qz (hq σ) from hz))) Ev.ret
theorem pass_q (hz : σ 44 0 = 0 ∨ σ 44 0 = 1) : ∃ σ', Ev (fun n => Mo_pass_f n σ τ) (hA (qps 4 (hq σ)), σ', τ) ∧ hO σ (qps 4 (hq σ)) σ' := by
  refine ⟨_, ?_, hO_of (ρ := su (su σ 0 0 0) 16 0 4) ((sx.su _ _ _ (by decide)).trans (sx.su _ _ _ (by decide)))⟩
  unfold Mo_pass_f
  simp only [bnd]
  refine Ev.ob (take_q (σ := su σ 0 0 0) hz) ?_
  dsimp only
  rw [hq_su 0 0 (by decide) (by decide) (by decide)]
  refine Ev.ob (passOn_q (m := 4) (by omega) (by omega) (su_e _ _ _ _)) ?_
  exact Ev.ob (lay_q (qps_z (show qz (hq σ) from hz))) Ev.ret
theorem set_q (hz : σ 44 0 = 0 ∨ σ 44 0 = 1) {c : Int32} (hc : 0 ≤ c.toInt ∧ c.toInt ≤ 7) : ∃ σ', Ev (fun n => Mo_set_f n c σ τ) (hA (qsn 4 c (hq σ)), σ', τ) ∧ hO σ (qsn 4 c (hq σ)) σ' := by
  refine ⟨_, ?_, hO_of (ρ := ws (su (su σ 0 0 0) 16 0 4) (hq σ)) ((sx.st _ _ (by decide)).trans ((sx.su _ _ _ (by decide)).trans (sx.su _ _ _ (by decide))))⟩
  unfold Mo_set_f
  simp only [bnd]
  rw [isIn_is]
  refine Ev.neg (by rw [if_pos (by simpa using hc)]; decide) ?_
  refine Ev.ob (take_q (σ := su σ 0 0 0) hz) ?_
  dsimp only
  rw [hq_su 0 0 (by decide) (by decide) (by decide)]
  refine Ev.ob (setNull_q (m := 4) (by omega) (su_e _ _ _ _)) ?_
  exact Ev.ob (lay_q (qsn_z (show qz (hq σ) from hz))) Ev.ret
def g3 (x y z : Int32) : Nat → Int32 := fun b => if b = 0 then 0 else if b = 1 then x else if b = 2 then y else z
theorem qlt_cg {g f : Nat → Int32} (h : ∀ b, b < 4 → g b = f b) (q : zQ) : qlt g q = qlt f q := by
  have e : ∀ Z, lt g Z = lt f Z := by
    intro Z
    unfold lt
    refine it_cg (hi := 4) (fun i Z hi => ?_) 4 0 Z (by omega)
    refine it_cg (hi := 4) (fun j Z hj => ?_) 4 0 Z (by omega)
    unfold lt1 lv lb1
    rw [h i hi, h j hj]
  unfold qlt
  rw [e]
theorem letGo_q (hz : σ 44 0 = 0 ∨ σ 44 0 = 1) {x y z : Int32} (hx : 0 ≤ x.toInt ∧ x.toInt ≤ 200) (hy : 0 ≤ y.toInt ∧ y.toInt ≤ 200) (hw : 0 ≤ z.toInt ∧ z.toInt ≤ 200) : ∃ σ', Ev (fun n => Mo_letGo_f n x y z σ τ) (hA (qlt (g3 x y z) (hq σ)), σ', τ) ∧ hO σ (qlt (g3 x y z) (hq σ)) σ' := by
  let ρ : mS := su (su (su (su (su σ 0 0 0) 19 0 0) 19 1 x) 19 2 y) 19 3 z
  have eh : hq ρ = hq σ := by
    show hq (su (su (su (su (su σ 0 0 0) 19 0 0) 19 1 x) 19 2 y) 19 3 z) = hq σ
    rw [hq_su _ _ (by decide) (by decide) (by decide), hq_su _ _ (by decide) (by decide) (by decide), hq_su _ _ (by decide) (by decide) (by decide), hq_su _ _ (by decide) (by decide) (by decide), hq_su _ _ (by decide) (by decide) (by decide)]
  have eg19 : ∀ b, b < 4 → su ρ 16 0 4 19 b = g3 x y z b := by
    intro b hb
    rw [su_n (by decide)]
    show su (su (su (su (su σ 0 0 0) 19 0 0) 19 1 x) 19 2 y) 19 3 z 19 b = g3 x y z b
    have : b = 0 ∨ b = 1 ∨ b = 2 ∨ b = 3 := by omega
    rcases this with h | h | h | h <;> subst h <;> rfl
  refine ⟨_, ?_, hO_of (ρ := su ρ 16 0 4) ((sx.su _ _ _ (by decide)).trans ((sx.su _ _ _ (by decide)).trans ((sx.su _ _ _ (by decide)).trans ((sx.su _ _ _ (by decide)).trans ((sx.su _ _ _ (by decide)).trans (sx.su _ _ _ (by decide))))))) ⟩
  unfold Mo_letGo_f
  simp only [bnd]
  rw [isIn_is, isIn_is, isIn_is]
  refine Ev.neg (by rw [if_pos (by simpa using hx)]; decide) ?_
  refine Ev.neg (by rw [if_pos (by simpa using hy)]; decide) ?_
  refine Ev.neg (by rw [if_pos (by simpa using hw)]; decide) ?_
  refine Ev.pos (by decide) (Ev.pos (by decide) (Ev.pos (by decide) (Ev.pos (by decide) ?_)))
  refine Ev.ob (take_q (σ := ρ) hz) ?_
  dsimp only
  rw [eh]
  refine Ev.ob (let_q (σ := su ρ 16 0 4) (su_e _ _ _ _)) ?_
  dsimp only
  rw [qlt_cg eg19]
  exact Ev.ob (lay_q (qlt_z (show qz (hq σ) from hz))) Ev.ret
/-- meeting STATE k's zone, bound by bound -/
def qm1 (S : Nat → Int32) (k i : Nat) (q : zQ) : zQ := if i % 5 < 4 then qtg 4 (i / 5) (i % 5) (S (25 * k + i)) q else q
def qm (S : Nat → Int32) (k : Nat) (q : zQ) : zQ := it (qm1 S k) 0 20 q
theorem qm_z {S : Nat → Int32} {k : Nat} (h : qz q) : qz (qm S k q) := by
  unfold qm
  exact it_inv (qm1 S k) (fun _ q => qz q) 20 (fun i q _ h => by unfold qm1; split; exact qtg_z h; exact h) 20 0 q (by omega) h
theorem J_div5 {i : Nat} (h : i < 25) : J i / J 5 = J (i / 5) := by
  have e : ∀ k : Fin 25, J k.1 / J 5 = J (k.1 / 5) := by decide +kernel
  exact e ⟨i, h⟩
theorem J_rem5 {i : Nat} (h : i < 25) : J i - J (i / 5 * 5) = J (i % 5) := by
  have e : ∀ k : Fin 25, J k.1 - J (k.1 / 5 * 5) = J (k.1 % 5) := by decide +kernel
  exact e ⟨i, h⟩
theorem meet_q (hz : σ 44 0 = 0 ∨ σ 44 0 = 1) (hs : sml (σ 22 0) 200) {k : Nat} (hk : k < N (σ 22 0)) {x2 : Int32} : ∃ σ', Ev (fun n => Mo_meet_f n 0 (J k) x2 σ τ) (hA (qm (σ 25) k (hq σ)), σ', τ) ∧ hO σ (qm (σ 25) k (hq σ)) σ' := by
  have hB := hs.2
  refine ⟨_, ?_, hO_of (ρ := su (su σ 0 0 0) 16 0 4) ((sx.su _ _ _ (by decide)).trans (sx.su _ _ _ (by decide)))⟩
  refine Ev.succ (fun n => Mo_meet_e0 n _ _ _ _) ?_
  unfold Mo_meet_t0 Mo_isState_f
  simp only [bnd]
  refine Ev.ob (a := ((1 : Int32), su σ 0 0 0, τ)) (Ev.neg (J_nneg (by omega)) (Ev.neg (by rw [su_n (by decide)]; exact sml_nle hs (by omega) hk) Ev.ret)) ?_
  dsimp only
  refine Ev.neg (by decide) ?_
  refine Ev.ob (take_q (σ := su σ 0 0 0) hz) ?_
  dsimp only
  rw [hq_su 0 0 (by decide) (by decide) (by decide)]
  refine Ev.up (f := fun n i q => Mo_meet_f n 21 (J k) (J i) (ez (su (su σ 0 0 0) 16 0 4) q) τ) 20 (qm1 (σ 25) k) (fun _ _ => True) (fun _ _ _ _ => trivial) (fun i q hi _ ee => ?_) 20 0 (hq σ) (by omega) trivial ?_
  · refine Ev.succ (fun n => Mo_meet_e21 n _ _ _ _) ?_
    unfold Mo_meet_t21
    have a1 : xin (J (25 * k + i)) 5000 = true := xin_J (by omega) (by omega)
    have b1 : Int32.toNatClampNeg (J (25 * k + i)) = 25 * k + i := J_nat (by omega)
    have c1 : J i + 1 = J (i + 1) := J_add i 1
    simp only [J25, J5, J_mul, J_add, J_div5 (show i < 25 by omega), J_rem5 (show i < 25 by omega), a1, b1, c1, if_true]
    refine Ev.neg (by rw [J20, J_le (by omega) (by omega)]; omega) ?_
    unfold qm1 at ee
    by_cases h4 : i % 5 < 4
    · rw [if_pos h4] at ee
      refine Ev.neg (by rw [J4, J_le (by omega) (by omega)]; omega) ?_
      have e25 : ez (su (su σ 0 0 0) 16 0 4) q 25 (25 * k + i) = σ 25 (25 * k + i) := by
        rw [ez_ne _ _ _ (by decide) (by decide), su_n (by decide), su_n (by decide)]
      rw [e25]
      exact Ev.ob (tightenBy_q (m := 4) (by omega) (su_e _ _ _ _) (by omega) (by omega)) ee
    · rw [if_neg h4] at ee
      exact Ev.pos (by rw [J4, J_le (by omega) (by omega)]; omega) ee
  · refine Ev.succ (fun n => Mo_meet_e21 n _ _ _ _) ?_
    unfold Mo_meet_t21
    refine Ev.pos (by decide) ?_
    rw [show it (qm1 (σ 25) k) 0 20 (hq σ) = qm (σ 25) k (hq σ) from rfl]
    have hzq : qz (qm (σ 25) k (hq σ)) := qm_z (show qz (hq σ) from hz)
    refine Ev.ob (lay_q hzq) ?_
    dsimp only
    generalize qm (σ 25) k (hq σ) = Q
    exact Ev.ret
end Hand
