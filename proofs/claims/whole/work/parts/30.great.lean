/-! THE REFERENCE: find, findGreatest -/
def mx (c g : Int32) : Int32 := if c ≤ g then g else c
def fd1 (σ : mS) (x l : Nat) (G : Nat → Int32) : Nat → Int32 := fu G (N (σ 5 (2 * x + l))) (mx (σ 6 (2 * x + l) >>> ((1 : Int32) &&& 31)) (G (N (σ 5 (2 * x + l)))))
def fd (σ : mS) (x : Nat) (G : Nat → Int32) : Nat → Int32 := it (fd1 σ x) 0 (N (σ 4 x)) G
def fab (c : Int32) : Int32 := if 0 ≤ c then c else -c
def fk (σ : mS) (x : Nat) : Nat := if σ 12 x = 0 then N (σ 13 x) else N (σ 12 x)
def ft (σ : mS) (x : Nat) (S : (Nat → Int32) × Int32) : (Nat → Int32) × Int32 := if x % 3 < N (σ 11 (x / 3)) then (fu S.1 (fk σ x) (mx (fab (σ 14 x >>> ((1 : Int32) &&& 31))) (S.1 (fk σ x))), if S.2 = 0 then 0 else if σ 12 x = 0 then 1 else if σ 13 x = 0 then 1 else 0) else S
def eg (σ : mS) (S : (Nat → Int32) × Int32) : mS := su (st σ 19 S.1) 20 0 S.2
theorem eg_19 (σ : mS) (S : (Nat → Int32) × Int32) (b : Nat) : eg σ S 19 b = S.1 b := by simp [eg, su, st]
theorem eg_20 (σ : mS) (S : (Nat → Int32) × Int32) : eg σ S 20 0 = S.2 := by simp [eg, su]
theorem eg_ne (σ : mS) (S : (Nat → Int32) × Int32) {a : Nat} (b : Nat) (h : a ≠ 19) (g : a ≠ 20) : eg σ S a b = σ a b := by simp [eg, su, st, h, g]
theorem eg_u20 (σ : mS) (S : (Nat → Int32) × Int32) (v : Int32) : su (eg σ S) 20 0 v = eg σ (S.1, v) := by
  unfold eg
  rw [su_17]
theorem eg_u19 (σ : mS) (S : (Nat → Int32) × Int32) (i : Nat) (v : Int32) : su (eg σ S) 19 i v = eg σ (fu S.1 i v, S.2) := by
  funext c b
  unfold eg su st fu
  by_cases h1 : c = 20 ∧ b = 0
  · simp [h1]
  · by_cases h2 : c = 19
    · by_cases h3 : b = i
      · simp [h2, h3]
      · simp [h2, h3]
    · simp [h1, h2]
theorem eg_id (σ : mS) : eg σ (σ 19, σ 20 0) = σ := by
  unfold eg
  rw [st_id, su_same]
theorem J_div3 {x : Nat} (h : x < 108) : J x / J 3 = J (x / 3) := by
  have e : ∀ k : Fin 108, J k.1 / J 3 = J (k.1 / 3) := by decide +kernel
  exact e ⟨x, h⟩
theorem J_mod3 {x : Nat} (h : x < 108) : J x - J (x / 3) * J 3 = J (x % 3) := by
  have e : ∀ k : Fin 108, J k.1 - J (k.1 / 3) * J 3 = J (k.1 % 3) := by decide +kernel
  exact e ⟨x, h⟩
section Great
variable {σ : mS} {τ : mL} {R : Int32 × mS × mL} {a p : Nat} {S : (Nat → Int32) × Int32}
theorem find_q (hW : WY σ) (ha : a < 3) (hp : p < 6) {x3 x4 x5 : Int32} : Ev (fun n => Mo_find_f n 0 (J a) (J p) x3 x4 x5 (eg σ S) τ) (0, eg σ (fd σ (6 * a + p) S.1, S.2), τ) := by
  obtain ⟨h1, h2, h3, h4, h5, h6⟩ := hW
  have hL := h3 (6 * a + p) (by omega)
  have hL2 : N (σ 4 (6 * a + p)) ≤ 2 := hL.2
  have a1 : xin (J (6 * a + p)) 18 = true := xin_J (by omega) (by omega)
  have b1 : Int32.toNatClampNeg (J (6 * a + p)) = 6 * a + p := J_nat (by omega)
  refine Ev.succ (fun n => Mo_find_e0 n _ _ _ _ _ _ _) ?_
  unfold Mo_find_t0
  refine Ev.up (f := fun n l G => Mo_find_f n 2 (J a) (J p) (J l) 0 0 (eg σ (G, S.2)) τ) (N (σ 4 (6 * a + p))) (fd1 σ (6 * a + p)) (fun _ _ => True) (fun _ _ _ _ => trivial) (fun l G hl _ ee => ?_) (N (σ 4 (6 * a + p))) 0 S.1 (by omega) trivial ?_
  · refine Ev.succ (fun n => Mo_find_e2 n _ _ _ _ _ _ _) ?_
    unfold Mo_find_t2
    have hy := h4 (2 * (6 * a + p) + l) (by omega)
    have hy2 : N (σ 5 (2 * (6 * a + p) + l)) ≤ 3 := hy.2
    have a2 : xin (J (2 * (6 * a + p) + l)) 36 = true := xin_J (by omega) (by omega)
    have b2 : Int32.toNatClampNeg (J (2 * (6 * a + p) + l)) = 2 * (6 * a + p) + l := J_nat (by omega)
    have c1 : J l + 1 = J (l + 1) := J_add l 1
    have a3 : xin (σ 5 (2 * (6 * a + p) + l)) 4 = true := by rw [hy.1]; exact xin_J (by omega) (by omega)
    have r4 : ∀ G b, eg σ (G, S.2) 4 b = σ 4 b := fun G b => eg_ne σ _ b (by decide) (by decide)
    have r5 : ∀ G b, eg σ (G, S.2) 5 b = σ 5 b := fun G b => eg_ne σ _ b (by decide) (by decide)
    have r6 : ∀ G b, eg σ (G, S.2) 6 b = σ 6 b := fun G b => eg_ne σ _ b (by decide) (by decide)
    simp only [J6, J2, J_mul, J_add, a1, b1, a2, b2, c1, r4, r5, r6, a3, if_true, bnd, eg_19, eg_u19]
    refine Ev.neg (sml_nle hL (by omega) hl) ?_
    unfold fd1 mx at ee
    by_cases hc : σ 6 (2 * (6 * a + p) + l) >>> ((1 : Int32) &&& 31) ≤ G (N (σ 5 (2 * (6 * a + p) + l)))
    · rw [if_pos hc] at ee
      exact Ev.pos hc ee
    · rw [if_neg hc] at ee
      exact Ev.neg hc ee
  · refine Ev.succ (fun n => Mo_find_e2 n _ _ _ _ _ _ _) ?_
    unfold Mo_find_t2
    simp only [J6, J_mul, J_add, a1, b1, if_true]
    refine Ev.pos (by rw [eg_ne σ _ _ (by decide) (by decide)]; exact sml_le hL) Ev.ret
theorem fg_64 (hW : WY σ) (ha : a < 3) {x : Nat} (hx1 : 36 * a ≤ x) (hx : x < 36 * a + 3 * N (σ 3 a)) (e : Ev (fun n => Mo_findGreatest_f n 64 (J a) (J (x + 1)) 0 0 (eg σ (ft σ x S)) τ) R) : Ev (fun n => Mo_findGreatest_f n 64 (J a) (J x) 0 0 (eg σ S) τ) R := by
  obtain ⟨h1, h2, h3, h4, h5, h6⟩ := hW
  have hw := (h2 a ha).2
  have hw2 : N (σ 3 a) ≤ 12 := hw.2
  have hx3 : x < 108 := by omega
  have ht := (h5 (x / 3) (by omega)).2.2
  have ht2 : N (σ 11 (x / 3)) ≤ 3 := ht.2
  have h12 := (h6 x hx3).1
  have h13 := (h6 x hx3).2
  have h122 : N (σ 12 x) ≤ 3 := h12.2
  have h132 : N (σ 13 x) ≤ 3 := h13.2
  have a1 : xin (J a) 3 = true := xin_J (by omega) (by omega)
  have b1 : Int32.toNatClampNeg (J a) = a := J_nat (by omega)
  have a2 : xin (J (x / 3)) 36 = true := xin_J (by omega) (by omega)
  have b2 : Int32.toNatClampNeg (J (x / 3)) = x / 3 := J_nat (by omega)
  have a3 : xin (J x) 108 = true := xin_J (by omega) (by omega)
  have b3 : Int32.toNatClampNeg (J x) = x := J_nat (by omega)
  have a4 : xin (σ 12 x) 4 = true := by rw [h12.1]; exact xin_J (by omega) (by omega)
  have a5 : xin (σ 13 x) 4 = true := by rw [h13.1]; exact xin_J (by omega) (by omega)
  have c1 : J x + 1 = J (x + 1) := J_add x 1
  have r3 : ∀ G b, eg σ G 3 b = σ 3 b := fun G b => eg_ne σ _ b (by decide) (by decide)
  have r11 : ∀ G b, eg σ G 11 b = σ 11 b := fun G b => eg_ne σ _ b (by decide) (by decide)
  have r12 : ∀ G b, eg σ G 12 b = σ 12 b := fun G b => eg_ne σ _ b (by decide) (by decide)
  have r13 : ∀ G b, eg σ G 13 b = σ 13 b := fun G b => eg_ne σ _ b (by decide) (by decide)
  have r14 : ∀ G b, eg σ G 14 b = σ 14 b := fun G b => eg_ne σ _ b (by decide) (by decide)
  have cle : ¬ (J 36 * J a + J 3 * σ 3 a ≤ J x) := by
    rw [hw.1, J_mul, J_mul, J_add, J_le (by omega) (by omega)]
    omega
  refine Ev.succ (fun n => Mo_findGreatest_e64 n _ _ _ _ _ _) ?_
  unfold Mo_findGreatest_t64
  simp only [J36, J3, J_div3 hx3, J_mod3 hx3, a1, b1, a2, b2, a3, b3, c1, r3, r11, r12, r13, r14, a4, a5, if_true, bnd, eg_19, eg_20, eg_u19, eg_u20]
  refine Ev.neg cle ?_
  unfold ft at e
  by_cases hm : x % 3 < N (σ 11 (x / 3))
  · rw [if_pos hm] at e
    refine Ev.pos (by rw [ht.1, J_lt (by omega) (by omega)]; exact hm) ?_
    unfold fk mx fab at e
    by_cases hc : 0 ≤ σ 14 x >>> ((1 : Int32) &&& 31)
    · by_cases hL : S.2 = 0
      · by_cases ho : σ 12 x = 0
        · simp only [hc, hL, ho, if_true] at e ⊢
          by_cases hg : σ 14 x >>> ((1 : Int32) &&& 31) ≤ S.1 (N (σ 13 x))
          · simp only [hg, if_true] at e ⊢
            exact e
          · simp only [hg, if_false] at e ⊢
            exact e
        · simp only [hc, hL, ho, if_true, if_false] at e ⊢
          by_cases hg : σ 14 x >>> ((1 : Int32) &&& 31) ≤ S.1 (N (σ 12 x))
          · simp only [hg, if_true] at e ⊢
            exact e
          · simp only [hg, if_false] at e ⊢
            exact e
      · by_cases ho : σ 12 x = 0
        · simp only [hc, hL, ho, if_true, if_false] at e ⊢
          by_cases hg : σ 14 x >>> ((1 : Int32) &&& 31) ≤ S.1 (N (σ 13 x))
          · simp only [hg, if_true] at e ⊢
            exact e
          · simp only [hg, if_false] at e ⊢
            exact e
        · by_cases ho3 : σ 13 x = 0
          · simp only [hc, hL, ho, ho3, if_true, if_false] at e ⊢
            by_cases hg : σ 14 x >>> ((1 : Int32) &&& 31) ≤ S.1 (N (σ 12 x))
            · simp only [hg, if_true] at e ⊢
              exact e
            · simp only [hg, if_false] at e ⊢
              exact e
          · simp only [hc, hL, ho, ho3, if_true, if_false] at e ⊢
            by_cases hg : σ 14 x >>> ((1 : Int32) &&& 31) ≤ S.1 (N (σ 12 x))
            · simp only [hg, if_true] at e ⊢
              exact e
            · simp only [hg, if_false] at e ⊢
              exact e
    · by_cases hL : S.2 = 0
      · by_cases ho : σ 12 x = 0
        · simp only [hc, hL, ho, if_true, if_false] at e ⊢
          by_cases hg : -(σ 14 x >>> ((1 : Int32) &&& 31)) ≤ S.1 (N (σ 13 x))
          · simp only [hg, if_true] at e ⊢
            exact e
          · simp only [hg, if_false] at e ⊢
            exact e
        · simp only [hc, hL, ho, if_true, if_false] at e ⊢
          by_cases hg : -(σ 14 x >>> ((1 : Int32) &&& 31)) ≤ S.1 (N (σ 12 x))
          · simp only [hg, if_true] at e ⊢
            exact e
          · simp only [hg, if_false] at e ⊢
            exact e
      · by_cases ho : σ 12 x = 0
        · simp only [hc, hL, ho, if_true, if_false] at e ⊢
          by_cases hg : -(σ 14 x >>> ((1 : Int32) &&& 31)) ≤ S.1 (N (σ 13 x))
          · simp only [hg, if_true] at e ⊢
            exact e
          · simp only [hg, if_false] at e ⊢
            exact e
        · by_cases ho3 : σ 13 x = 0
          · simp only [hc, hL, ho, ho3, if_true, if_false] at e ⊢
            by_cases hg : -(σ 14 x >>> ((1 : Int32) &&& 31)) ≤ S.1 (N (σ 12 x))
            · simp only [hg, if_true] at e ⊢
              exact e
            · simp only [hg, if_false] at e ⊢
              exact e
          · simp only [hc, hL, ho, ho3, if_true, if_false] at e ⊢
            by_cases hg : -(σ 14 x >>> ((1 : Int32) &&& 31)) ≤ S.1 (N (σ 12 x))
            · simp only [hg, if_true] at e ⊢
              exact e
            · simp only [hg, if_false] at e ⊢
              exact e
  · rw [if_neg hm] at e
    exact Ev.neg (by rw [ht.1, J_lt (by omega) (by omega)]; exact hm) e
/-- GREATEST and whether anything is LET GO: machine a's part -/
def fgP (σ : mS) (a : Nat) (S : (Nat → Int32) × Int32) : (Nat → Int32) × Int32 := it (fun p S => (fd σ (6 * a + p) S.1, S.2)) 0 (N (σ 2 a)) S
def fgT (σ : mS) (a : Nat) (S : (Nat → Int32) × Int32) : (Nat → Int32) × Int32 := it (ft σ) (36 * a) (3 * N (σ 3 a)) S
def fgA (σ : mS) : (Nat → Int32) × Int32 := it (fun a S => fgT σ a (fgP σ a S)) 0 (N (σ 1 0)) ((fun b => if b < 4 then 0 else σ 19 b), 1)
theorem fg_27 (hW : WY σ) : ∀ d a S, a + d = N (σ 1 0) → Ev (fun n => Mo_findGreatest_f n 27 (J a) 0 0 0 (eg σ S) τ) (0, eg σ (it (fun a S => fgT σ a (fgP σ a S)) a d S), τ) := by
  have hB : N (σ 1 0) ≤ 3 := hW.1.2
  intro d
  induction d with
  | zero =>
    intro a S ha
    refine Ev.succ (fun n => Mo_findGreatest_e27 n _ _ _ _ _ _) ?_
    unfold Mo_findGreatest_t27
    exact Ev.pos (by rw [eg_ne σ _ _ (by decide) (by decide), show a = N (σ 1 0) by omega]; exact sml_le hW.1) Ev.ret
  | succ d ih =>
    intro a S ha
    have hp := (hW.2.1 a (by omega)).1
    have hw := (hW.2.1 a (by omega)).2
    have hp2 : N (σ 2 a) ≤ 6 := hp.2
    have hw2 : N (σ 3 a) ≤ 12 := hw.2
    have a1 : xin (J a) 3 = true := xin_J (by omega) (by omega)
    have b1 : Int32.toNatClampNeg (J a) = a := J_nat (by omega)
    have r3 : ∀ G b, eg σ G 3 b = σ 3 b := fun G b => eg_ne σ _ b (by decide) (by decide)
    have r2 : ∀ G b, eg σ G 2 b = σ 2 b := fun G b => eg_ne σ _ b (by decide) (by decide)
    refine Ev.succ (fun n => Mo_findGreatest_e27 n _ _ _ _ _ _) ?_
    unfold Mo_findGreatest_t27
    refine Ev.neg (by rw [eg_ne σ _ _ (by decide) (by decide)]; exact sml_nle hW.1 (by omega) (by omega)) ?_
    refine Ev.up (f := fun n p S => Mo_findGreatest_f n 37 (J a) (J p) 0 0 (eg σ S) τ) (N (σ 2 a)) (fun p S => (fd σ (6 * a + p) S.1, S.2)) (fun _ _ => True) (fun _ _ _ _ => trivial) (fun p S hp _ ee => ?_) (N (σ 2 a)) 0 S (by omega) trivial ?_
    · refine Ev.succ (fun n => Mo_findGreatest_e37 n _ _ _ _ _ _) ?_
      unfold Mo_findGreatest_t37
      have c1 : J p + 1 = J (p + 1) := J_add p 1
      simp only [a1, b1, c1, r2, if_true]
      refine Ev.neg (sml_nle (hW.2.1 a (by omega)).1 (by omega) hp) ?_
      exact Ev.ob (find_q hW (by omega) (by omega)) ee
    · refine Ev.succ (fun n => Mo_findGreatest_e37 n _ _ _ _ _ _) ?_
      unfold Mo_findGreatest_t37
      simp only [a1, b1, r2, if_true]
      refine Ev.pos (sml_le hp) ?_
      rw [J36, J_mul]
      refine Ev.up (f := fun n x S => Mo_findGreatest_f n 64 (J a) (J x) 0 0 (eg σ S) τ) (36 * a + 3 * N (σ 3 a)) (ft σ) (fun x _ => 36 * a ≤ x) (fun x _ _ _ => by omega) (fun x S hx hx1 ee => fg_64 hW (by omega) hx1 hx ee) (3 * N (σ 3 a)) (36 * a) _ (by omega) (Nat.le_refl _) ?_
      refine Ev.succ (fun n => Mo_findGreatest_e64 n _ _ _ _ _ _) ?_
      unfold Mo_findGreatest_t64
      have c1 : J a + 1 = J (a + 1) := J_add a 1
      have cle : (36 : Int32) * J a + (3 : Int32) * σ 3 a ≤ J (36 * a + 3 * N (σ 3 a)) := by
        have e : (36 : Int32) * J a + (3 : Int32) * J (N (σ 3 a)) = J (36 * a + 3 * N (σ 3 a)) := by rw [J36, J3, J_mul, J_mul, J_add]
        rw [← hw.1] at e
        rw [e]
        exact Int32.le_refl _
      simp only [a1, b1, c1, r3, if_true]
      refine Ev.pos cle ?_
      exact ih (a + 1) _ (by omega)
theorem findGreatest_q (hW : WY σ) {x1 x2 x3 x4 : Int32} : Ev (fun n => Mo_findGreatest_f n 0 x1 x2 x3 x4 σ τ) (0, eg σ (fgA σ), τ) := by
  refine Ev.succ (fun n => Mo_findGreatest_e0 n _ _ _ _ _ _) ?_
  unfold Mo_findGreatest_t0
  simp only [bnd]
  have e0 : su σ 20 0 1 = eg σ (σ 19, 1) := by unfold eg; rw [st_id]
  rw [e0]
  have key := Ev.up (f := fun n i G => Mo_findGreatest_f n 7 (J i) 0 0 0 (eg σ (G, 1)) τ) (R := (0, eg σ (fgA σ), τ)) 4 (fun i G => fu G i 0) (fun _ _ => True) (fun _ _ _ _ => trivial) (fun i G hi _ ee => by
    refine Ev.succ (fun n => Mo_findGreatest_e7 n _ _ _ _ _ _) ?_
    unfold Mo_findGreatest_t7
    have a1 : xin (J i) 4 = true := xin_J (by omega) (by omega)
    have b1 : Int32.toNatClampNeg (J i) = i := J_nat (by omega)
    have c1 : J i + 1 = J (i + 1) := J_add i 1
    refine Ev.neg (by rw [J4, J_le (by omega) (by omega)]; omega) ?_
    simp only [a1, b1, c1, if_true, bnd, eg_u19]
    exact ee) 4 0 (σ 19) (by omega) trivial
  refine key ?_
  rw [it_fu0 (fun _ => 0)]
  refine Ev.succ (fun n => Mo_findGreatest_e7 n _ _ _ _ _ _) ?_
  unfold Mo_findGreatest_t7
  refine Ev.pos (by decide) ?_
  exact fg_27 hW (N (σ 1 0)) 0 _ (by omega)
end Great
