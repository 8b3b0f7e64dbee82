/-! zone and emptiness as one pair: q = (z, isEmpty) -/
abbrev zQ : Type := (Nat → Int32) × Int32
def ez (σ : mS) (q : zQ) : mS := su (st σ 15 q.1) 17 0 q.2
theorem ez_15 (σ : mS) (q : zQ) (b : Nat) : ez σ q 15 b = q.1 b := by simp [ez, su, st]
theorem ez_15' (σ : mS) (q : zQ) : ez σ q 15 = q.1 := by funext b; exact ez_15 σ q b
theorem ez_17 (σ : mS) (q : zQ) : ez σ q 17 0 = q.2 := by simp [ez, su]
theorem ez_ne (σ : mS) (q : zQ) {a : Nat} (b : Nat) (h : a ≠ 15) (g : a ≠ 17) : ez σ q a b = σ a b := by simp [ez, su, st, h, g]
theorem ez_id (σ : mS) : ez σ (σ 15, σ 17 0) = σ := by
  unfold ez
  rw [st_id, su_same]
theorem ez_ez (σ : mS) (q r : zQ) : ez (ez σ q) r = ez σ r := by
  funext a b
  unfold ez su st
  by_cases h : a = 17 ∧ b = 0
  · simp [h]
  · by_cases g : a = 15
    · simp [g]
    · simp [h, g]
theorem ez_su (σ : mS) (q : zQ) {a : Nat} (i : Nat) (v : Int32) (h : a ≠ 15) (g : a ≠ 17) : su (ez σ q) a i v = ez (su σ a i v) q := by
  funext c b
  unfold ez su st
  by_cases h1 : c = 17 ∧ b = 0
  · simp [h1, Ne.symm g]
  · by_cases h2 : c = 15
    · simp [h2, Ne.symm h]
    · simp [h1, h2]
theorem ez_st (σ : mS) (q : zQ) {a : Nat} (Z : Nat → Int32) (h : a ≠ 15) (g : a ≠ 17) : st (ez σ q) a Z = ez (st σ a Z) q := by
  funext c b
  unfold ez su st
  by_cases h1 : c = 17 ∧ b = 0
  · simp [h1, Ne.symm g]
  · by_cases h2 : c = 15
    · simp [h2, Ne.symm h]
    · simp [h1, h2]
theorem ez_s15 (σ : mS) (q : zQ) (Z : Nat → Int32) : st (ez σ q) 15 Z = ez σ (Z, q.2) := by
  funext c b
  unfold ez su st
  by_cases h1 : c = 17 ∧ b = 0
  · simp [h1]
  · by_cases h2 : c = 15
    · simp [h2]
    · simp [h1, h2]
theorem ez_u15 (σ : mS) (q : zQ) (i : Nat) (v : Int32) : su (ez σ q) 15 i v = ez σ (fu q.1 i v, q.2) := by
  funext c b
  unfold ez su st fu
  by_cases h1 : c = 17 ∧ b = 0
  · simp [h1]
  · by_cases h2 : c = 15
    · by_cases h3 : b = i
      · simp [h2, h3]
      · simp [h2, h3]
    · simp [h1, h2]
theorem ez_u17 (σ : mS) (q : zQ) (v : Int32) : su (ez σ q) 17 0 v = ez σ (q.1, v) := by
  unfold ez
  rw [su_17]
def qcl (m : Nat) (q : zQ) : zQ := (cl m q.1, em m (cl m q.1) q.2)
def qtg (m i j : Nat) (b : Int32) (q : zQ) : zQ := if q.2 = 0 then (if q.1 (5 * i + j) ≤ b then q else qcl m (fu q.1 (5 * i + j) b, q.2)) else q
def qps (m : Nat) (q : zQ) : zQ := if q.2 = 0 then (pz m q.1, q.2) else q
def qsn (m : Nat) (c : Int32) (q : zQ) : zQ := if q.2 = 0 then (sn q.1 m c q.1, q.2) else q
theorem zcl_q (σ : mS) (m : Nat) (q : zQ) : zcl (ez σ q) m = ez σ (qcl m q) := by
  unfold zcl qcl
  rw [ez_15', ez_17, ez_s15, ez_u17]
theorem ztg_q (σ : mS) (m i j : Nat) (b : Int32) (q : zQ) : ztg (ez σ q) m i j b = ez σ (qtg m i j b q) := by
  unfold ztg qtg
  rw [ez_17, ez_15, ez_u15]
  by_cases h : q.2 = 0
  · rw [if_pos h, if_pos h]
    by_cases g : q.1 (5 * i + j) ≤ b
    · rw [if_pos g, if_pos g]
    · rw [if_neg g, if_neg g, zcl_q]
  · rw [if_neg h, if_neg h]
theorem zps_q (σ : mS) (m : Nat) (q : zQ) : zps (ez σ q) m = ez σ (qps m q) := by
  unfold zps qps
  rw [ez_17, ez_15', ez_s15]
  by_cases h : q.2 = 0
  · rw [if_pos h, if_pos h]
  · rw [if_neg h, if_neg h]
theorem sn_cg {W V : Nat → Int32} (h : ∀ a, a < 25 → W a = V a) {m : Nat} (hm : m ≤ 5) (c : Int32) (Z : Nat → Int32) : sn W m c Z = sn V m c Z := by
  unfold sn
  refine it_cg (hi := 4) (fun i Z _ => ?_) 3 1 Z (by omega)
  unfold sn2
  by_cases hb : bt c i
  · rw [if_pos hb, if_pos hb]
    refine it_cg (hi := m) (fun j Z hj => ?_) m 0 Z (by omega)
    unfold sn1
    rw [h j (by omega), h (5 * j) (by omega)]
  · rw [if_neg hb, if_neg hb]
def ws (σ : mS) (q : zQ) : mS := st σ 18 (fun a => if a < 25 then q.1 a else σ 18 a)
theorem zsn_q (σ : mS) {m : Nat} (hm : m ≤ 5) (c : Int32) (q : zQ) : zsn (ez σ q) m c = ez (ws σ q) (qsn m c q) := by
  have hw : was (ez σ q) = fun a => if a < 25 then q.1 a else σ 18 a := by
    funext a
    unfold was
    rw [ez_15, ez_ne σ q a (by decide) (by decide)]
  unfold zsn qsn ws
  rw [ez_17, ez_15', ez_st σ q _ (by decide) (by decide), ez_s15, hw]
  by_cases h : q.2 = 0
  · rw [if_pos h, if_pos h, sn_cg (V := q.1) (fun a ha => if_pos ha) hm]
  · rw [if_neg h, if_neg h]
section ZQ
variable {σ : mS} {τ : mL} {m : Nat} {R : Int32 × mS × mL} {q : zQ}
theorem close_q (hm : m ≤ 5) (h16 : σ 16 0 = J m) {x1 x2 x3 x4 : Int32} : Ev (fun n => Mo_close_f n 0 x1 x2 x3 x4 (ez σ q) τ) (0, ez σ (qcl m q), τ) := by
  have k := close_ev (σ := ez σ q) (τ := τ) (x1 := x1) (x2 := x2) (x3 := x3) (x4 := x4) hm (by rw [ez_ne σ q 0 (by decide) (by decide)]; exact h16)
  rw [zcl_q] at k
  exact k
theorem tightenBy_q (hm : m ≤ 5) (h16 : σ 16 0 = J m) {i j : Nat} (hi : i < 5) (hj : j < 5) {b : Int32} : Ev (fun n => Mo_tightenBy_f n (J i) (J j) b (ez σ q) τ) (0, ez σ (qtg m i j b q), τ) := by
  have k := tightenBy_ev (σ := ez σ q) (τ := τ) (b := b) hm (by rw [ez_ne σ q 0 (by decide) (by decide)]; exact h16) hi hj
  rw [ztg_q] at k
  exact k
theorem passOn_q (hm : m ≤ 5) (hm1 : 1 ≤ m) (h16 : σ 16 0 = J m) {x1 : Int32} : Ev (fun n => Mo_passOn_f n 0 x1 (ez σ q) τ) (0, ez σ (qps m q), τ) := by
  have k := passOn_ev (σ := ez σ q) (τ := τ) (x1 := x1) hm hm1 (by rw [ez_ne σ q 0 (by decide) (by decide)]; exact h16)
  rw [zps_q] at k
  exact k
theorem setNull_q (hm : m ≤ 5) (h16 : σ 16 0 = J m) {c x2 x3 x4 : Int32} : Ev (fun n => Mo_setNull_f n 0 c x2 x3 x4 (ez σ q) τ) (0, ez (ws σ q) (qsn m c q), τ) := by
  have k := setNull_ev (σ := ez σ q) (τ := τ) (c := c) (x2 := x2) (x3 := x3) (x4 := x4) hm (by rw [ez_ne σ q 0 (by decide) (by decide)]; exact h16)
  rw [zsn_q σ hm] at k
  exact k
/-! numbers that are small -/
abbrev N (x : Int32) : Nat := Int32.toNatClampNeg x
def sml (x : Int32) (B : Nat) : Prop := x = J (N x) ∧ N x ≤ B
theorem sml_J {k B : Nat} (h : k ≤ B) (hB : B < 2147483648) : sml (J k) B := by
  have e : N (J k) = k := J_nat (by omega)
  unfold sml
  rw [e]
  exact ⟨rfl, h⟩
theorem sml_le {x : Int32} {B : Nat} (h : sml x B) : x ≤ J (N x) := by
  have e := h.1
  have r : x ≤ x := Int32.le_refl x
  calc x ≤ x := r
    _ = J (N x) := e
theorem sml_nle {x : Int32} {B k : Nat} (h : sml x B) (hB : B < 2147483648) (hk : k < N x) : ¬ (x ≤ J k) := by
  intro g
  have e := h.1
  have h2 := h.2
  have r : J (N x) ≤ J k := by
    calc J (N x) = x := e.symm
      _ ≤ J k := g
  rw [J_le (by omega) (by omega)] at r
  omega
/-- the yard (slots 1 to 14) is well made -/
def WY (σ : mS) : Prop := sml (σ 1 0) 3 ∧ (∀ m, m < 3 → sml (σ 2 m) 6 ∧ sml (σ 3 m) 12) ∧ (∀ x, x < 18 → sml (σ 4 x) 2) ∧ (∀ y, y < 36 → sml (σ 5 y) 3) ∧ (∀ x, x < 36 → sml (σ 7 x) 5 ∧ sml (σ 8 x) 5 ∧ sml (σ 11 x) 3) ∧ ∀ y, y < 108 → sml (σ 12 y) 3 ∧ sml (σ 13 y) 3
/-- same yard -/
def yq (σ ρ : mS) : Prop := ∀ a b, 1 ≤ a → a ≤ 14 → σ a b = ρ a b
theorem WY.eq {σ ρ : mS} (h : WY ρ) (e : yq σ ρ) : WY σ := by
  obtain ⟨h1, h2, h3, h4, h5, h6⟩ := h
  refine ⟨?_, fun m hm => ?_, fun x hx => ?_, fun x hx => ?_, fun x hx => ?_, fun x hx => ?_⟩
  · rw [e 1 0 (by decide) (by decide)]; exact h1
  · rw [e 2 m (by decide) (by decide), e 3 m (by decide) (by decide)]; exact h2 m hm
  · rw [e 4 x (by decide) (by decide)]; exact h3 x hx
  · rw [e 5 x (by decide) (by decide)]; exact h4 x hx
  · rw [e 7 x (by decide) (by decide), e 8 x (by decide) (by decide), e 11 x (by decide) (by decide)]; exact h5 x hx
  · rw [e 12 x (by decide) (by decide), e 13 x (by decide) (by decide)]; exact h6 x hx
/-- LIMITS of the places p m of all machines -/
def ql2 (σ : mS) (m x l : Nat) (q : zQ) : zQ := qtg m (N (σ 5 (2 * x + l))) 0 (σ 6 (2 * x + l)) q
def ql1 (σ : mS) (m : Nat) (p : Nat → Nat) (a : Nat) (q : zQ) : zQ := it (ql2 σ m (6 * a + p a)) 0 (N (σ 4 (6 * a + p a))) q
def ql (σ : mS) (m : Nat) (p : Nat → Nat) (q : zQ) : zQ := it (ql1 σ m p) 0 (N (σ 1 0)) q
theorem limitAll_q (hm : m ≤ 5) (h16 : σ 16 0 = J m) (hW : WY σ) {p : Nat → Nat} (hp : ∀ a, a < N (σ 1 0) → σ 38 a = J (p a) ∧ p a < 6) {x1 x2 x3 : Int32} : Ev (fun n => Mo_limitAll_f n 0 x1 x2 x3 (ez σ q) τ) (0, ez σ (ql σ m p q), τ) := by
  obtain ⟨h1, h2, h3, h4, h5, h6⟩ := hW
  have hB : N (σ 1 0) ≤ 3 := h1.2
  refine Ev.succ (fun n => Mo_limitAll_e0 n _ _ _ _ _) ?_
  unfold Mo_limitAll_t0
  refine Ev.up (f := fun n a q => Mo_limitAll_f n 2 (J a) 0 0 (ez σ q) τ) (N (σ 1 0)) (ql1 σ m p) (fun _ _ => True) (fun _ _ _ _ => trivial) (fun a q ha _ ee => ?_) (N (σ 1 0)) 0 q (by omega) trivial ?_
  · obtain ⟨hp1, hp2⟩ := hp a ha
    refine Ev.succ (fun n => Mo_limitAll_e2 n _ _ _ _ _) ?_
    unfold Mo_limitAll_t2
    have a1 : xin (J a) 3 = true := xin_J (by omega) (by omega)
    have b1 : Int32.toNatClampNeg (J a) = a := J_nat (by omega)
    simp only [a1, b1, if_true]
    refine Ev.neg (by rw [ez_ne σ q 0 (by decide) (by decide)]; exact sml_nle h1 (by omega) ha) ?_
    rw [ez_ne σ q a (by decide) (by decide), hp1, J6, J_mul, J_add]
    have hx : 6 * a + p a < 18 := by omega
    have hL := h3 (6 * a + p a) hx
    refine Ev.up (f := fun n l q => Mo_limitAll_f n 24 (J a) (J (6 * a + p a)) (J l) (ez σ q) τ) (N (σ 4 (6 * a + p a))) (ql2 σ m (6 * a + p a)) (fun _ _ => True) (fun _ _ _ _ => trivial) (fun l q hl _ e2 => ?_) (N (σ 4 (6 * a + p a))) 0 q (by omega) trivial ?_
    · refine Ev.succ (fun n => Mo_limitAll_e24 n _ _ _ _ _) ?_
      unfold Mo_limitAll_t24
      have hl2 : N (σ 4 (6 * a + p a)) ≤ 2 := hL.2
      have a2 : xin (J (6 * a + p a)) 18 = true := xin_J (by omega) (by omega)
      have a3 : xin (J (2 * (6 * a + p a) + l)) 36 = true := xin_J (by omega) (by omega)
      have b2 : Int32.toNatClampNeg (J (6 * a + p a)) = 6 * a + p a := J_nat (by omega)
      have b3 : Int32.toNatClampNeg (J (2 * (6 * a + p a) + l)) = 2 * (6 * a + p a) + l := J_nat (by omega)
      have c1 : J l + 1 = J (l + 1) := J_add l 1
      simp only [J2, J_mul, J_add, a2, a3, b2, b3, c1, if_true]
      refine Ev.neg (by rw [ez_ne σ q _ (by decide) (by decide), hL.1, J_le (by omega) (by omega)]; omega) ?_
      rw [ez_ne σ q _ (by decide) (by decide), ez_ne σ q _ (by decide) (by decide)]
      have hc := h4 (2 * (6 * a + p a) + l) (by omega)
      have hc2 : N (σ 5 (2 * (6 * a + p a) + l)) ≤ 3 := hc.2
      have k := tightenBy_q (σ := σ) (τ := τ) (q := q) (b := σ 6 (2 * (6 * a + p a) + l)) hm h16 (i := N (σ 5 (2 * (6 * a + p a) + l))) (j := 0) (by omega) (by omega)
      rw [← hc.1] at k
      exact Ev.ob k e2
    · refine Ev.succ (fun n => Mo_limitAll_e24 n _ _ _ _ _) ?_
      unfold Mo_limitAll_t24
      have hl2 : N (σ 4 (6 * a + p a)) ≤ 2 := hL.2
      have a2 : xin (J (6 * a + p a)) 18 = true := xin_J (by omega) (by omega)
      have b2 : Int32.toNatClampNeg (J (6 * a + p a)) = 6 * a + p a := J_nat (by omega)
      have c1 : J a + 1 = J (a + 1) := J_add a 1
      simp only [a2, b2, c1, if_true]
      refine Ev.pos (by rw [ez_ne σ _ _ (by decide) (by decide)]; exact sml_le hL) ?_
      exact ee
  · refine Ev.succ (fun n => Mo_limitAll_e2 n _ _ _ _ _) ?_
    unfold Mo_limitAll_t2
    exact Ev.pos (by rw [ez_ne σ _ 0 (by decide) (by decide)]; exact sml_le h1) Ev.ret
/-- TESTS of way w of machine a -/
def qt1 (σ : mS) (m x t : Nat) (q : zQ) : zQ := qtg m (N (σ 12 (3 * x + t))) (N (σ 13 (3 * x + t))) (σ 14 (3 * x + t)) q
def qt (σ : mS) (m x : Nat) (q : zQ) : zQ := it (qt1 σ m x) 0 (N (σ 11 x)) q
theorem testAll_q (hm : m ≤ 5) (h16 : σ 16 0 = J m) (hW : WY σ) {a w : Nat} (ha : a < 3) (hw : w < 12) {x3 x4 : Int32} : Ev (fun n => Mo_testAll_f n 0 (J a) (J w) x3 x4 (ez σ q) τ) (0, ez σ (qt σ m (12 * a + w) q), τ) := by
  obtain ⟨h1, h2, h3, h4, h5, h6⟩ := hW
  have hx : 12 * a + w < 36 := by omega
  have hL := (h5 (12 * a + w) hx).2.2
  have hl2 : N (σ 11 (12 * a + w)) ≤ 3 := hL.2
  refine Ev.succ (fun n => Mo_testAll_e0 n _ _ _ _ _ _) ?_
  unfold Mo_testAll_t0
  rw [J12, J_mul, J_add]
  have a2 : xin (J (12 * a + w)) 36 = true := xin_J (by omega) (by omega)
  have b2 : Int32.toNatClampNeg (J (12 * a + w)) = 12 * a + w := J_nat (by omega)
  refine Ev.up (f := fun n t q => Mo_testAll_f n 10 (J a) (J w) (J (12 * a + w)) (J t) (ez σ q) τ) (N (σ 11 (12 * a + w))) (qt1 σ m (12 * a + w)) (fun _ _ => True) (fun _ _ _ _ => trivial) (fun t q ht _ e2 => ?_) (N (σ 11 (12 * a + w))) 0 q (by omega) trivial ?_
  · refine Ev.succ (fun n => Mo_testAll_e10 n _ _ _ _ _ _) ?_
    unfold Mo_testAll_t10
    have a3 : xin (J (3 * (12 * a + w) + t)) 108 = true := xin_J (by omega) (by omega)
    have b3 : Int32.toNatClampNeg (J (3 * (12 * a + w) + t)) = 3 * (12 * a + w) + t := J_nat (by omega)
    have c1 : J t + 1 = J (t + 1) := J_add t 1
    simp only [J3, J_mul, J_add, a2, a3, b2, b3, c1, if_true]
    refine Ev.neg (by rw [ez_ne σ q _ (by decide) (by decide), hL.1, J_le (by omega) (by omega)]; omega) ?_
    rw [ez_ne σ q _ (by decide) (by decide), ez_ne σ q _ (by decide) (by decide), ez_ne σ q _ (by decide) (by decide)]
    have hc := (h6 (3 * (12 * a + w) + t) (by omega)).1
    have hd := (h6 (3 * (12 * a + w) + t) (by omega)).2
    have hc2 : N (σ 12 (3 * (12 * a + w) + t)) ≤ 3 := hc.2
    have hd2 : N (σ 13 (3 * (12 * a + w) + t)) ≤ 3 := hd.2
    have k := tightenBy_q (σ := σ) (τ := τ) (q := q) (b := σ 14 (3 * (12 * a + w) + t)) hm h16 (i := N (σ 12 (3 * (12 * a + w) + t))) (j := N (σ 13 (3 * (12 * a + w) + t))) (by omega) (by omega)
    rw [← hc.1, ← hd.1] at k
    exact Ev.ob k e2
  · refine Ev.succ (fun n => Mo_testAll_e10 n _ _ _ _ _ _) ?_
    unfold Mo_testAll_t10
    simp only [a2, b2, if_true]
    exact Ev.pos (by rw [ez_ne σ _ _ (by decide) (by decide)]; exact sml_le hL) Ev.ret
end ZQ
