/-! THE REFERENCE: a move -/
/-- slots outside L are the same -/
def sx (L : List Nat) (σ ρ : mS) : Prop := ∀ a b, a ∉ L → σ a b = ρ a b
theorem sx.refl (L : List Nat) (σ : mS) : sx L σ σ := fun _ _ _ => rfl
theorem sx.trans {L : List Nat} {σ ρ π : mS} (h : sx L σ ρ) (g : sx L ρ π) : sx L σ π := fun a b n => (h a b n).trans (g a b n)
theorem sx.symm {L : List Nat} {σ ρ : mS} (h : sx L σ ρ) : sx L ρ σ := fun a b n => (h a b n).symm
theorem sx.su {L : List Nat} (σ : mS) {k : Nat} (i : Nat) (v : Int32) (hk : k ∈ L) : sx L (su σ k i v) σ := fun a b n => su_n (fun e => n (e ▸ hk))
theorem sx.st {L : List Nat} (σ : mS) {k : Nat} (Z : Nat → Int32) (hk : k ∈ L) : sx L (st σ k Z) σ := fun a b n => st_ne b (fun e => n (e ▸ hk))
theorem sx.mono {L K : List Nat} {σ ρ : mS} (h : sx L σ ρ) (s : ∀ a, a ∈ L → a ∈ K) : sx K σ ρ := fun a b n => h a b (fun e => n (s a e))
theorem sx.yq {L : List Nat} {σ ρ : mS} (h : sx L σ ρ) (g : ∀ a, a ∈ L → 14 < a) : yq σ ρ := fun a b h1 h2 => h a b (fun e => by have := g a e; omega)
theorem ql_cg {σ ρ : mS} (h : yq σ ρ) (m : Nat) (p : Nat → Nat) (q : zQ) : ql σ m p q = ql ρ m p q := by
  unfold ql
  rw [h 1 0 (by decide) (by decide)]
  refine it_cg (hi := N (ρ 1 0)) (fun a q _ => ?_) _ 0 q (by omega)
  unfold ql1
  rw [h 4 _ (by decide) (by decide)]
  refine it_cg (hi := N (ρ 4 (6 * a + p a))) (fun l q _ => ?_) _ 0 q (by omega)
  unfold ql2
  rw [h 5 _ (by decide) (by decide), h 6 _ (by decide) (by decide)]
theorem ql_pcg {σ : mS} {p r : Nat → Nat} (h : ∀ a, a < N (σ 1 0) → p a = r a) (m : Nat) (q : zQ) : ql σ m p q = ql σ m r q := by
  unfold ql
  refine it_cg (hi := N (σ 1 0)) (fun a q ha => ?_) _ 0 q (by omega)
  unfold ql1
  rw [h a ha]
theorem qt_cg {σ ρ : mS} (h : yq σ ρ) (m x : Nat) (q : zQ) : qt σ m x q = qt ρ m x q := by
  unfold qt
  rw [h 11 _ (by decide) (by decide)]
  refine it_cg (hi := N (ρ 11 x)) (fun t q _ => ?_) _ 0 q (by omega)
  unfold qt1
  rw [h 12 _ (by decide) (by decide), h 13 _ (by decide) (by decide), h 14 _ (by decide) (by decide)]
def soonOf (b : Int32) : Int32 := if b &&& (1 : Int32) = (1 : Int32) then ((-2 : Int32) * (b >>> ((1 : Int32) &&& 31))) + (0 : Int32) else ((-2 : Int32) * (b >>> ((1 : Int32) &&& 31))) + (1 : Int32)
/-- what arriving does to the zone -/
def qar (σ : mS) (m : Nat) (p : Nat → Nat) (q : zQ) : zQ := ql σ m p (qps m (ql σ m p q))
section Go
variable {σ : mS} {τ : mL} {m : Nat} {R : Int32 × mS × mL} {q : zQ}
theorem arrive_q (hm : m ≤ 5) (hm1 : 1 ≤ m) (h16 : σ 16 0 = J m) (hW : WY σ) {p : Nat → Nat} (hp : ∀ a, a < N (σ 1 0) → σ 38 a = J (p a) ∧ p a < 6) (x : Int32) : Ev (fun n => Mo_arrive_f n x (ez σ q) τ) (0, ez (su σ 39 0 (if x = 0 then 0 else soonOf ((ql σ m p q).1 4))) (qar σ m p q), τ) := by
  unfold Mo_arrive_f
  have key : ∀ v, Ev (fun n => obd (Mo_passOn_f n 0 0 (su (ez σ (ql σ m p q)) 39 0 v) τ) (fun r5 => obd (Mo_limitAll_f n 0 0 0 0 r5.2.1 r5.2.2) (fun r6 => some ((0 : Int32), r6.2.1, r6.2.2)))) (0, ez (su σ 39 0 v) (qar σ m p q), τ) := by
    intro v
    rw [ez_su σ _ 0 v (by decide) (by decide)]
    have e16 : su σ 39 0 v 16 0 = J m := by rw [su_n (by decide)]; exact h16
    have ey : yq (su σ 39 0 v) σ := (sx.su (L := [39]) σ 0 v (by decide)).yq (by decide)
    refine Ev.ob (passOn_q hm hm1 e16) ?_
    refine Ev.ob (limitAll_q (p := p) hm e16 (hW.eq ey) (fun a ha => ?_)) ?_
    · rw [su_n (by decide)]
      refine hp a ?_
      rw [ey 1 0 (by decide) (by decide)] at ha
      exact ha
    · rw [ql_cg ey]
      exact Ev.ret
  refine Ev.ob (limitAll_q hm h16 hW hp) ?_
  have a1 : xin (J 4) 25 = true := xin_J (by omega) (by omega)
  have b1 : Int32.toNatClampNeg (J 4) = 4 := J_nat (by omega)
  simp only [J4, a1, b1, if_true, bnd, ez_15]
  by_cases h : x = 0
  · rw [if_pos h]
    exact Ev.pos h (key _)
  · rw [if_neg h]
    refine Ev.neg h ?_
    unfold soonOf
    by_cases h1 : (ql σ m p q).1 4 &&& (1 : Int32) = (1 : Int32)
    · rw [if_pos h1]
      exact Ev.pos h1 (key _)
    · rw [if_neg h1]
      exact Ev.neg h1 (key _)
/-- the zone of a move: (b, v) takes if some -/
def upp (p : Nat → Nat) (a k : Nat) : Nat → Nat := fun i => if i = a then k else p i
def q1m (σ : mS) (m a w : Nat) (q : zQ) : zQ := qsn m (σ 10 (12 * a + w) ||| 0) (qt σ m (12 * a + w) q)
def q2m (σ : mS) (m a w b v : Nat) (q : zQ) : zQ := qsn m (σ 10 (12 * a + w) ||| σ 10 (12 * b + v)) (qt σ m (12 * b + v) (qt σ m (12 * a + w) q))
def p1m (σ : mS) (a w : Nat) (p : Nat → Nat) : Nat → Nat := upp p a (N (σ 8 (12 * a + w)))
def p2m (σ : mS) (a w b v : Nat) (p : Nat → Nat) : Nat → Nat := upp (upp p a (N (σ 8 (12 * a + w)))) b (N (σ 8 (12 * b + v)))
def sel (x : Int32) (b : Int32) : Int32 := if x = 0 then 0 else soonOf b
theorem J_nneg {k : Nat} (h : k < 2147483648) : ¬ (J k < 0) := by
  rw [J0, J_lt h (by omega)]
  omega
theorem J_pos {k : Nat} (h : k < 2147483648) : 0 ≤ J k := by
  rw [J0, J_le (by omega) h]
  omega
theorem go1_q (hm : m ≤ 5) (hm1 : 1 ≤ m) (h16 : σ 16 0 = J m) (hW : WY σ) {p : Nat → Nat} (hp : ∀ i, i < N (σ 1 0) → σ 38 i = J (p i) ∧ p i < 6) {a w : Nat} (ha : a < 3) (hw : w < 12) (x : Int32) {y : Int32} (neg1 : y < 0) (neg1' : ¬ (0 ≤ y)) (u : Int32) : ∃ σ', Ev (fun n => Mo_go_f n (J a) (J w) y u x (ez σ q) τ) (0, ez σ' (qar σ m (p1m σ a w p) (q1m σ m a w q)), τ) ∧ sx [18, 38, 39] σ' σ ∧ σ' 39 0 = sel x ((ql σ m (p1m σ a w p) (q1m σ m a w q)).1 4) ∧ ∀ i, i < N (σ 1 0) → σ' 38 i = J (p1m σ a w p i) ∧ p1m σ a w p i < 6 := by
  have hx : 12 * a + w < 36 := by omega
  have hto := (hW.2.2.2.2.1 (12 * a + w) hx).2.1
  have hto2 : N (σ 8 (12 * a + w)) ≤ 5 := hto.2
  have a1 : xin (J (12 * a + w)) 36 = true := xin_J (by omega) (by omega)
  have a2 : xin (J a) 3 = true := xin_J (by omega) (by omega)
  have b1 : Int32.toNatClampNeg (J (12 * a + w)) = 12 * a + w := J_nat (by omega)
  have b2 : Int32.toNatClampNeg (J a) = a := J_nat (by omega)
  let σ1 : mS := ws σ (qt σ m (12 * a + w) q)
  have s1 : sx [18, 38, 39] σ1 σ := sx.st _ _ (by decide)
  let σ2 : mS := su σ1 38 a (σ1 8 (12 * a + w))
  have s2 : sx [18, 38, 39] σ2 σ := (sx.su _ _ _ (by decide)).trans s1
  have y2 : yq σ2 σ := s2.yq (by decide)
  have hp2 : ∀ i, i < N (σ 1 0) → σ2 38 i = J (p1m σ a w p i) ∧ p1m σ a w p i < 6 := by
    intro i hi
    show (if 38 = 38 ∧ i = a then σ1 8 (12 * a + w) else σ1 38 i) = J (upp p a (N (σ 8 (12 * a + w))) i) ∧ upp p a (N (σ 8 (12 * a + w))) i < 6
    unfold upp
    by_cases h : i = a
    · rw [if_pos ⟨rfl, h⟩, if_pos h, s1 8 _ (by decide)]
      exact ⟨hto.1, by omega⟩
    · rw [if_neg (fun e => h e.2), if_neg h]
      have e : σ1 38 i = σ 38 i := st_ne i (by decide)
      rw [e]
      exact hp i hi
  have key := arrive_q (σ := σ2) (τ := τ) (q := q1m σ m a w q) (p := p1m σ a w p) hm hm1 (by rw [s2 16 0 (by decide)]; exact h16) (hW.eq y2) (fun i hi => hp2 i (by rw [← y2 1 0 (by decide) (by decide)]; exact hi)) x
  refine ⟨su σ2 39 0 (if x = 0 then 0 else soonOf ((ql σ2 m (p1m σ a w p) (q1m σ m a w q)).1 4)), ?_, (sx.su _ _ _ (by decide)).trans s2, ?_, ?_⟩
  · unfold Mo_go_f
    refine Ev.ob (testAll_q hm h16 hW ha hw) ?_
    simp only [J12, J_mul, J_add, a1, a2, b1, b2, if_true, bnd, neg1, neg1', if_false]
    try dsimp only
    rw [ez_ne σ _ _ (by decide) (by decide)]
    refine Ev.ob (setNull_q hm h16) ?_
    dsimp only
    rw [ez_ne (ws _ _) _ (12 * a + w) (by decide) (by decide), ez_su _ _ _ _ (by decide) (by decide)]
    refine Ev.ob key ?_
    have e : qar σ2 m (p1m σ a w p) (q1m σ m a w q) = qar σ m (p1m σ a w p) (q1m σ m a w q) := by
      unfold qar
      rw [ql_cg y2, ql_cg y2]
    rw [e]
    exact Ev.ret
  · rw [su_e, ql_cg y2]
    rfl
  · intro i hi
    rw [su_n (by decide)]
    exact hp2 i hi
theorem go2_q (hm : m ≤ 5) (hm1 : 1 ≤ m) (h16 : σ 16 0 = J m) (hW : WY σ) {p : Nat → Nat} (hp : ∀ i, i < N (σ 1 0) → σ 38 i = J (p i) ∧ p i < 6) {a w b v : Nat} (ha : a < 3) (hw : w < 12) (hb : b < 3) (hv : v < 12) (x : Int32) : ∃ σ', Ev (fun n => Mo_go_f n (J a) (J w) (J b) (J v) x (ez σ q) τ) (0, ez σ' (qar σ m (p2m σ a w b v p) (q2m σ m a w b v q)), τ) ∧ sx [18, 38, 39] σ' σ ∧ σ' 39 0 = sel x ((ql σ m (p2m σ a w b v p) (q2m σ m a w b v q)).1 4) ∧ ∀ i, i < N (σ 1 0) → σ' 38 i = J (p2m σ a w b v p i) ∧ p2m σ a w b v p i < 6 := by
  have hx : 12 * a + w < 36 := by omega
  have hy : 12 * b + v < 36 := by omega
  have hto := (hW.2.2.2.2.1 (12 * a + w) hx).2.1
  have hto2 : N (σ 8 (12 * a + w)) ≤ 5 := hto.2
  have htb := (hW.2.2.2.2.1 (12 * b + v) hy).2.1
  have htb2 : N (σ 8 (12 * b + v)) ≤ 5 := htb.2
  have a1 : xin (J (12 * a + w)) 36 = true := xin_J (by omega) (by omega)
  have a2 : xin (J a) 3 = true := xin_J (by omega) (by omega)
  have a3 : xin (J (12 * b + v)) 36 = true := xin_J (by omega) (by omega)
  have a4 : xin (J b) 3 = true := xin_J (by omega) (by omega)
  have b1 : Int32.toNatClampNeg (J (12 * a + w)) = 12 * a + w := J_nat (by omega)
  have b2 : Int32.toNatClampNeg (J a) = a := J_nat (by omega)
  have b3 : Int32.toNatClampNeg (J (12 * b + v)) = 12 * b + v := J_nat (by omega)
  have b4 : Int32.toNatClampNeg (J b) = b := J_nat (by omega)
  have n1 : ¬ (J b < 0) := J_nneg (by omega)
  have n2 : 0 ≤ J b := J_pos (by omega)
  let σ1 : mS := ws σ (qt σ m (12 * b + v) (qt σ m (12 * a + w) q))
  have s1 : sx [18, 38, 39] σ1 σ := sx.st _ _ (by decide)
  let σ3 : mS := su σ1 38 a (σ1 8 (12 * a + w))
  have s3 : sx [18, 38, 39] σ3 σ := (sx.su _ _ _ (by decide)).trans s1
  let σ2 : mS := su σ3 38 b (σ3 8 (12 * b + v))
  have s2 : sx [18, 38, 39] σ2 σ := (sx.su _ _ _ (by decide)).trans s3
  have y2 : yq σ2 σ := s2.yq (by decide)
  have hp2 : ∀ i, i < N (σ 1 0) → σ2 38 i = J (p2m σ a w b v p i) ∧ p2m σ a w b v p i < 6 := by
    intro i hi
    show (if 38 = 38 ∧ i = b then σ3 8 (12 * b + v) else (if 38 = 38 ∧ i = a then σ1 8 (12 * a + w) else σ1 38 i)) = J (upp (upp p a (N (σ 8 (12 * a + w)))) b (N (σ 8 (12 * b + v))) i) ∧ upp (upp p a (N (σ 8 (12 * a + w)))) b (N (σ 8 (12 * b + v))) i < 6
    unfold upp
    by_cases g : i = b
    · rw [if_pos ⟨rfl, g⟩, if_pos g, s3 8 _ (by decide)]
      exact ⟨htb.1, by omega⟩
    · rw [if_neg (fun e => g e.2), if_neg g]
      by_cases h : i = a
      · rw [if_pos ⟨rfl, h⟩, if_pos h, s1 8 _ (by decide)]
        exact ⟨hto.1, by omega⟩
      · rw [if_neg (fun e => h e.2), if_neg h]
        have e : σ1 38 i = σ 38 i := st_ne i (by decide)
        rw [e]
        exact hp i hi
  have key := arrive_q (σ := σ2) (τ := τ) (q := q2m σ m a w b v q) (p := p2m σ a w b v p) hm hm1 (by rw [s2 16 0 (by decide)]; exact h16) (hW.eq y2) (fun i hi => hp2 i (by rw [← y2 1 0 (by decide) (by decide)]; exact hi)) x
  refine ⟨su σ2 39 0 (if x = 0 then 0 else soonOf ((ql σ2 m (p2m σ a w b v p) (q2m σ m a w b v q)).1 4)), ?_, (sx.su _ _ _ (by decide)).trans s2, ?_, ?_⟩
  · unfold Mo_go_f
    refine Ev.ob (testAll_q hm h16 hW ha hw) ?_
    simp only [J12, J_mul, J_add, a1, a2, a3, a4, b1, b2, b3, b4, if_true, bnd, n1, n2, if_false]
    refine Ev.ob (testAll_q hm h16 hW hb hv) ?_
    dsimp only
    rw [ez_ne σ _ _ (by decide) (by decide), ez_ne σ _ _ (by decide) (by decide)]
    refine Ev.ob (setNull_q hm h16) ?_
    dsimp only
    rw [ez_ne (ws _ _) _ (12 * a + w) (by decide) (by decide), ez_su _ _ _ _ (by decide) (by decide), ez_ne _ _ (12 * b + v) (by decide) (by decide), ez_su _ _ _ _ (by decide) (by decide)]
    refine Ev.ob key ?_
    have e : qar σ2 m (p2m σ a w b v p) (q2m σ m a w b v q) = qar σ m (p2m σ a w b v p) (q2m σ m a w b v q) := by
      unfold qar
      rw [ql_cg y2, ql_cg y2]
    rw [e]
    exact Ev.ret
  · rw [su_e, ql_cg y2]
    rfl
  · intro i hi
    rw [su_n (by decide)]
    exact hp2 i hi
end Go
